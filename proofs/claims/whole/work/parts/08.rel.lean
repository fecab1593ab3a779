/-! what a state of the machine in numbers says of a heap -/
def es_V (ad : Nat → Nat) : AV → Value
  | .inl x => .int (Int32.ofInt x)
  | .inr (.inl x) => .long (Int64.ofInt x)
  | .inr (.inr k) => .ref (ad k)
def es_ok : AV → Prop
  | .inl x => es_r32 x
  | .inr (.inl x) => es_r64 x
  | .inr (.inr _) => True
def es_rng (M : es_M) : Prop := ∀ (c : Nat) (j : Int), match es_layL[c]? with
  | some (.inl (.long, _)) => es_r64 (M c j)
  | _ => es_r32 (M c j)
def es_fv (ad : Nat → Nat) (x : Int) : Nat → Value
  | 0 => .int (Int32.ofInt x)
  | 1 => .int (Int32.ofInt x)
  | k + 2 => .ref (ad k)
def es_E (ad : Nat → Nat) (cA : Nat → ClassId) (M : es_M) (k : Nat) : es_C → va_E
  | .inl (.long, n) => .inl (cA k, n.toNat, .inr (.inl fun j => Int64.ofInt (M k j)))
  | .inl (_, n) => .inl (cA k, n.toNat, .inl fun j => Int32.ofInt (M k j))
  | .inr (.inl (ci, fl)) => .inr (ci, fl.mapIdx fun j o => es_fv ad (M k j) o)
  | .inr (.inr ks) => .inl (cA k, ks.length, .inr (.inr (.inr (.inr fun j => ks[j]?.map ad))))
def es_ws (ad : Nat → Nat) (cA : Nat → ClassId) (M : es_M) : va_W := es_layL.mapIdx fun k c => (ad k, es_E ad cA M k c)
def es_tys (cA : Nat → ClassId) : List (ClassId × FieldType) := (List.range 140).filterMap fun k : Nat => match (es_layL[k]? : Option es_C) with
  | some (.inl (ty, _)) => some (cA k, ty)
  | some (.inr (.inr _)) => some (cA k, .object "EveryStreet$State")
  | _ => none
theorem es_len : es_layL.length = 140 := by decide +kernel
theorem es_ws_at {ad : Nat → Nat} {cA : Nat → ClassId} {M : es_M} {k : Nat} {c : es_C} (h : es_layL[k]? = some c) : (es_ws ad cA M)[k]? = some (ad k, es_E ad cA M k c) := by
  simp [es_ws, List.getElem?_mapIdx, h]
theorem es_ws_of {ad : Nat → Nat} {cA : Nat → ClassId} {M : es_M} {k : Nat} {q : Nat × va_E} (h : (es_ws ad cA M)[k]? = some q) : k < 140 ∧ ∃ c, es_layL[k]? = some c ∧ q = (ad k, es_E ad cA M k c) := by
  rw [es_ws, List.getElem?_mapIdx] at h
  cases hc : es_layL[k]? with
  | none => rw [hc] at h; cases h
  | some c =>
    rw [hc] at h
    have hl : k < es_layL.length := (List.getElem?_eq_some_iff.mp hc).1
    rw [es_len] at hl
    exact ⟨hl, c, rfl, (Option.some.inj h).symm⟩
theorem es_E_eq {ad : Nat → Nat} {cA : Nat → ClassId} {M M' : es_M} {k : Nat} (h : M' k = M k) (c : es_C) : es_E ad cA M' k c = es_E ad cA M k c := by
  rcases c with ⟨ty, n⟩ | ⟨ci, fl⟩ | ks
  · cases ty <;> simp [es_E, h]
  · simp [es_E, h]
  · rfl
theorem es_ws_set {ad : Nat → Nat} {cA : Nat → ClassId} {M M' : es_M} {k : Nat} {c : es_C} (h : es_layL[k]? = some c) (ho : ∀ k', k' ≠ k → M' k' = M k') : (es_ws ad cA M).set k (ad k, es_E ad cA M' k c) = es_ws ad cA M' := by
  apply List.ext_getElem?
  intro i
  rw [List.getElem?_set]
  have hl : k < es_layL.length := (List.getElem?_eq_some_iff.mp h).1
  have hl2 : (es_ws ad cA M).length = es_layL.length := by simp [es_ws]
  by_cases hi : k = i
  · subst hi
    rw [if_pos rfl, if_pos (by omega), es_ws_at h]
  · rw [if_neg hi]
    simp only [es_ws, List.getElem?_mapIdx]
    cases hc : es_layL[i]? with
    | none => rfl
    | some c' =>
      simp only [Option.map_some]
      rw [es_E_eq (ho i (fun q => hi q.symm))]
theorem es_ty_at {cA : Nat → ClassId} {k : Nat} {ty : FieldType} {n : Int} (h : es_layL[k]? = some (.inl (ty, n))) : ∃ t0 : Nat, (es_tys cA)[t0]? = some (cA k, ty) := by
  have hl : k < es_layL.length := (List.getElem?_eq_some_iff.mp h).1
  rw [es_len] at hl
  exact List.getElem?_of_mem (List.mem_filterMap.mpr ⟨k, List.mem_range.mpr hl, by simp [h]⟩)
theorem es_ty_at2 {cA : Nat → ClassId} {k : Nat} {ks : List Nat} (h : es_layL[k]? = some (.inr (.inr ks))) : ∃ t0 : Nat, (es_tys cA)[t0]? = some (cA k, FieldType.object "EveryStreet$State") := by
  have hl : k < es_layL.length := (List.getElem?_eq_some_iff.mp h).1
  rw [es_len] at hl
  exact List.getElem?_of_mem (List.mem_filterMap.mpr ⟨k, List.mem_range.mpr hl, by simp [h]⟩)
def es_inj (ad : Nat → Nat) : Prop := ∀ i j, i < 140 → j < 140 → ad i = ad j → i = j
def es_A (ad : Nat → Nat) : Nat → Prop := fun q => ∃ k, k < 140 ∧ q = ad k
theorem es_D {ad : Nat → Nat} {cA : Nat → ClassId} {M : es_M} {A : Nat → Prop} (hi : es_inj ad) (hA : ∀ k, k < 140 → A (ad k)) : va_D A (es_ws ad cA M) := by
  refine ⟨fun i j p q hp hq h => ?_, fun k q hq => ?_⟩
  · obtain ⟨h1, c1, -, e1⟩ := es_ws_of hp
    obtain ⟨h2, c2, -, e2⟩ := es_ws_of hq
    subst e1; subst e2
    exact hi i j h1 h2 h
  · obtain ⟨h1, c1, -, e1⟩ := es_ws_of hq
    subst e1
    exact hA k h1
def es_WT : List Cond := lw_tbl.filter goodWord
theorem es_WT_at {p : Nat} {w : Cond} (h : es_at p w = true) : w ∈ es_WT := List.mem_filter.mpr (es_at_in h)
def es_NW : List Cond := es_MN.map fun q => .methodLinkNest (es_cn q.1) q.2.1 (es_my q.2.2.1) "EveryStreet"
/-- what is known of the classes -/
def es_U (D : va_G) (cA : Nat → ClassId) (U : State) : Prop := va_K D es_cl (es_tys cA) U ∧ ∀ w ∈ es_NW, va_Nw w U
theorem es_U.warm {D : va_G} {cA : Nat → ClassId} {s U : State} (hW : s.WarmedH U.vm) (h : es_U D cA s) : es_U D cA U := by
  refine ⟨va_K.moved hW.alike h.1, fun w hw => ?_⟩
  obtain ⟨q, hq, rfl⟩ := List.mem_map.mp hw
  exact va_Nw.warmM hW (h.2 _ hw)
theorem es_U.blind {D : va_G} {cA : Nat → ClassId} {U : State} {g : JFrame} {mk : MethodId} {a : Array Value} (h : es_U D cA U) : es_U D cA (U.calling g mk a) := by
  refine ⟨va_K.moved (Vm.Alike.refl U.vm) h.1, fun w hw => ?_⟩
  obtain ⟨q, hq, rfl⟩ := List.mem_map.mp hw
  exact va_Nw.same rfl rfl (h.2 _ hw)
/-- the locals -/
def es_LR (ad : Nat → Nat) (nL : Nat) (L : es_L) (ls : Array Slot) : Prop := L.length = nL ∧ ls.size = nL ∧ lv_wf ls ∧ ∀ (i : Nat) (v : AV), L[i]? = some (some v) → ls[i]? = some (.val (es_V ad v)) ∧ es_ok v
def es_al (ad : Nat → Nat) (L : es_L) : List (Nat × Value) := (List.range L.length).filterMap fun i => match L[i]? with
  | some (some v) => some (i, es_V ad v)
  | _ => none
theorem es_al_mem {ad : Nat → Nat} {L : es_L} {i : Nat} {v : AV} (h : L[i]? = some (some v)) : (i, es_V ad v) ∈ es_al ad L :=
  List.mem_filterMap.mpr ⟨i, List.mem_range.mpr (List.getElem?_eq_some_iff.mp h).1, by simp [h]⟩
theorem es_al_of {ad : Nat → Nat} {L : es_L} {q : Nat × Value} (h : q ∈ es_al ad L) : ∃ v, L[q.1]? = some (some v) ∧ q.2 = es_V ad v := by
  obtain ⟨i, -, hi⟩ := List.mem_filterMap.mp h
  split at hi
  · rename_i v hv
    cases hi
    exact ⟨v, hv, rfl⟩
  · cases hi
theorem es_LR.has {ad : Nat → Nat} {nL : Nat} {L : es_L} {ls : Array Slot} (h : es_LR ad nL L ls) : lv_has ls nL (es_al ad L) := by
  refine ⟨h.2.1, h.2.2.1, fun q hq => ?_⟩
  obtain ⟨v, h1, h2⟩ := es_al_of hq
  rw [h2]
  exact (h.2.2.2 _ _ h1).1
theorem es_catV (ad : Nat → Nat) (v : AV) : (es_V ad v).category = 2 ↔ ∃ x, v = .inr (.inl x) := by
  rcases v with x | x | x <;> simp [es_V, Value.category]
theorem es_LR.put1 {ad : Nat → Nat} {nL : Nat} {L : es_L} {ls : Array Slot} {n : Nat} {v : AV} (h : L.length = nL) (hok : ∀ (i : Nat) (v : AV), L[i]? = some (some v) → es_ok v) (hn : es_nolong L n = true) (hv : es_ok v)
    (hh : lv_has ls nL ((n, es_V ad v) :: (es_al ad L).filter (fun q => !(q.1 == n) && !(q.1 + 1 == n && q.2.category == 2)))) : es_LR ad nL (L.set n (some v)) ls := by
  refine ⟨by simp [h], hh.1, hh.2.1, fun i w hw => ?_⟩
  rw [List.getElem?_set] at hw
  split at hw
  · rename_i e
    subst e
    split at hw
    · cases hw
      exact ⟨hh.2.2 (n, es_V ad v) List.mem_cons_self, hv⟩
    · cases hw
  · rename_i e
    refine ⟨hh.2.2 (i, es_V ad w) (List.mem_cons_of_mem _ (List.mem_filter.mpr ⟨es_al_mem hw, ?_⟩)), hok i w hw⟩
    simp only [Bool.and_eq_true, Bool.not_eq_true', beq_eq_false_iff_ne, ne_eq, Bool.and_eq_false_iff]
    refine ⟨fun q => e q.symm, ?_⟩
    by_cases e2 : i + 1 = n
    · right
      intro hc
      obtain ⟨x, rfl⟩ := (es_catV ad w).mp hc
      subst e2
      simp [es_nolong, hw] at hn
    · left; exact e2
theorem es_LR.put2 {ad : Nat → Nat} {nL : Nat} {L : es_L} {ls : Array Slot} {n : Nat} {v : AV} (h : L.length = nL) (hok : ∀ (i : Nat) (v : AV), L[i]? = some (some v) → es_ok v) (hn : es_nolong L n = true) (hv : es_ok v)
    (hh : lv_has ls nL ((n, es_V ad v) :: (es_al ad L).filter (fun q => !(q.1 == n) && (!(q.1 == n + 1) && !(q.1 + 1 == n && q.2.category == 2))))) : es_LR ad nL ((L.set n (some v)).set (n + 1) none) ls := by
  refine ⟨by simp [h], hh.1, hh.2.1, fun i w hw => ?_⟩
  rw [List.getElem?_set] at hw
  split at hw
  · split at hw <;> cases hw
  · rename_i e1
    rw [List.getElem?_set] at hw
    split at hw
    · rename_i e
      subst e
      split at hw
      · cases hw
        exact ⟨hh.2.2 (n, es_V ad v) List.mem_cons_self, hv⟩
      · cases hw
    · rename_i e
      refine ⟨hh.2.2 (i, es_V ad w) (List.mem_cons_of_mem _ (List.mem_filter.mpr ⟨es_al_mem hw, ?_⟩)), hok i w hw⟩
      simp only [Bool.and_eq_true, Bool.not_eq_true', beq_eq_false_iff_ne, ne_eq, Bool.and_eq_false_iff]
      refine ⟨fun q => e q.symm, fun q => e1 q.symm, ?_⟩
      by_cases e2 : i + 1 = n
      · right
        intro hc
        obtain ⟨x, rfl⟩ := (es_catV ad w).mp hc
        subst e2
        simp [es_nolong, hw] at hn
      · left; exact e2
theorem es_LR.mask {ad : Nat → Nat} {nL : Nat} {L L' : es_L} {ls : Array Slot} (h : es_LR ad nL L ls) (hl : L'.length = nL) (hs : ∀ (i : Nat) (v : AV), L'[i]? = some (some v) → L[i]? = some (some v)) : es_LR ad nL L' ls :=
  ⟨hl, h.2.1, h.2.2.1, fun i v hv => h.2.2.2 i v (hs i v hv)⟩
theorem es_mask_of : ∀ (m : List Bool) (L : es_L), ∀ (i : Nat) (v : AV), (es_mask m L)[i]? = some (some v) → L[i]? = some (some v)
  | [], L, i, v, h => by cases L <;> simp [es_mask] at h
  | true :: m, [], i, v, h => by simp [es_mask] at h
  | false :: m, [], i, v, h => by simp [es_mask] at h
  | true :: m, x :: L, 0, v, h => by simpa [es_mask] using h
  | true :: m, x :: L, i + 1, v, h => by
    simp only [es_mask, List.getElem?_cons_succ] at h ⊢
    exact es_mask_of m L i v h
  | false :: m, x :: L, 0, v, h => by simp [es_mask] at h
  | false :: m, x :: L, i + 1, v, h => by
    simp only [es_mask, List.getElem?_cons_succ] at h ⊢
    exact es_mask_of m L i v h
theorem es_cat_sum (ad : Nat → Nat) : ∀ r : List AV, es_cat r = ((r.map (es_V ad)).map fun v => v.category).sum
  | [] => rfl
  | .inl x :: r => by simp [es_cat, es_V, Value.category, es_cat_sum ad r]
  | .inr (.inl x) :: r => by simp [es_cat, es_V, Value.category, es_cat_sum ad r]
  | .inr (.inr x) :: r => by simp [es_cat, es_V, Value.category, es_cat_sum ad r]
theorem es_pop_of : ∀ (n : Nat) (st acc a r : List AV), es_pop n st acc = some (a, r) → ∃ xs : List AV, xs.length = n ∧ st = xs ++ r ∧ a = xs.reverse ++ acc
  | 0, st, acc, a, r, h => by
    simp only [es_pop, Option.some.injEq, Prod.mk.injEq] at h
    exact ⟨[], rfl, by simp [h.2], by simp [h.1]⟩
  | n + 1, [], acc, a, r, h => by simp [es_pop] at h
  | n + 1, v :: st, acc, a, r, h => by
    simp only [es_pop] at h
    obtain ⟨xs, h1, h2, h3⟩ := es_pop_of n st (v :: acc) a r h
    exact ⟨v :: xs, by simp [h1], by simp [h2], by simp [h3]⟩
