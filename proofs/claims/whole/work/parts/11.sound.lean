/-! ONE STEP IS SOUND -/
section
variable {p : Program} {l : Launch} {e : Env} {R : Room} {s : State} {m : MethodId} {args : Array Value} {below : List Frame} {meth : Method} {c : Code} {D : va_G} {ad : Nat → Nat} {cA : Nat → ClassId} {A : Nat → Prop} {nL : Nat} {m0 : Int → Int} {cells slots : Nat} {Qf : State → Prop} {cc : ByteArray} {own d : Nat} {S : Option Int}
theorem es_okc {v : AV} {st : List AV} (h : es_ok v) (hs : ∀ v ∈ st, es_ok v) : ∀ w ∈ v :: st, es_ok w := List.forall_mem_cons.mpr ⟨h, hs⟩
theorem es_ok1 {v : AV} {st : List AV} (h : ∀ w ∈ v :: st, es_ok w) : es_ok v ∧ ∀ w ∈ st, es_ok w := List.forall_mem_cons.mp h
theorem es_rng_i {M : es_M} (h : es_rng M) {k : Nat} {ty : FieldType} {n : Int} (hk : es_layL[k]? = some (.inl (ty, n))) (ht : ty ≠ .long) (j : Int) : es_r32 (M k j) := by
  have := h k j
  rw [hk] at this
  split at this
  · rename_i e
    simp only [Option.some.injEq, Sum.inl.injEq, Prod.mk.injEq] at e
    exact absurd e.1 ht
  · exact this
theorem es_rng_l {M : es_M} (h : es_rng M) {k : Nat} {n : Int} (hk : es_layL[k]? = some (.inl (.long, n))) (j : Int) : es_r64 (M k j) := by
  have := h k j
  rw [hk] at this
  exact this
theorem es_rng_o {M : es_M} (h : es_rng M) {k ci : Nat} {fl : List Nat} (hk : es_layL[k]? = some (.inr (.inl (ci, fl)))) (j : Int) : es_r32 (M k j) := by
  have := h k j
  rw [hk] at this
  exact this
theorem es_rng_u {M : es_M} (h : es_rng M) {k : Nat} {j v : Int} (hv : match es_layL[k]? with | some (.inl (.long, _)) => es_r64 v | _ => es_r32 v) : es_rng (es_upd M k j v) := by
  intro c' j'
  unfold es_upd
  by_cases q : c' = k ∧ j' = j
  · rw [if_pos q, q.1]
    exact hv
  · rw [if_neg q]
    exact h c' j'
theorem es_upd_o {M : es_M} {k : Nat} {j v : Int} : ∀ k', k' ≠ k → es_upd M k j v k' = M k' := fun k' h => funext fun j' => if_neg fun q => h q.1
theorem es_lay_lt {S : Option Int} {k : Nat} (h : Nat.blt k 140 = true) : es_lay S k = es_layL[k]? := by
  have : k < 140 := by simpa [Nat.blt_eq] using h
  unfold es_lay
  rw [show Nat.beq k 140 = false by rw [← Bool.not_eq_true, Nat.beq_eq]; omega]
  rfl
theorem es_lay_o {S : Option Int} {k : Nat} {r : (Nat × List Nat) ⊕ List Nat} (h : es_lay S k = some (.inr r)) : es_layL[k]? = some (.inr r) := by
  unfold es_lay at h
  by_cases q : Nat.beq k 140 = true
  · rw [q] at h
    cases S <;> simp at h
  · rw [Bool.not_eq_true] at q
    rw [q] at h
    exact h
theorem es_lay_t {S : Option Int} {k : Nat} {ty : FieldType} {n : Int} (ht : ty ≠ .int) (h : es_lay S k = some (.inl (ty, n))) : es_layL[k]? = some (.inl (ty, n)) := by
  unfold es_lay at h
  by_cases q : Nat.beq k 140 = true
  · rw [q] at h
    cases S with
    | none => simp at h
    | some sl => simp at h; exact absurd h.1.symm ht
  · rw [Bool.not_eq_true] at q
    rw [q] at h
    exact h
theorem es_lay_s {S : Option Int} {k : Nat} {ty : FieldType} {n : Int} (h : es_lay S k = some (.inl (ty, n))) : es_layL[k]? = some (.inl (ty, n)) ∨ (k = 140 ∧ S = some n ∧ ty = .int) := by
  unfold es_lay at h
  by_cases q : Nat.beq k 140 = true
  · rw [q] at h
    cases S with
    | none => simp at h
    | some sl => simp at h; exact Or.inr ⟨Nat.eq_of_beq_eq_true q, by rw [h.2], h.1.symm⟩
  · rw [Bool.not_eq_true] at q
    rw [q] at h
    exact Or.inl h
theorem es_lay_lt2 {k : Nat} {c : es_C} (h : es_layL[k]? = some c) : k < 140 := by
  have hl : k < es_layL.length := (List.getElem?_eq_some_iff.mp h).1
  rwa [es_len] at hl
theorem es_m140 {M : es_M} {m0 : Int → Int} {k : Nat} {j v : Int} (h : M 140 = m0) (hk : k < 140) : es_upd M k j v 140 = m0 := by rw [es_upd_o 140 (by omega), h]
theorem es_fun_i {M : es_M} {k : Nat} {j v : Int} (hj : es_r32 j) (h0 : 0 ≤ j) : upd (fun j => Int32.ofInt (M k j)) (Int32.ofInt j).toNatClampNeg (Int32.ofInt v) = fun i : Nat => Int32.ofInt (es_upd M k j v k i) := by
  funext i
  have := es_clm hj h0
  unfold upd es_upd
  by_cases q : i = (Int32.ofInt j).toNatClampNeg
  · rw [if_pos q, if_pos ⟨rfl, by omega⟩]
  · rw [if_neg q, if_neg (fun z => q (by omega))]
theorem es_fun_l {M : es_M} {k : Nat} {j v : Int} (hj : es_r32 j) (h0 : 0 ≤ j) : vp_updL (fun j => Int64.ofInt (M k j)) (Int32.ofInt j).toNatClampNeg (Int64.ofInt v) = fun i : Nat => Int64.ofInt (es_upd M k j v k i) := by
  funext i
  have := es_clm hj h0
  unfold vp_updL es_upd
  by_cases q : i = (Int32.ofInt j).toNatClampNeg
  · rw [if_pos q, if_pos ⟨rfl, by omega⟩]
  · rw [if_neg q, if_neg (fun z => q (by omega))]
theorem es_cpy_o {M : es_M} {a b : Nat} {sp dp n : Int} : ∀ k', k' ≠ b → es_cpy M a sp b dp n k' = M k' := fun k' h => funext fun j' => if_neg fun q => h q.1
theorem es_fs_get {ad : Nat → Nat} {M : es_M} {k j o : Nat} {fl : List Nat} (h : fl[j]? = some o) : (fl.mapIdx fun j o => es_fv ad (M k j) o)[j]? = some (es_fv ad (M k j) o) := by simp [List.getElem?_mapIdx, h]
theorem es_fs_set {ad : Nat → Nat} {M : es_M} {k j o : Nat} {v : Int} {fl : List Nat} (h : fl[j]? = some o) : (fl.mapIdx fun j o => es_fv ad (M k j) o).set j (es_fv ad v o) = fl.mapIdx fun j' o => es_fv ad (es_upd M k j v k j') o := by
  apply List.ext_getElem?
  intro i
  have hl : j < fl.length := (List.getElem?_eq_some_iff.mp h).1
  rw [List.getElem?_set]
  by_cases q : j = i
  · subst q
    rw [if_pos rfl, if_pos (by simpa using hl)]
    simp [List.getElem?_mapIdx, h, es_upd]
  · rw [if_neg q]
    simp only [List.getElem?_mapIdx]
    cases fl[i]? with
    | none => rfl
    | some o' =>
      simp only [Option.map_some]
      rw [show es_upd M k j v k i = M k i from if_neg (fun z => q (by have := z.2; omega))]
theorem es_push_ok {ret : Option FieldType} {y : Int} {rest : List AV} (hok : ∀ v, es_res ret y = some v → es_ok v) (hst : ∀ v ∈ rest, es_ok v) : ∀ w ∈ es_push (es_kind ret) y rest, es_ok w := by
  cases ret with
  | none => exact hst
  | some ty => cases ty <;> exact es_okc (hok _ rfl) hst
theorem es_push_eq {ad : Nat → Nat} {ret : Option FieldType} {y : Int} {rest : List AV} : ((es_res ret y).map (es_V ad)).toList ++ rest.map (es_V ad) = (es_push (es_kind ret) y rest).map (es_V ad) := by
  cases ret with
  | none => rfl
  | some ty => cases ty <;> rfl
/-- a call, seen from the caller -/
theorem es_back {q : es_I} {M : es_M} {Q : Int → es_M → Prop} {rest : List AV} {pc : Nat} {L : es_L} {H : Heap} {locs : List Loc} {ls : Array Slot} {st0 : List Value} {a : Array Value}
    (hr : va_Run p l e R s m args below meth c H locs cells slots 0 0 (F0 m pc ls st0) (rest.map (es_V ad)) (es_Qc ad D cA q.2.2.2.1 (M 140) Q a) (es_A ad))
    (hm : M 140 = m0) (hA : ∀ k, k < 140 → A (ad k)) (hL : es_LR ad nL L ls) (hst : ∀ v ∈ rest, es_ok v) (hS : va_S A s.heap H locs)
    (hK : ∀ y M', Q y M' → es_G p l e R s m args below meth c D ad cA A nL m0 cells slots Qf (pc + 3) L (es_push (es_kind q.2.2.2.1) y rest) M') :
    W p l e R s m args below meth c H locs cells slots Qf (F0 m pc ls st0) := by
  intro T hT X
  obtain ⟨v, st₀, t, T', LL, h0, X', hLL, e1, e2, ⟨⟨y, M', hv, hok, hrng, hm', hQ, hP'⟩, hF⟩, st⟩ := hr T hT X
  have hAA : ∀ q, es_A ad q → A q := fun q ⟨k, hk, e⟩ => e ▸ hA k hk
  have hS' : va_S A s.heap T'.heap (locs ++ LL) := by
    rw [e1]
    obtain ⟨z1, z2⟩ := hF
    rw [h0] at z1 z2
    refine ⟨Nat.le_trans hS.1 z1, fun q hq hn => ?_, fun z hz => ?_⟩
    · rw [z2 q (Nat.lt_of_lt_of_le hq hS.1) (fun h => hn (hAA q h)), hS.2.1 q hq hn]
    · rcases List.mem_append.mp hz with h | h
      · exact hS.2.2 z h
      · exact hAA _ (hLL z h)
  have hst' : ∀ w ∈ es_push (es_kind q.2.2.2.1) y rest, es_ok w := es_push_ok hok hst
  have hs : v.toList ++ rest.map (es_V ad) = (es_push (es_kind q.2.2.2.1) y rest).map (es_V ad) := by
    have hv' := Outcome.returned.inj hv
    subst hv'
    exact es_push_eq
  obtain ⟨t2, a1, b1⟩ := hK y M' hQ T'.heap (locs ++ LL) ls hL hst' hrng (by rw [hm', hm]) (by rw [e1]; exact hP') hS' T' rfl X'
  refine ⟨t2, st t2 ?_, b1⟩
  have hg : ({ (F0 m pc ls st0) with pc := (F0 m pc ls st0).pc + 3, stack := v.toList ++ rest.map (es_V ad) } : JFrame) = F0 m (pc + 3) ls ((es_push (es_kind q.2.2.2.1) y rest).map (es_V ad)) := by rw [← hs]
  rw [hg]
  exact a1
end
