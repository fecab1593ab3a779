/-! THE FRESH WORLD: the cells that the two constructors leave are cells in numbers -/
def fr_go {α β : Type} (f : Nat → α → β) : Nat → List α → List β
  | _, [] => []
  | k, a :: l => f k a :: fr_go f (k + 1) l
theorem fr_go_get {α β : Type} (f : Nat → α → β) : ∀ (l : List α) (k i : Nat), (fr_go f k l)[i]? = (l[i]?).map (f (k + i))
  | [], k, i => by simp [fr_go]
  | a :: l, k, 0 => by simp [fr_go]
  | a :: l, k, i + 1 => by
    simp only [fr_go, List.getElem?_cons_succ]
    rw [fr_go_get f l (k + 1) i, show k + 1 + i = k + (i + 1) by omega]
theorem fr_go_idx {α β : Type} (f : Nat → α → β) (l : List α) : l.mapIdx f = fr_go f 0 l := by
  apply List.ext_getElem?
  intro i
  rw [fr_go_get, List.getElem?_mapIdx, Nat.zero_add]
def fr_E (ad : Nat → Nat) (cA : Nat → ClassId) (M : es_M) (k : Nat) : es_C → Nat × va_E
  | .inl (.long, n) => (ad k, .inl (cA k, n.toNat, .inr (.inl fun j => Int64.ofInt (M k j))))
  | .inl (_, n) => (ad k, .inl (cA k, n.toNat, .inl fun j => Int32.ofInt (M k j)))
  | .inr (.inl (ci, fl)) => (ad k, .inr (ci, fr_go (fun j o => es_fv ad (M k j) o) 0 fl))
  | .inr (.inr _) => (ad k, .inl (cA k, 3, .inr (.inr (.inr (.inr (va_up (va_up (va_up (fun _ => none) 0 (some (ad 25))) 1 (some (ad 35))) 2 (some (ad 45))))))))
theorem fr_kept (ad : Nat → Nat) : (fun j : Nat => ([25, 35, 45] : List Nat)[j]?.map ad) = va_up (va_up (va_up (fun _ => none) 0 (some (ad 25))) 1 (some (ad 35))) 2 (some (ad 45)) := by
  funext j
  match j with
  | 0 => rfl
  | 1 => rfl
  | 2 => rfl
  | n + 3 => simp [va_up]
def fr_isK : es_C → Bool
  | .inr (.inr ks) => decide (ks = [25, 35, 45])
  | _ => true
theorem fr_isK_ok : es_layL.all fr_isK = true := by decide +kernel
theorem fr_E_eq (ad : Nat → Nat) (cA : Nat → ClassId) (M : es_M) (k : Nat) (c : es_C) (h : fr_isK c = true) : (ad k, es_E ad cA M k c) = fr_E ad cA M k c := by
  rcases c with ⟨ty, n⟩ | ⟨ci, fl⟩ | ks
  · cases ty <;> rfl
  · simp only [es_E, fr_E]
    rw [fr_go_idx]
  · simp only [fr_isK, decide_eq_true_eq] at h
    subst h
    simp only [es_E, fr_E]
    rw [fr_kept]
    rfl
theorem fr_ws (ad : Nat → Nat) (cA : Nat → ClassId) (M : es_M) : es_ws ad cA M = fr_go (fr_E ad cA M) 0 es_layL := by
  apply List.ext_getElem?
  intro i
  rw [fr_go_get, es_ws, List.getElem?_mapIdx, Nat.zero_add]
  cases h : es_layL[i]? with
  | none => rfl
  | some c =>
    simp only [Option.map_some]
    rw [fr_E_eq ad cA M i c (List.all_eq_true.mp fr_isK_ok c (List.mem_of_getElem? h))]
def fr_ad (h0 : Nat) (q : Nat → Nat) (m0 : Nat) (q' : Nat → Nat) (o b : Nat) (k : Nat) : Nat := cond (Nat.beq k 0) h0 (cond (Nat.blt k 91) (q k) (cond (Nat.beq k 91) m0 (cond (Nat.blt k 139) (q' (k - 92)) (cond (Nat.beq k 139) o b))))
def fr_cA (c c' : Nat → ClassId) (cO : ClassId) (k : Nat) : ClassId := cond (Nat.blt k 91) (c k) (cond (Nat.blt k 139) (c' (k - 92)) cO)
def fr_v : List (Nat × Int) := [(8, -1), (9, -2), (13, -1), (20, 100), (22, 1439), (23, -1), (31, 100), (33, 1439), (34, -1), (41, 100), (43, 1439), (44, -1), (51, 100), (53, 1439), (54, -1), (100, 1439), (101, -1), (121, 100)]
def fr_look : List (Nat × Int) → Nat → Int
  | [], _ => 0
  | a :: r, c => cond (Nat.beq c a.1) a.2 (fr_look r c)
def fr_M (x : Int → Int) (c : Nat) (j : Int) : Int := cond (Nat.beq c 140) (x j) (cond (Nat.beq c 60) (if j = 5 then 1 else 0) (fr_look fr_v c))
theorem fr_fresh (x : Int → Int) : Fresh (fr_M x) := by
  refine ⟨fun _ => rfl, fun _ _ _ => rfl, fun _ _ _ => rfl, fun _ _ _ => rfl, fun _ _ _ => rfl, fun _ => rfl, fun _ _ _ => rfl, fun _ _ _ => ⟨rfl, rfl⟩, fun _ _ _ => rfl, ⟨rfl, rfl, rfl⟩, rfl, rfl, rfl, fun _ => rfl, fun _ _ _ => ⟨rfl, rfl, rfl⟩, fun _ _ _ => rfl, fun _ _ _ => rfl, fun _ _ _ => ⟨rfl, rfl⟩, fun _ _ _ => rfl, fun _ _ _ => rfl⟩
theorem fr_look_r : ∀ (l : List (Nat × Int)) (c : Nat), (∀ a ∈ l, es_r32 a.2) → es_r32 (fr_look l c)
  | [], _, _ => es_r0
  | a :: r, c, h => by
    unfold fr_look
    cases Nat.beq c a.1 with
    | true => exact h a List.mem_cons_self
    | false => exact fr_look_r r c (fun b hb => h b (List.mem_cons_of_mem _ hb))
theorem fr_r32 {x : Int → Int} (hx : ∀ j, es_r32 (x j)) (c : Nat) (j : Int) : es_r32 (fr_M x c j) := by
  unfold fr_M
  cases Nat.beq c 140 with
  | true => exact hx j
  | false =>
    cases Nat.beq c 60 with
    | true =>
      show es_r32 (if j = 5 then 1 else 0)
      split <;> exact ⟨by decide, by decide⟩
    | false =>
      refine fr_look_r fr_v c (fun a ha => ?_)
      have h : fr_v.all (fun a => decide (-2147483648 ≤ a.2 ∧ a.2 < 2147483648)) = true := by decide +kernel
      have := List.all_eq_true.mp h a ha
      simp only [decide_eq_true_eq] at this
      exact ⟨by omega, by omega⟩
theorem fr_rng {x : Int → Int} (hx : ∀ j, es_r32 (x j)) : es_rng (fr_M x) := by
  intro c j
  have h := fr_r32 hx c j
  split
  · exact ⟨by have := h.1; omega, by have := h.2; omega⟩
  · exact h
/-- the classes of the arrays -/
def fr_tl (cA : Nat → ClassId) : Nat → List es_C → List (ClassId × FieldType)
  | _, [] => []
  | k, .inl (ty, _) :: r => (cA k, ty) :: fr_tl cA (k + 1) r
  | k, .inr (.inr _) :: r => (cA k, .object "EveryStreet$State") :: fr_tl cA (k + 1) r
  | k, .inr (.inl _) :: r => fr_tl cA (k + 1) r
theorem fr_tl_i {cA : Nat → ClassId} : ∀ (l : List es_C) (k i : Nat) (ty : FieldType) (n : Int), l[i]? = some (.inl (ty, n)) → (cA (k + i), ty) ∈ fr_tl cA k l
  | [], _, _, _, _, h => by simp at h
  | a :: l, k, 0, ty, n, h => by
    simp only [List.getElem?_cons_zero, Option.some.injEq] at h
    subst h
    exact List.mem_cons_self
  | a :: l, k, i + 1, ty, n, h => by
    simp only [List.getElem?_cons_succ] at h
    have z := fr_tl_i (cA := cA) l (k + 1) i ty n h
    rw [show k + 1 + i = k + (i + 1) by omega] at z
    rcases a with ⟨ty', n'⟩ | ⟨ci, fl⟩ | ks
    · exact List.mem_cons_of_mem _ z
    · exact z
    · exact List.mem_cons_of_mem _ z
theorem fr_tl_o {cA : Nat → ClassId} : ∀ (l : List es_C) (k i : Nat) (ks : List Nat), l[i]? = some (.inr (.inr ks)) → (cA (k + i), FieldType.object "EveryStreet$State") ∈ fr_tl cA k l
  | [], _, _, _, h => by simp at h
  | a :: l, k, 0, ks, h => by
    simp only [List.getElem?_cons_zero, Option.some.injEq] at h
    subst h
    exact List.mem_cons_self
  | a :: l, k, i + 1, ks, h => by
    simp only [List.getElem?_cons_succ] at h
    have z := fr_tl_o (cA := cA) l (k + 1) i ks h
    rw [show k + 1 + i = k + (i + 1) by omega] at z
    rcases a with ⟨ty', n'⟩ | ⟨ci, fl⟩ | ks'
    · exact List.mem_cons_of_mem _ z
    · exact z
    · exact List.mem_cons_of_mem _ z
theorem fr_tys {cA : Nat → ClassId} {z : ClassId × FieldType} (h : z ∈ es_tys cA) : z ∈ fr_tl cA 0 es_layL := by
  obtain ⟨k, -, hk⟩ := List.mem_filterMap.mp h
  split at hk
  · rename_i ty n he
    cases hk
    have w := fr_tl_i (cA := cA) es_layL 0 k ty n he
    rw [Nat.zero_add] at w
    exact w
  · rename_i ks he
    cases hk
    have w := fr_tl_o (cA := cA) es_layL 0 k ks he
    rw [Nat.zero_add] at w
    exact w
  · cases hk
set_option maxRecDepth 100000 in
set_option maxHeartbeats 4000000 in
theorem fr_tl_eq (c c' : Nat → ClassId) (cO : ClassId) : fr_tl (fr_cA c c' cO) 0 es_layL = tx_EveryStreet c ++ (tx_EveryStreetModel c' ++ [(cO, .long)]) := rfl
set_option maxRecDepth 100000 in
set_option maxHeartbeats 4000000 in
theorem fr_eq (x : Int → Int) (h0 : Nat) (q : Nat → Nat) (m0 : Nat) (q' : Nat → Nat) (o b : Nat) (c c' : Nat → ClassId) (cO : ClassId) :
    fr_go (fr_E (fr_ad h0 q m0 q' o b) (fr_cA c c' cO) (fr_M x)) 0 es_layL = wx_EveryStreet h0 q c ++ (wx_EveryStreetModel m0 q' c' ++ [(o, .inl (cO, 1, .inr (.inl fun _ => 0)))]) := rfl
