/-! PAIRS OF CALLS: better. The trials -/
def swp (o : Int → Int) (i j k : Int) : Int := if k = j then o i else if k = i then o j else o k
def flp (c : Int) : Int := if c % 2 = 0 then c + 1 else c - 1
def trn (o : Int → Int) (i j k : Int) : Int := if i ≤ k ∧ k ≤ j then flp (o (i + j - k)) else o k
def rkF (i j k : Int) : Int := if k < j then (if k < i then k else k + 1) else (if k - 1 < i then k - 1 else k)
def mov (o : Int → Int) (i j k : Int) : Int := if k = j then o i else o (rkF i j k)
def swF (T : es_M) (n : Int) (o : Int → Int) (i j : Nat) (s : SS) : SS := if i < j then cns T n (swp o i j) s else s
noncomputable def tuF (T : es_M) (n : Int) (o : Int → Int) (i j : Nat) (s : SS) : SS := ifc (i ≤ j ∧ ∀ k : Int, i ≤ k → k ≤ j → canDo T (flp (o k))) (cns T n (trn o i j) s) s
def mvF (T : es_M) (n : Int) (o : Int → Int) (i j : Nat) (s : SS) : SS := if j ≠ i then cns T n (mov o i j) s else s
def swA (T : es_M) (n : Int) (o : Int → Int) : SS → SS := itJ (fun i => itJ (swF T n o i) n.toNat) n.toNat
noncomputable def tuA (T : es_M) (n : Int) (o : Int → Int) : SS → SS := itJ (fun i => itJ (tuF T n o i) n.toNat) n.toNat
def mvA (T : es_M) (n : Int) (o : Int → Int) : SS → SS := itJ (fun i => itJ (mvF T n o i) n.toNat) n.toNat
noncomputable def rdF (T : es_M) (n : Int) (o : Int → Int) (m : Int) : SS := mvA T n o (tuA T n o (swA T n o (m, fun _ => 0)))
theorem itJ_stop {f : Nat → SS → SS} (m : Nat) : ∀ r : Nat, (∀ k, m ≤ k → k < m + r → ∀ s, f k s = s) → ∀ s, itJ f (m + r) s = itJ f m s := by
  intro r
  induction r with
  | zero => intro _ s; rfl
  | succ r ih => intro h s; show f (m + r) (itJ f (m + r) s) = _; rw [h _ (by omega) (by omega), ih (fun k h1 h2 => h k h1 (by omega))]
theorem itJ_id {f : Nat → SS → SS} (m : Nat) (h : ∀ k, k < m → ∀ s, f k s = s) (s : SS) : itJ f m s = s := by
  have := itJ_stop (f := f) 0 m (fun k _ hk => h k (by omega)) s
  rw [Nat.zero_add] at this
  exact this
theorem itJ_c {f g : Nat → SS → SS} : ∀ m : Nat, (∀ k, k < m → f k = g k) → itJ f m = itJ g m := by
  intro m
  induction m with
  | zero => intro _; rfl
  | succ m ih => intro h; funext s; show f m (itJ f m s) = g m (itJ g m s); rw [ih (fun k hk => h k (by omega)), h m (by omega)]
theorem itJ_P {f : Nat → SS → SS} {P : SS → Prop} : ∀ m : Nat, (∀ k, k < m → ∀ s, P s → P (f k s)) → ∀ s, P s → P (itJ f m s) := by
  intro m
  induction m with
  | zero => intro _ s hs; exact hs
  | succ m ih => intro h s hs; exact h m (by omega) _ (ih (fun k hk => h k (by omega)) s hs)
/-! the trials of orders that agree -/
theorem rkF_r {n i j k : Int} (i0 : 0 ≤ i) (i1 : i < n) (j0 : 0 ≤ j) (j1 : j < n) (k0 : 0 ≤ k) (k1 : k < n) (h : k ≠ j) : 0 ≤ rkF i j k ∧ rkF i j k < n ∧ rkF i j k ≠ i := by
  unfold rkF
  split <;> split <;> omega
theorem rkF_inj {n i j k l : Int} (i0 : 0 ≤ i) (i1 : i < n) (k0 : 0 ≤ k) (l0 : 0 ≤ l) (h : k ≠ j) (h' : l ≠ j) (e : rkF i j k = rkF i j l) : k = l := by
  unfold rkF at e
  split at e <;> split at e <;> split at e <;> split at e <;> omega
section
variable {T : es_M} {n : Int} {o o' : Int → Int}
theorem swA_c (n0 : 0 < n) (h : ∀ i, 0 ≤ i → i < n → o i = o' i) : swA T n o = swA T n o' := by
  unfold swA
  refine itJ_c _ (fun i hi => itJ_c _ (fun j hj => ?_))
  funext s
  unfold swF
  by_cases e : i < j
  · rw [if_pos e, if_pos e, cns_c n0 (fun k k0 k1 => ?_)]
    unfold swp
    rw [h i (by omega) (by omega), h j (by omega) (by omega), h k k0 k1]
  · rw [if_neg e, if_neg e]
theorem tuA_c (n0 : 0 < n) (h : ∀ i, 0 ≤ i → i < n → o i = o' i) : tuA T n o = tuA T n o' := by
  unfold tuA
  refine itJ_c _ (fun i hi => itJ_c _ (fun j hj => ?_))
  funext s
  unfold tuF
  have ep : (i ≤ j ∧ ∀ k : Int, i ≤ k → k ≤ j → canDo T (flp (o k))) ↔ (i ≤ j ∧ ∀ k : Int, i ≤ k → k ≤ j → canDo T (flp (o' k))) := by
    constructor
    · rintro ⟨a, b⟩
      exact ⟨a, fun k k0 k1 => by rw [← h k (by omega) (by omega)]; exact b k k0 k1⟩
    · rintro ⟨a, b⟩
      exact ⟨a, fun k k0 k1 => by rw [h k (by omega) (by omega)]; exact b k k0 k1⟩
  by_cases e : (i ≤ j ∧ ∀ k : Int, i ≤ k → k ≤ j → canDo T (flp (o k)))
  · rw [ifc_y e, ifc_y (ep.mp e), cns_c n0 (fun k k0 k1 => ?_)]
    unfold trn
    split
    · rw [h (i + j - k) (by omega) (by omega)]
    · rw [h k k0 k1]
  · rw [ifc_n e, ifc_n (fun z => e (ep.mpr z))]
theorem mvA_c (n0 : 0 < n) (h : ∀ i, 0 ≤ i → i < n → o i = o' i) : mvA T n o = mvA T n o' := by
  unfold mvA
  refine itJ_c _ (fun i hi => itJ_c _ (fun j hj => ?_))
  funext s
  unfold mvF
  by_cases e : j ≠ i
  · rw [if_pos e, if_pos e, cns_c n0 (fun k k0 k1 => ?_)]
    unfold mov
    by_cases e2 : k = j
    · rw [if_pos e2, if_pos e2, h i (by omega) (by omega)]
    · have := rkF_r (n := n) (i := i) (j := j) (k := k) (by omega) (by omega) (by omega) (by omega) k0 k1 e2
      rw [if_neg e2, if_neg e2, h _ this.1 this.2.1]
  · rw [if_neg e, if_neg e]
theorem rdF_c (n0 : 0 < n) (h : ∀ i, 0 ≤ i → i < n → o i = o' i) {m : Int} : rdF T n o m = rdF T n o' m := by
  unfold rdF
  rw [swA_c n0 h, tuA_c n0 h, mvA_c n0 h]
/-! .. and they can stand -/
theorem swp_V (h : Val T n o) {i j : Int} (i0 : 0 ≤ i) (i1 : i < n) (j0 : 0 ≤ j) (j1 : j < n) : Val T n (swp o i j) := by
  have a : ∀ k, 0 ≤ k → k < n → ∃ l, 0 ≤ l ∧ l < n ∧ swp o i j k = o l ∧ ((k = j ∧ l = i) ∨ (k ≠ j ∧ k = i ∧ l = j) ∨ (k ≠ j ∧ k ≠ i ∧ l = k)) := by
    intro k k0 k1
    unfold swp
    by_cases e : k = j
    · exact ⟨i, i0, i1, by rw [if_pos e], Or.inl ⟨e, rfl⟩⟩
    · by_cases e2 : k = i
      · exact ⟨j, j0, j1, by rw [if_neg e, if_pos e2], Or.inr (Or.inl ⟨e, e2, rfl⟩)⟩
      · exact ⟨k, k0, k1, by rw [if_neg e, if_neg e2], Or.inr (Or.inr ⟨e, e2, rfl⟩)⟩
  refine ⟨fun k k0 k1 => ?_, fun k l k0 k1 l0 l1 e => ?_⟩
  · obtain ⟨l, l0, l1, l2, -⟩ := a k k0 k1
    rw [l2]; exact h.1 l l0 l1
  · obtain ⟨x, x0, x1, x2, x3⟩ := a k k0 k1
    obtain ⟨y, y0, y1, y2, y3⟩ := a l l0 l1
    rw [x2, y2] at e
    have := h.2 x y x0 x1 y0 y1 e
    omega
theorem trn_V (h : Val T n o) {i j : Int} (i0 : 0 ≤ i) (j1 : j < n) (hc : ∀ k, i ≤ k → k ≤ j → canDo T (flp (o k))) : Val T n (trn o i j) := by
  have a : ∀ k, 0 ≤ k → k < n → ∃ l, 0 ≤ l ∧ l < n ∧ trn o i j k / 2 = o l / 2 ∧ 0 ≤ trn o i j k ∧ canDo T (trn o i j k) ∧ ((i ≤ k ∧ k ≤ j ∧ l = i + j - k) ∨ (¬ (i ≤ k ∧ k ≤ j) ∧ l = k)) := by
    intro k k0 k1
    unfold trn
    by_cases e : i ≤ k ∧ k ≤ j
    · have := (h.1 (i + j - k) (by omega) (by omega)).1
      refine ⟨i + j - k, by omega, by omega, ?_, ?_, ?_, Or.inl ⟨e.1, e.2, rfl⟩⟩
      · rw [if_pos e]; unfold flp; split <;> omega
      · rw [if_pos e]; unfold flp; split <;> omega
      · rw [if_pos e]; exact hc _ (by omega) (by omega)
    · have := h.1 k k0 k1
      refine ⟨k, k0, k1, by rw [if_neg e], by rw [if_neg e]; omega, by rw [if_neg e]; exact this.2, Or.inr ⟨e, rfl⟩⟩
  refine ⟨fun k k0 k1 => ?_, fun k l k0 k1 l0 l1 e => ?_⟩
  · obtain ⟨l, l0, l1, l2, l3, l4, -⟩ := a k k0 k1
    have := (h.1 l l0 l1).1
    exact ⟨by omega, l4⟩
  · obtain ⟨x, x0, x1, x2, -, -, x3⟩ := a k k0 k1
    obtain ⟨y, y0, y1, y2, -, -, y3⟩ := a l l0 l1
    rw [x2, y2] at e
    have := h.2 x y x0 x1 y0 y1 e
    omega
theorem mov_V (h : Val T n o) {i j : Int} (i0 : 0 ≤ i) (i1 : i < n) (j0 : 0 ≤ j) (j1 : j < n) : Val T n (mov o i j) := by
  refine ⟨fun k k0 k1 => ?_, fun k l k0 k1 l0 l1 e => ?_⟩
  · unfold mov
    by_cases e : k = j
    · rw [if_pos e]; exact h.1 i i0 i1
    · have := rkF_r i0 i1 j0 j1 k0 k1 e
      rw [if_neg e]; exact h.1 _ this.1 this.2.1
  · unfold mov at e
    by_cases e1 : k = j
    · by_cases e2 : l = j
      · omega
      · have := rkF_r i0 i1 j0 j1 l0 l1 e2
        rw [if_pos e1, if_neg e2] at e
        have := h.2 _ _ i0 i1 this.1 this.2.1 e
        omega
    · have a := rkF_r i0 i1 j0 j1 k0 k1 e1
      by_cases e2 : l = j
      · rw [if_neg e1, if_pos e2] at e
        have := h.2 _ _ a.1 a.2.1 i0 i1 e
        omega
      · have b := rkF_r i0 i1 j0 j1 l0 l1 e2
        rw [if_neg e1, if_neg e2] at e
        exact rkF_inj (n := n) (i := i) (j := j) i0 i1 k0 l0 e1 e2 (h.2 _ _ a.1 a.2.1 b.1 b.2.1 e)
def SW (T : es_M) (n m : Int) (s : SS) : Prop := s.1 ≤ m ∧ (s.1 < m → Val T n s.2 ∧ 1 ≤ s.1)
theorem cns_W (hT : TI T) (n0 : 0 < n) {m : Int} {t : Int → Int} {s : SS} (h : SW T n m s) (ht : Val T n t) : SW T n m (cns T n t s) := by
  unfold cns
  split
  · have mr := moF_r hT ht.cd n0
    refine ⟨by have := h.1; show moF T t n ≤ m; omega, fun _ => ⟨⟨fun i i0 i1 => ?_, fun i j i0 i1 j0 j1 e => ?_⟩, mr.1⟩⟩
    · show (0 ≤ nrm n t i ∧ nrm n t i < 2 * T 1 1) ∧ canDo T (nrm n t i)
      rw [nrm_i i0 i1]; exact ht.1 i i0 i1
    · have e' : nrm n t i / 2 = nrm n t j / 2 := e
      rw [nrm_i i0 i1, nrm_i j0 j1] at e'; exact ht.2 i j i0 i1 j0 j1 e'
  · exact h
theorem rdF_W (hT : TI T) (n0 : 0 < n) (ho : Val T n o) (m : Int) : SW T n m (rdF T n o m) := by
  unfold rdF mvA tuA swA
  refine itJ_P _ (fun i hi => itJ_P _ (fun j hj s hs => ?_)) _ (itJ_P _ (fun i hi => itJ_P _ (fun j hj s hs => ?_)) _ (itJ_P _ (fun i hi => itJ_P _ (fun j hj s hs => ?_)) _ ⟨Int.le_refl _, fun z => absurd (show m < m from z) (Int.lt_irrefl _)⟩))
  · unfold mvF
    split
    · exact cns_W hT n0 hs (mov_V ho (by omega) (by omega) (by omega) (by omega))
    · exact hs
  · unfold tuF
    by_cases e : (i ≤ j ∧ ∀ k : Int, i ≤ k → k ≤ j → canDo T (flp (o k)))
    · rw [ifc_y e]; exact cns_W hT n0 hs (trn_V ho (by omega) (by omega) e.2)
    · rw [ifc_n e]; exact hs
  · unfold swF
    split
    · exact cns_W hT n0 hs (swp_V ho (by omega) (by omega) (by omega) (by omega))
    · exact hs
end
/-- rounds, as long as they better -/
noncomputable def btF (T : es_M) (n : Int) : Nat → (Int → Int) → Int → Nat × (Int → Int)
  | 0 => fun o _ => (0, o)
  | f + 1 => fun o m => if (rdF T n o m).1 < m then ((btF T n f (rdF T n o m).2 (rdF T n o m).1).1 + 1, (btF T n f (rdF T n o m).2 (rdF T n o m).1).2) else (0, o)
theorem es_xor1 {c : Int} (c0 : 0 ≤ c) (c1 : c < 20) : es_xor c 1 = flp c := by
  obtain ⟨x, rfl⟩ := Int.eq_ofNat_of_zero_le c0
  have hx : x < 20 := by omega
  have k : ∀ x, x < 20 → x ^^^ 1 = if x % 2 = 0 then x + 1 else x - 1 := by decide
  have := eb_xor (a := x) (b := 1) (by omega) (by decide)
  rw [show ((1 : Nat) : Int) = 1 from rfl] at this
  rw [this, k x hx]
  unfold flp
  by_cases e : x % 2 = 0
  · rw [if_pos e, if_pos (by omega)]; omega
  · rw [if_neg e, if_neg (by omega)]; omega
theorem swF_y {T : es_M} {n : Int} {o : Int → Int} {i j : Int} (i0 : 0 ≤ i) (j0 : i < j) (s : SS) : swF T n o i.toNat j.toNat s = cns T n (swp o i j) s := by
  unfold swF; rw [if_pos (by omega), show ((i.toNat : Nat) : Int) = i by omega, show ((j.toNat : Nat) : Int) = j by omega]
theorem tuF_y {T : es_M} {n : Int} {o : Int → Int} {i j : Int} (i0 : 0 ≤ i) (j0 : i ≤ j) (al : ∀ k, i ≤ k → k ≤ j → canDo T (flp (o k))) (s : SS) : tuF T n o i.toNat j.toNat s = cns T n (trn o i j) s := by
  unfold tuF; rw [show ((i.toNat : Nat) : Int) = i by omega, show ((j.toNat : Nat) : Int) = j by omega, ifc_y ⟨by omega, al⟩]
theorem tuF_n {T : es_M} {n : Int} {o : Int → Int} {i j : Int} (i0 : 0 ≤ i) (j0 : 0 ≤ j) (al : ¬ ∀ k, i ≤ k → k ≤ j → canDo T (flp (o k))) (s : SS) : tuF T n o i.toNat j.toNat s = s := by
  unfold tuF; rw [show ((i.toNat : Nat) : Int) = i by omega, show ((j.toNat : Nat) : Int) = j by omega, ifc_n (fun z => al z.2)]
theorem mvF_y {T : es_M} {n : Int} {o : Int → Int} {i j : Int} (i0 : 0 ≤ i) (j0 : 0 ≤ j) (h : j ≠ i) (s : SS) : mvF T n o i.toNat j.toNat s = cns T n (mov o i j) s := by
  unfold mvF; rw [if_pos (by omega), show ((i.toNat : Nat) : Int) = i by omega, show ((j.toNat : Nat) : Int) = j by omega]
theorem mvF_n {T : es_M} {n : Int} {o : Int → Int} {i j : Int} (h : j = i) (s : SS) : mvF T n o i.toNat j.toNat s = s := by
  unfold mvF; rw [if_neg (by omega)]
