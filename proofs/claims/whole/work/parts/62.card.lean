/-! PAIRS OF CALLS: card, mislead -/
theorem es_upl {P : Int → Prop} {lo n : Int} (hn : lo ≤ n) (last : P n) (step : ∀ k, lo ≤ k → k < n → P (k + 1) → P k) : P lo := by
  have := es_up (P := fun k => P (lo + k)) (n := n - lo) (by omega) (by rw [show lo + (n - lo) = n by omega]; exact last) (fun k k0 k1 ih => step (lo + k) (by omega) (by omega) (by rw [show lo + k + 1 = lo + (k + 1) by omega]; exact ih))
  rw [show lo + 0 = lo by omega] at this
  exact this
/-- the first place of r from k on where P holds; -1 if none -/
def fiF (P : Int → Prop) [DecidablePred P] : Int → Nat → Int
  | _, 0 => -1
  | k, r + 1 => if P k then k else fiF P (k + 1) r
theorem fiF_sp (P : Int → Prop) [DecidablePred P] : ∀ (r : Nat) (k : Int), 0 ≤ k → (fiF P k r = -1 ∧ ∀ u, k ≤ u → u < k + r → ¬ P u) ∨ ((k ≤ fiF P k r ∧ fiF P k r < k + r) ∧ P (fiF P k r) ∧ ∀ u, k ≤ u → u < fiF P k r → ¬ P u)
  | 0, k, _ => Or.inl ⟨rfl, fun u a b => by omega⟩
  | r + 1, k, hk => by
    show ((if P k then k else fiF P (k + 1) r) = -1 ∧ _) ∨ ((_ ≤ (if P k then k else fiF P (k + 1) r) ∧ (if P k then k else fiF P (k + 1) r) < _) ∧ P (if P k then k else fiF P (k + 1) r) ∧ ∀ u, k ≤ u → u < (if P k then k else fiF P (k + 1) r) → ¬ P u)
    by_cases q : P k
    · rw [if_pos q]
      exact Or.inr ⟨by omega, q, fun u a b => by omega⟩
    · rw [if_neg q]
      rcases fiF_sp P r (k + 1) (by omega) with ⟨a, b⟩ | ⟨a, b, c⟩
      · refine Or.inl ⟨a, fun u u0 u1 => ?_⟩
        by_cases e : u = k
        · rw [e]; exact q
        · exact b u (by omega) (by omega)
      · refine Or.inr ⟨by omega, b, fun u u0 u1 => ?_⟩
        by_cases e : u = k
        · rw [e]; exact q
        · exact c u (by omega) u1
theorem fiF_s (P : Int → Prop) [DecidablePred P] {k n : Int} (h : k < n) : fiF P k (n - k).toNat = if P k then k else fiF P (k + 1) (n - (k + 1)).toNat := by
  rw [show (n - k).toNat = (n - (k + 1)).toNat + 1 by omega]
  rfl
abbrev smF (T : es_M) (p k : Int) : Prop := T 15 (k - 1) = T 15 (p - 1) ∧ T 15 k = T 15 p
def cbF (T : es_M) (p : Int) : Int := fiF (smF T p) 1 (p - 1).toNat
theorem cbF_sp (T : es_M) {p : Int} (h : 1 ≤ p) : (cbF T p = -1 ∧ ∀ u, 1 ≤ u → u < p → ¬ smF T p u) ∨ ((1 ≤ cbF T p ∧ cbF T p < p) ∧ smF T p (cbF T p)) := by
  rcases fiF_sp (smF T p) (p - 1).toNat 1 (by decide) with ⟨a, b⟩ | ⟨a, b, -⟩
  · exact Or.inl ⟨a, fun u u0 u1 => b u u0 (by omega)⟩
  · exact Or.inr ⟨by unfold cbF; omega, b⟩
abbrev stray (T : es_M) (p : Int) : Prop := ¬ cbF T p = -1 ∧ ¬ T 15 (cbF T p + 1) = T 15 (p + 1)
def strF (T : es_M) : Int := fiF (stray T) 1 (T 14 1 - 1 - 1).toNat
abbrev nwF (T : es_M) (p : Int) : Prop := ¬ T 23 (T 15 (p - 1) * 12 + T 15 p) = T 15 (p + 1) ∧ cbF T p = -1
/-- new words at the places ahead of p (from 1 on) -/
def wcN (T : es_M) : Nat → Int
  | 0 => 0
  | r + 1 => wcN T r + if nwF T (r + 1) then 1 else 0
def wcF (T : es_M) (p : Int) : Int := wcN T (p - 1).toNat
theorem wcF_1 (T : es_M) : wcF T 1 = 0 := rfl
theorem wcF_s {T : es_M} {p : Int} (h : 1 ≤ p) : wcF T (p + 1) = wcF T p + if nwF T p then 1 else 0 := by
  unfold wcF
  rw [show (p + 1 - 1).toNat = (p - 1).toNat + 1 by omega]
  show wcN T (p - 1).toNat + (if nwF T (((p - 1).toNat : Nat) + 1) then 1 else 0) = _
  rw [show (((p - 1).toNat : Nat) : Int) + 1 = p by omega]
theorem wcN_r (T : es_M) : ∀ r : Nat, 0 ≤ wcN T r ∧ wcN T r ≤ r := by
  intro r
  induction r with
  | zero => exact ⟨Int.le_refl _, Int.le_refl _⟩
  | succ r ih => show 0 ≤ wcN T r + (if nwF T (r + 1) then 1 else 0) ∧ wcN T r + (if nwF T (r + 1) then 1 else 0) ≤ _; split <;> omega
theorem wcF_r (T : es_M) {p : Int} (h : 1 ≤ p) : 0 ≤ wcF T p ∧ wcF T p ≤ p - 1 := by
  have := wcN_r T (p - 1).toNat
  unfold wcF; omega
theorem wcF_m {T : es_M} {p q : Int} (h : 1 ≤ p) (hq : p ≤ q) : wcF T p ≤ wcF T q := by
  refine es_upl (P := fun k => wcF T k ≤ wcF T q) hq (Int.le_refl _) (fun k k0 k1 ih => ?_)
  have := wcF_s (T := T) (p := k) (by omega)
  have e : (0 : Int) ≤ if nwF T k then 1 else 0 := by split <;> decide
  omega
theorem wcF_find (T : es_M) (w : Int) (w0 : 0 ≤ w) : ∀ r : Nat, w < wcF T (1 + r) → ∃ q, 1 ≤ q ∧ q < 1 + (r : Int) ∧ nwF T q ∧ wcF T q = w := by
  intro r
  induction r with
  | zero => intro h; rw [show (1 : Int) + ((0 : Nat) : Int) = 1 by omega, wcF_1] at h; omega
  | succ r ih =>
    intro h
    by_cases z : w < wcF T (1 + r)
    · obtain ⟨q, a, b, c⟩ := ih z
      exact ⟨q, a, by omega, c⟩
    · have e := wcF_s (T := T) (p := 1 + (r : Int)) (by omega)
      rw [show 1 + ((r + 1 : Nat) : Int) = 1 + (r : Int) + 1 by omega] at h
      by_cases n : nwF T (1 + (r : Int))
      · rw [if_pos n] at e
        exact ⟨1 + r, by omega, by omega, n, by omega⟩
      · rw [if_neg n] at e; omega
theorem wcF_36 {T : es_M} (hT : TI T) {p : Int} (h : 1 ≤ p) (h1 : p < T 14 1) : wcF T p ≤ 36 := by
  have hex : ∀ w : Int, ∃ q, 0 ≤ w → w < wcF T p → (1 ≤ q ∧ q < p) ∧ nwF T q ∧ wcF T q = w := by
    intro w
    by_cases z : 0 ≤ w ∧ w < wcF T p
    · obtain ⟨q, a, b, c, e⟩ := wcF_find T w z.1 (p - 1).toNat (by rw [show 1 + (((p - 1).toNat : Nat) : Int) = p by omega]; exact z.2)
      exact ⟨q, fun _ _ => ⟨⟨a, by omega⟩, c, e⟩⟩
    · exact ⟨0, fun a b => absurd ⟨a, b⟩ z⟩
  have hn := hT.n
  have hr := wcF_r T h
  have := pigeon 36 (wcF T p).toNat (fun w => T 16 (Classical.choose (hex w) - 1)) (fun i i0 i1 => ?_) (fun i j i0 i1 j0 j1 e => ?_)
  · omega
  · obtain ⟨a, -⟩ := Classical.choose_spec (hex i) i0 (by omega)
    have := (hT.hp (i := Classical.choose (hex i) - 1) (by omega) (by omega)).1
    show 0 ≤ T 16 _ ∧ T 16 _ < _
    unfold isP at this
    omega
  · obtain ⟨a1, a2, a3⟩ := Classical.choose_spec (hex i) i0 (by omega)
    obtain ⟨b1, b2, b3⟩ := Classical.choose_spec (hex j) j0 (by omega)
    have e : T 16 (Classical.choose (hex i) - 1) = T 16 (Classical.choose (hex j) - 1) := e
    generalize Classical.choose (hex i) = x at *
    generalize Classical.choose (hex j) = y at *
    obtain ⟨-, -, p1, p2, -⟩ := hT.hp (i := x - 1) (by omega) (by omega)
    obtain ⟨-, -, q1, q2, -⟩ := hT.hp (i := y - 1) (by omega) (by omega)
    rw [show x - 1 + 1 = x by omega] at p2
    rw [show y - 1 + 1 = y by omega] at q2
    rw [e] at p1 p2
    have s1 : T 15 (x - 1) = T 15 (y - 1) := by rw [← p1, ← q1]
    have s2 : T 15 x = T 15 y := by rw [← p2, ← q2]
    have n1 : ¬ x < y := fun z => by
      rcases cbF_sp T b1.1 with ⟨-, c⟩ | ⟨c, -⟩
      · exact c x a1.1 z ⟨s1, s2⟩
      · have := b2.2; omega
    have n2 : ¬ y < x := fun z => by
      rcases cbF_sp T a1.1 with ⟨-, c⟩ | ⟨c, -⟩
      · exact c y b1.1 z ⟨s1.symm, s2.symm⟩
      · have := a2.2; omega
    rw [← a3, ← b3, show x = y by omega]
section
variable {d : Nat} {Q : Int → es_M → Prop} {T M : es_M}
theorem w32_m {k : Int} (h0 : -1000000 ≤ k) (h1 : k < 1000000000) : w32 (k - 1) = k - 1 := by unfold w32; omega
theorem s_cameBefore (hT : TI T) (hR : RepC T M) {p : Int} (p0 : 1 ≤ p) (p1 : p < T 14 1) (h : Q (cbF T p) M) : es_Call (d + 1) 70 [.inr (.inr 14), .inl p] M Q := by
  apply m_State_cameBefore
  intro G hG
  apply k_State_cameBefore_0 hG
  have hn := hT.hn
  refine es_upl (P := fun k => Q (fiF (smF T p) k (p - k).toNat) M → G 2 [lr 14, li p, li k] [] M) p0 ?_ ?_ h
  · intro h
    apply k_State_cameBefore_2 hG
    rw [show (p - p).toNat = 0 by omega] at h
    exact ⟨fun _ => h, fun z => absurd (Int.le_refl _) z⟩
  · intro k k0 k1 ih h
    apply k_State_cameBefore_2 hG
    rw [w32_m (by omega) (by omega), w32_m (by omega) (by omega), w32_1 (by omega) (by omega), hR 15 _ rfl, hR 15 _ rfl, hR 15 _ rfl, hR 15 _ rfl]
    rw [fiF_s _ k1] at h
    refine ⟨fun z => absurd z (by omega), fun _ => ⟨by omega, by omega, fun z => ih ?_, fun z => ⟨by omega, by omega, fun w => ih ?_, fun w => ?_⟩⟩⟩
    · rw [if_neg (fun y => z y.1)] at h; exact h
    · rw [if_neg (fun y => w y.2)] at h; exact h
    · rw [if_pos ⟨z, w⟩] at h; exact h
theorem s_m_cameAhead (hT : TI T) (hR : RepM T M) {p : Int} (p0 : 1 ≤ p) (p1 : p < T 14 1) (h : Q (cbF T p) M) : es_Call (d + 1) 276 [.inr (.inr 91), .inl p] M Q := by
  apply m_Model_cameAhead
  intro G hG
  apply k_Model_cameAhead_0 hG
  have hn := hT.hn
  refine es_upl (P := fun k => Q (fiF (smF T p) k (p - k).toNat) M → G 2 [lr 91, li p, li k] [] M) p0 ?_ ?_ h
  · intro h
    apply k_Model_cameAhead_2 hG
    rw [show (p - p).toNat = 0 by omega] at h
    exact ⟨fun _ => h, fun z => absurd (Int.le_refl _) z⟩
  · intro k k0 k1 ih h
    apply k_Model_cameAhead_2 hG
    rw [w32_m (by omega) (by omega), w32_m (by omega) (by omega), w32_1 (by omega) (by omega), hR 120 _ rfl, hR 120 _ rfl, hR 120 _ rfl, hR 120 _ rfl, (hT.hd (i := k - 1) (by omega) (by omega)).2, (hT.hd (i := p - 1) (by omega) (by omega)).2, (hT.hd (i := k) (by omega) (by omega)).2, (hT.hd (i := p) (by omega) (by omega)).2]
    rw [fiF_s _ k1] at h
    refine ⟨fun z => absurd z (by omega), fun _ => ⟨by omega, by omega, fun z => ih ?_, fun z => ⟨by omega, by omega, fun w => ih ?_, fun w => ?_⟩⟩⟩
    · rw [if_neg (fun y => z y.1)] at h; exact h
    · rw [if_neg (fun y => w y.2)] at h; exact h
    · rw [if_pos ⟨z, w⟩] at h; exact h
theorem s_strayPlace (hT : TI T) (hR : RepC T M) (h : Q (strF T) M) : es_Call (d + 2) 69 [.inr (.inr 14)] M Q := by
  apply m_State_strayPlace
  intro G hG
  apply k_State_strayPlace_0 hG
  have hn := hT.hn
  by_cases small : T 14 1 ≤ 1
  · apply k_State_strayPlace_2 hG
    rw [hR 14 1 rfl, w32_1 (by omega) (by omega)]
    unfold strF at h
    rw [show (T 14 1 - 1 - 1).toNat = 0 by omega] at h
    exact ⟨fun _ => h, fun z => absurd (by omega) z⟩
  refine es_upl (P := fun k => Q (fiF (stray T) k (T 14 1 - 1 - k).toNat) M → G 2 [lr 14, li k, none] [] M) (n := T 14 1 - 1) (by omega) ?_ ?_ h
  · intro h
    apply k_State_strayPlace_2 hG
    rw [hR 14 1 rfl, w32_1 (by omega) (by omega)]
    rw [show (T 14 1 - 1 - (T 14 1 - 1)).toNat = 0 by omega] at h
    exact ⟨fun _ => h, fun z => absurd (by omega) z⟩
  · intro k k0 k1 ih h
    apply k_State_strayPlace_2 hG
    rw [hR 14 1 rfl, w32_1 (by omega) (by omega)]
    rw [fiF_s _ k1] at h
    refine ⟨fun z => absurd z (by omega), fun _ => s_cameBefore hT hR k0 (by omega) ?_⟩
    have hcb := cbF_sp T k0
    refine ⟨fun z => ih ?_, fun z => ?_⟩
    · rw [if_neg (fun y => y.1 z)] at h; exact h
    · rw [w32_1 (by omega) (by omega), hR 15 _ rfl, hR 15 _ rfl]
      refine ⟨by omega, by omega, fun w => ih ?_, fun w => ?_⟩
      · rw [if_neg (fun y => y.2 w)] at h; exact h
      · rw [if_pos ⟨z, w⟩] at h; exact h
theorem s_isNewWord (hT : TI T) (hR : RepC T M) {p : Int} (p0 : 1 ≤ p) (p1 : p + 1 < T 14 1) (h1 : nwF T p → Q 1 M) (h0 : ¬ nwF T p → Q 0 M) : es_Call (d + 2) 71 [.inr (.inr 14), .inl p] M Q := by
  apply c_State_isNewWord
  have hn := hT.hn
  have a := (hT.hd (i := p - 1) (by omega) (by omega)).1
  have b := (hT.hd (i := p) (by omega) (by omega)).1
  rw [w32_m (by omega) (by omega), w32_1 (by omega) (by omega), hR 15 _ rfl, hR 15 _ rfl, hR 15 _ rfl, show w32 (w32 (T 15 (p - 1) * 12) + T 15 p) = T 15 (p - 1) * 12 + T 15 p from by unfold w32; omega, hR 23 _ rfl]
  exact ⟨by omega, by omega, by omega, by omega, fun z => ⟨es_b0, h0 fun y => y.1 z⟩, fun z => s_cameBefore hT hR p0 (by omega) ⟨fun w => ⟨es_b0, h0 fun y => w y.2⟩, fun w => ⟨es_b1, h1 ⟨z, w⟩⟩⟩⟩
theorem s_m_isStraight (hT : TI T) (hR : RepM T M) {p : Int} (p0 : 1 ≤ p) (p1 : p + 1 < T 14 1) (h1 : T 23 (T 15 (p - 1) * 12 + T 15 p) = T 15 (p + 1) → Q 1 M) (h0 : ¬ T 23 (T 15 (p - 1) * 12 + T 15 p) = T 15 (p + 1) → Q 0 M) : es_Call (d + 1) 277 [.inr (.inr 91), .inl p] M Q := by
  apply c_Model_isStraight
  have hn := hT.hn
  obtain ⟨a, a'⟩ := (hT.hd (i := p - 1) (by omega) (by omega))
  obtain ⟨b, b'⟩ := (hT.hd (i := p) (by omega) (by omega))
  obtain ⟨c, c'⟩ := (hT.hd (i := p + 1) (by omega) (by omega))
  have hs : T 102 (T 15 (p - 1) * 12 + T 15 p) = T 23 (T 15 (p - 1) * 12 + T 15 p) + 1 := (hT.S.2.2.2.2.2.2.2.2 (T 15 (p - 1) * 12 + T 15 p) (by omega) (by omega)).2
  rw [w32_m (by omega) (by omega), w32_1 (k := p) (by omega) (by omega), hR 120 _ rfl, hR 120 _ rfl, hR 120 _ rfl, a', b', c', show w32 (w32 (T 15 (p - 1) * 12) + T 15 p) = T 15 (p - 1) * 12 + T 15 p from by unfold w32; omega, hR 102 _ rfl, hs, w32_1 (by omega) (by omega)]
  exact ⟨by omega, by omega, by omega, by omega, fun z => ⟨es_b0, h0 (by omega)⟩, fun z => ⟨es_b1, h1 (by omega)⟩⟩
end
