/-! PAIRS OF CALLS: cut, worth -/
abbrev lvF (T : es_M) (s b : Int) : Prop := ¬ (ebit b (T 2 s) ↔ ebit b (T 3 s))
/-- what a class's street bears, the first k cuts -/
def brF (T : es_M) (s : Int) : Nat → Int
  | 0 => 0
  | k + 1 => brF T s k + if lvF T s (T 18 k) then T 19 k else 0
def pvF (T : es_M) : Nat → Int
  | 0 => 0
  | k + 1 => pvF T k + if oddF T (T 18 k) then T 19 k else 0
theorem brF_s {T : es_M} {s k : Int} (k0 : 0 ≤ k) : brF T s (k + 1).toNat = brF T s k.toNat + if lvF T s (T 18 k) then T 19 k else 0 := by
  rw [toN1 k0]
  show brF T s k.toNat + (if lvF T s (T 18 (k.toNat : Nat)) then T 19 (k.toNat : Nat) else 0) = _
  rw [toNI k0]
theorem pvF_s {T : es_M} {k : Int} (k0 : 0 ≤ k) : pvF T (k + 1).toNat = pvF T k.toNat + if oddF T (T 18 k) then T 19 k else 0 := by
  rw [toN1 k0]
  show pvF T k.toNat + (if oddF T (T 18 (k.toNat : Nat)) then T 19 (k.toNat : Nat) else 0) = _
  rw [toNI k0]
theorem TI.cu {T : es_M} (h : TI T) : (0 ≤ T 14 3 ∧ T 14 3 ≤ 12 ∧ T 91 30 = T 14 3) ∧ ∀ i, 0 ≤ i → i < T 14 3 → (0 ≤ T 18 i ∧ T 18 i ≤ 4095) ∧ T 112 i = T 18 i ∧ (1 ≤ T 19 i ∧ T 19 i ≤ 99) ∧ T 113 i = T 19 i := ⟨h.S.1.2.2.1, h.S.2.2.2.2.2.1⟩
theorem brF_r {T : es_M} (h : TI T) (s : Int) : ∀ k : Nat, (k : Int) ≤ T 14 3 → 0 ≤ brF T s k ∧ brF T s k ≤ 99 * k := by
  intro k
  induction k with
  | zero => intro _; exact ⟨Int.le_refl _, Int.le_refl _⟩
  | succ k ih =>
    intro hk
    have i1 := ih (by omega)
    have := (h.cu.2 k (by omega) (by omega)).2.2.1
    show 0 ≤ brF T s k + (if lvF T s (T 18 k) then T 19 k else 0) ∧ brF T s k + (if lvF T s (T 18 k) then T 19 k else 0) ≤ _
    split <;> omega
theorem pvF_r {T : es_M} (h : TI T) : ∀ k : Nat, (k : Int) ≤ T 14 3 → 0 ≤ pvF T k ∧ pvF T k ≤ 99 * k := by
  intro k
  induction k with
  | zero => intro _; exact ⟨Int.le_refl _, Int.le_refl _⟩
  | succ k ih =>
    intro hk
    have i1 := ih (by omega)
    have := (h.cu.2 k (by omega) (by omega)).2.2.1
    show 0 ≤ pvF T k + (if oddF T (T 18 k) then T 19 k else 0) ∧ pvF T k + (if oddF T (T 18 k) then T 19 k else 0) ≤ _
    split <;> omega
theorem les_r {T : es_M} (h : TI T) {s : Int} (h0 : 0 ≤ s) (h1 : s < T 1 0) : 1 ≤ lesF T s ∧ lesF T s ≤ 99 := by
  obtain ⟨-, -, -, a4, a5, -⟩ := h.st h0 h1
  unfold lesF
  split <;> omega
/-- the least of leaving streets, the first k -/
def llF (T : es_M) (b : Int) : Nat → Int
  | 0 => 1000000
  | k + 1 => if lvF T k b then min (llF T b k) (lesF T k) else llF T b k
theorem llF_s {T : es_M} {b k : Int} (k0 : 0 ≤ k) : llF T b (k + 1).toNat = if lvF T k b then min (llF T b k.toNat) (lesF T k) else llF T b k.toNat := by
  rw [toN1 k0]
  show (if lvF T (k.toNat : Nat) b then min (llF T b k.toNat) (lesF T (k.toNat : Nat)) else llF T b k.toNat) = _
  rw [toNI k0]
theorem llF_r {T : es_M} (h : TI T) (b : Int) : ∀ k : Nat, (k : Int) ≤ T 1 0 → llF T b k = 1000000 ∨ (1 ≤ llF T b k ∧ llF T b k ≤ 99) := by
  intro k
  induction k with
  | zero => intro _; exact Or.inl rfl
  | succ k ih =>
    intro hk
    have i1 := ih (by omega)
    have := les_r h (s := k) (by omega) (by omega)
    show (if lvF T k b then min (llF T b k) (lesF T k) else llF T b k) = _ ∨ _ ≤ (if lvF T k b then min (llF T b k) (lesF T k) else llF T b k) ∧ (if lvF T k b then min (llF T b k) (lesF T k) else llF T b k) ≤ _
    split <;> omega
section
variable {d : Nat} {Q : Int → es_M → Prop} {T M : es_M}
theorem s_leaves (hT : TI T) (hR : RepC T M) {s b : Int} (s0 : 0 ≤ s) (s1 : s < T 1 0) (b0 : 0 ≤ b) (b1 : b ≤ 4095) (h1 : lvF T s b → Q 1 M) (h0 : ¬ lvF T s b → Q 0 M) : es_Call (d + 2) 139 [.inr (.inr 75), .inl s, .inl b] M Q := by
  apply c_Bounds_leaves
  have hn := hT.n
  obtain ⟨a1, a2, -⟩ := hT.st s0 s1
  rw [hR 2 _ rfl]
  refine ⟨by omega, s_has b0 (by omega) a1.1 (by omega) (fun p => ⟨by omega, ?_⟩) (fun p => ⟨by omega, ?_⟩)⟩
  · rw [hR 3 _ rfl]
    exact s_has b0 (by omega) a2.1 (by omega) (fun q => ⟨fun _ => ⟨es_b0, h0 fun z => z ⟨fun _ => q, fun _ => p⟩⟩, fun z => absurd rfl z⟩) (fun q => ⟨fun z => absurd z (by decide), fun _ => ⟨es_b1, h1 fun z => q (z.mp p)⟩⟩)
  · rw [hR 3 _ rfl]
    exact s_has b0 (by omega) a2.1 (by omega) (fun q => ⟨fun z => absurd z (by decide), fun _ => ⟨es_b1, h1 fun z => p (z.mpr q)⟩⟩) (fun q => ⟨fun _ => ⟨es_b0, h0 fun z => z ⟨fun w => absurd w p, fun w => absurd w q⟩⟩, fun z => absurd rfl z⟩)
theorem s_m_leaves (hT : TI T) (hR : RepM T M) {s b : Int} (s0 : 0 ≤ s) (s1 : s < T 1 0) (b0 : 0 ≤ b) (b1 : b ≤ 4095) (h1 : lvF T s b → Q 1 M) (h0 : ¬ lvF T s b → Q 0 M) : es_Call (d + 2) 213 [.inr (.inr 91), .inl s, .inl b] M Q := by
  apply c_Model_leaves
  have hn := hT.n
  obtain ⟨a1, a2, -, -, -, a6, a7, -⟩ := hT.st s0 s1
  rw [hR 93 _ rfl, a6]
  refine ⟨by omega, s_m_has b0 (by omega) a1.1 (by omega) (fun p => ⟨by omega, ?_⟩) (fun p => ⟨by omega, ?_⟩)⟩
  · rw [hR 94 _ rfl, a7]
    exact s_m_has b0 (by omega) a2.1 (by omega) (fun q => ⟨fun _ => ⟨es_b0, h0 fun z => z ⟨fun _ => q, fun _ => p⟩⟩, fun z => absurd rfl z⟩) (fun q => ⟨fun z => absurd z (by decide), fun _ => ⟨es_b1, h1 fun z => q (z.mp p)⟩⟩)
  · rw [hR 94 _ rfl, a7]
    exact s_m_has b0 (by omega) a2.1 (by omega) (fun q => ⟨fun z => absurd z (by decide), fun _ => ⟨es_b1, h1 fun z => p (z.mpr q)⟩⟩) (fun q => ⟨fun _ => ⟨es_b0, h0 fun z => z ⟨fun w => absurd w p, fun w => absurd w q⟩⟩, fun z => absurd rfl z⟩)
theorem s_leastLeaving (hT : TI T) (hR : RepC T M) {b : Int} (b0 : 0 ≤ b) (b1 : b ≤ 4095) (h : Q (llF T b (T 1 0).toNat) M) : es_Call (d + 3) 138 [.inr (.inr 75), .inl b] M Q := by
  apply m_Bounds_leastLeaving
  intro G hG
  apply k_Bounds_leastLeaving_0 hG
  have hn := hT.n
  refine es_up (P := fun k => G 5 [lr 75, li b, li (llF T b k.toNat), li k] [] M) hn.1 ?_ ?_
  · apply k_Bounds_leastLeaving_5 hG
    rw [hR 1 0 rfl]
    exact ⟨fun _ => h, fun z => absurd (Int.le_refl _) z⟩
  · intro k k0 k1 ih
    apply k_Bounds_leastLeaving_5 hG
    rw [hR 1 0 rfl, w32_1 (by omega) (by omega)]
    rw [llF_s k0] at ih
    refine ⟨fun z => absurd z (by omega), fun _ => s_leaves hT hR k0 k1 b0 b1 (fun q => es_t1 ?_) (fun q => es_t0 ?_)⟩
    · rw [if_pos q] at ih
      exact s_lesser hR k0 (by omega) ih
    · rw [if_neg q] at ih
      exact ih
theorem s_overborne (hT : TI T) (hR : RepC T M) (h : ∀ s, 0 ≤ s → s < T 1 0 → (∀ t, 0 ≤ t → t < s → ¬ lesF T t < brF T t (T 14 3).toNat) → lesF T s < brF T s (T 14 3).toNat → Q s M) (h0 : (∀ t, 0 ≤ t → t < T 1 0 → ¬ lesF T t < brF T t (T 14 3).toNat) → Q (-1) M) : es_Call (d + 3) 140 [.inr (.inr 75)] M Q := by
  apply m_Bounds_overborne
  intro G hG
  apply k_Bounds_overborne_0 hG
  have hn := hT.n
  have hc := hT.cu
  refine es_up (P := fun s => (∀ t, 0 ≤ t → t < s → ¬ lesF T t < brF T t (T 14 3).toNat) → G 2 [lr 75, li s, none, none] [] M) hn.1 ?_ ?_ (fun t _ _ => by omega)
  · intro a
    apply k_Bounds_overborne_2 hG
    rw [hR 1 0 rfl]
    exact ⟨fun _ => h0 a, fun z => absurd (Int.le_refl _) z⟩
  · intro s s0 s1 ih a
    apply k_Bounds_overborne_2 hG
    rw [hR 1 0 rfl]
    refine ⟨fun z => absurd z (by omega), fun _ => ?_⟩
    refine es_up (P := fun k => G 17 [lr 75, li s, li (brF T s k.toNat), li k] [] M) hc.1.1 ?_ ?_
    · apply k_Bounds_overborne_17 hG
      rw [hR 14 3 rfl, w32_1 (by omega) (by omega)]
      refine ⟨fun _ => s_lesser hR s0 (by omega) ⟨fun q => ih (fun t t0 t1 => ?_), fun q => h s s0 s1 a (by omega)⟩, fun z => absurd (Int.le_refl _) z⟩
      by_cases e : t = s
      · subst e; omega
      · exact a t t0 (by omega)
    · intro k k0 k1 ih2
      obtain ⟨c1, c2, c3, c4⟩ := hc.2 k k0 k1
      have hb := brF_r hT s k.toNat (by omega)
      apply k_Bounds_overborne_17 hG
      rw [hR 14 3 rfl, w32_1 (k := k) (by omega) (by omega), hR 18 _ rfl]
      rw [brF_s k0] at ih2
      refine ⟨fun z => absurd z (by omega), fun _ => ⟨by omega, s_leaves hT hR s0 s1 c1.1 c1.2 (fun q => es_t1 ⟨by omega, ?_⟩) (fun q => es_t0 ?_)⟩⟩
      · rw [if_pos q] at ih2
        rw [hR 19 _ rfl, w32_s (by omega) (by omega)]; exact ih2
      · rw [if_neg q] at ih2
        rw [w32_s (by omega) (by omega)]; exact ih2
theorem s_proven (hT : TI T) (hR : RepC T M) (h : Q (pvF T (T 14 3).toNat) M) : es_Call (d + 3) 141 [.inr (.inr 75)] M Q := by
  apply m_Bounds_proven
  intro G hG
  apply k_Bounds_proven_0 hG
  have hc := hT.cu
  refine es_up (P := fun k => G 4 [lr 75, li (pvF T k.toNat), li k] [] M) hc.1.1 ?_ ?_
  · apply k_Bounds_proven_4 hG
    rw [hR 14 3 rfl]
    exact ⟨fun _ => h, fun z => absurd (Int.le_refl _) z⟩
  · intro k k0 k1 ih
    obtain ⟨c1, c2, c3, c4⟩ := hc.2 k k0 k1
    have hb := pvF_r hT k.toNat (by omega)
    apply k_Bounds_proven_4 hG
    rw [hR 14 3 rfl, w32_1 (by omega) (by omega), hR 18 _ rfl]
    rw [pvF_s k0] at ih
    refine ⟨fun z => absurd z (by omega), fun _ => ⟨by omega, s_isOdd hT c1.1 (hR 1 3 rfl) (fun q => es_t1 ⟨by omega, ?_⟩) (fun q => es_t0 ?_)⟩⟩
    · rw [if_pos q] at ih
      rw [hR 19 _ rfl, w32_s (by omega) (by omega)]; exact ih
    · rw [if_neg q] at ih
      rw [w32_s (by omega) (by omega)]; exact ih
end
section
variable {d : Nat} {M : es_M}
theorem P_cut (h : Inv M) {b : Int} : Pair (d + 20) 17 211 [.inl b] M := by
  apply c_EveryStreet_cut
  have hn := h.1.n
  have no : ¬ (0 ≤ b ∧ b ≤ 4095) → es_Call (d + 20) 211 [.inr (.inr 91), .inl b] M (fun y' M2 => y' = -1 ∧ Inv M2) := by
    intro q
    apply m_Model_cut
    intro G hG
    apply k_Model_cut_0 hG
    exact s_m_in (fun q1 q2 => absurd ⟨q1, q2⟩ q) (fun _ => es_f0 ⟨rfl, h.th⟩)
  refine ⟨fun q => no (by omega), fun q => ⟨fun q2 => ?_, fun q2 => no (by omega)⟩⟩
  refine s_isOdd h.1 (by omega) rfl (fun p => es_f1 ?_) (fun p => es_f0 ?_)
  · refine s_leastLeaving h.1 (RepC.rf M) (by omega) (by omega) ?_
    have model : ∀ y, y = (if llF M b (M 1 0).toNat = 1000000 then -2 else llF M b (M 1 0).toNat) → es_Call (d + 20) 211 [.inr (.inr 91), .inl b] M (fun y' M2 => y' = y ∧ Inv M2) := by
      intro y hy
      apply m_Model_cut
      intro G hG
      apply k_Model_cut_0 hG
      refine s_m_in (fun _ _ => es_f1 (s_m_isOddCut h.1 rep0 (by omega) (fun _ => es_f1 ?_) (fun z => absurd p z))) (fun z => absurd ⟨by omega, by omega⟩ z)
      refine es_up (P := fun k => G 34 [lr 91, li b, li (if llF M b k.toNat = 1000000 then -2 else llF M b k.toNat), li k] [] (es_upd M 91 0 0)) hn.1 ?_ ?_
      · apply k_Model_cut_34 hG
        rw [rd1 (by decide), hn.2.2]
        exact ⟨fun _ => ⟨hy.symm, h.th⟩, fun z => absurd (Int.le_refl _) z⟩
      · intro k k0 k1 ih
        have hl := llF_r h.1 b k.toNat (by omega)
        have hle := les_r h.1 k0 k1
        apply k_Model_cut_34 hG
        rw [rd1 (by decide), hn.2.2, w32_1 (by omega) (by omega)]
        rw [llF_s k0] at ih
        refine ⟨fun z => absurd z (by omega), fun _ => s_m_leaves h.1 rep0 k0 k1 (by omega) (by omega) (fun r => es_t1 ⟨fun z => s_m_lesser h.1 rep0 k0 k1 ?_, fun z => s_m_lesser h.1 rep0 k0 k1 ?_⟩) (fun r => es_t0 ?_)⟩
        · rw [if_pos r] at ih
          by_cases e : llF M b k.toNat = 1000000
          · rw [if_pos e] at z; omega
          · rw [if_neg (by omega)] at ih
            rw [if_neg e]; exact ih
        · rw [if_pos r] at ih
          by_cases e : llF M b k.toNat = 1000000
          · rw [if_neg (by omega), show min (llF M b k.toNat) (lesF M k) = lesF M k by omega] at ih
            exact ih
          · rw [if_neg e] at z; omega
        · rw [if_neg r] at ih; exact ih
    have hl := llF_r h.1 b (M 1 0).toNat (by omega)
    refine ⟨fun z => model _ ?_, fun z => model _ ?_⟩
    · rw [if_neg (by omega)]
    · rw [if_pos (by omega)]
  · apply m_Model_cut
    intro G hG
    apply k_Model_cut_0 hG
    exact s_m_in (fun _ _ => es_f1 (s_m_isOddCut h.1 rep0 (by omega) (fun z => absurd z p) (fun _ => es_f0 ⟨rfl, h.th⟩))) (fun z => absurd ⟨by omega, by omega⟩ z)
theorem P_worth (h : Inv M) : Pair (d + 20) 19 215 [] M := by
  apply c_EveryStreet_worth
  have hn := h.1.n
  have hc := h.1.cu
  have model : ∀ y, (∀ s, 0 ≤ s → s < M 1 0 → (∀ t, 0 ≤ t → t < s → ¬ lesF M t < brF M t (M 14 3).toNat) → lesF M s < brF M s (M 14 3).toNat → y = -2 - s) → ((∀ t, 0 ≤ t → t < M 1 0 → ¬ lesF M t < brF M t (M 14 3).toNat) → y = pvF M (M 14 3).toNat) → es_Call (d + 20) 215 [.inr (.inr 91)] M (fun y' M2 => y' = y ∧ Inv M2) := by
    intro y hy hy0
    apply m_Model_worth
    intro G hG
    apply k_Model_worth_0 hG
    refine es_up (P := fun s => (∀ t, 0 ≤ t → t < s → ¬ lesF M t < brF M t (M 14 3).toNat) → G 7 [lr 91, li s, none, none] [] (es_upd M 91 0 0)) hn.1 ?_ ?_ (fun t _ _ => by omega)
    · intro a
      apply k_Model_worth_7 hG
      rw [rd1 (by decide), hn.2.2]
      refine ⟨fun _ => ?_, fun z => absurd (Int.le_refl _) z⟩
      refine es_up (P := fun k => G 84 [lr 91, li (pvF M k.toNat), li k, none] [] (es_upd M 91 0 0)) hc.1.1 ?_ ?_
      · apply k_Model_worth_84 hG
        rw [rd1 (by decide), hc.1.2.2]
        exact ⟨fun _ => ⟨(hy0 a).symm, h.th⟩, fun z => absurd (Int.le_refl _) z⟩
      · intro k k0 k1 ih
        obtain ⟨c1, c2, c3, c4⟩ := hc.2 k k0 k1
        have hb := pvF_r h.1 k.toNat (by omega)
        apply k_Model_worth_84 hG
        rw [rd1 (by decide), hc.1.2.2, w32_1 (by omega) (by omega), rd0 (by decide), c2]
        rw [pvF_s k0] at ih
        refine ⟨fun z => absurd z (by omega), fun _ => ⟨by omega, s_m_isOddCut h.1 rep0 c1.1 (fun q => es_t1 ⟨by omega, ?_⟩) (fun q => es_t0 ?_)⟩⟩
        · rw [if_pos q] at ih
          rw [rd0 (by decide), c4, w32_s (by omega) (by omega)]; exact ih
        · rw [if_neg q] at ih
          rw [w32_s (by omega) (by omega)]; exact ih
    · intro s s0 s1 ih a
      apply k_Model_worth_7 hG
      rw [rd1 (by decide), hn.2.2]
      refine ⟨fun z => absurd z (by omega), fun _ => ?_⟩
      refine es_up (P := fun k => G 19 [lr 91, li s, li (brF M s k.toNat), li k] [] (es_upd M 91 0 0)) hc.1.1 ?_ ?_
      · apply k_Model_worth_19 hG
        rw [rd1 (by decide), hc.1.2.2, w32_1 (by omega) (by omega)]
        refine ⟨fun _ => s_m_lesser h.1 rep0 s0 s1 ⟨fun q => ih (fun t t0 t1 => ?_), fun q => ⟨?_, h.th⟩⟩, fun z => absurd (Int.le_refl _) z⟩
        · by_cases e : t = s
          · subst e; omega
          · exact a t t0 (by omega)
        · rw [w32_s (by omega) (by omega)]
          exact (hy s s0 s1 a (by omega)).symm
      · intro k k0 k1 ih2
        obtain ⟨c1, c2, c3, c4⟩ := hc.2 k k0 k1
        have hb := brF_r h.1 s k.toNat (by omega)
        apply k_Model_worth_19 hG
        rw [rd1 (by decide), hc.1.2.2, w32_1 (k := k) (by omega) (by omega), rd0 (by decide), c2]
        rw [brF_s k0] at ih2
        refine ⟨fun z => absurd z (by omega), fun _ => ⟨by omega, s_m_leaves h.1 rep0 s0 s1 c1.1 c1.2 (fun q => es_t1 ⟨by omega, ?_⟩) (fun q => es_t0 ?_)⟩⟩
        · rw [if_pos q] at ih2
          rw [rd0 (by decide), c4, w32_s (by omega) (by omega)]; exact ih2
        · rw [if_neg q] at ih2
          rw [w32_s (by omega) (by omega)]; exact ih2
  refine s_overborne h.1 (RepC.rf M) (fun s s0 s1 a b => ⟨fun _ => ?_, fun z => by omega⟩) (fun a => ⟨fun z => absurd rfl z, fun _ => s_proven h.1 (RepC.rf M) (model _ (fun s s0 s1 _ b => absurd b (a s s0 s1)) (fun _ => rfl))⟩)
  rw [w32_s (by omega) (by omega)]
  refine model _ (fun t t0 t1 a2 b2 => ?_) (fun a2 => absurd b (a2 s s0 s1))
  have n1 : ¬ s < t := fun z => a2 s s0 z b
  have n2 : ¬ t < s := fun z => a t t0 z b2
  omega
end
