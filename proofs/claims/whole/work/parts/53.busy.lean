/-! PAIRS OF CALLS: busy -/
def bzF (kind x : Int) : Int := max 1 (min 400 (if kind = 0 then es_i2b x else if kind = 1 then es_i2s x else x))
def bvF (kind n f step h : Int) : Int := if kind = 3 ∨ n ≤ h then 100 else bzF kind (w32 (f + w32 (step * h)))
def bsF (kind n f step : Int) : Nat → Int
  | 0 => 0
  | k + 1 => w32 (bsF kind n f step k + bvF kind n f step k)
theorem bvF_r (kind n f step h : Int) : 1 ≤ bvF kind n f step h ∧ bvF kind n f step h ≤ 400 := by
  unfold bvF bzF
  split <;> omega
theorem w32_it (f t step : Int) : w32 (w32 (f + w32 t) + step) = w32 (f + w32 (t + step)) := by
  unfold w32
  omega
section
variable {d : Nat} {Q : Int → es_M → Prop} {M : es_M}
theorem s_fill20 {v : Int} (h : ∀ M', (∀ c, c ≠ 20 → M' c = M c) → (∀ j, 0 ≤ j → j < 24 → M' 20 j = v) → Q 0 M') : es_Call (d + 1) 290 [.inr (.inr 20), .inl v] M Q := by
  apply m_Arrays_fill_0_20
  intro G hG
  apply k_Arrays_fill_0_20_0 hG
  have key : ∀ (r : Nat) (k : Int) (M' : es_M), 0 ≤ k → k + r = 24 → (∀ c, c ≠ 20 → M' c = M c) → (∀ j, 0 ≤ j → j < k → M' 20 j = v) → G 5 [lr 20, li v, li k, li 24] [] M' := by
    intro r
    induction r with
    | zero =>
      intro k M' k0 kr f1 f2
      apply k_Arrays_fill_0_20_5 hG
      exact ⟨fun _ => h M' f1 (fun j j0 j1 => f2 j j0 (by omega)), fun z => absurd (by omega) z⟩
    | succ r ih =>
      intro k M' k0 kr f1 f2
      apply k_Arrays_fill_0_20_5 hG
      rw [show w32 (k + 1) = k + 1 from by unfold w32; omega]
      refine ⟨fun z => absurd z (by omega), fun _ => ⟨by omega, ih (k + 1) _ (by omega) (by omega) (fun c hc => by rw [es_upd_o c hc, f1 c hc]) (fun j j0 j1 => ?_)⟩⟩
      rw [es_upd_c]
      by_cases e : j = k
      · rw [if_pos e]
      · rw [if_neg e]; exact f2 j j0 (by omega)
  exact key 24 0 M (by omega) (by omega) (fun _ _ => rfl) (fun j j0 j1 => by omega)
theorem s_m_busy {kind n f step : Int} (hk : 0 ≤ kind ∧ kind ≤ 3) (hn : n ≤ 24) (hn2 : kind = 3 ∨ 0 ≤ n) (hf : es_r32 f) (h : ∀ M', (∀ c, c ≠ 91 → c ≠ 121 → M' c = M c) → (∀ j, j ≠ 0 → M' 91 j = M 91 j) → (∀ j, 0 ≤ j → j < 24 → M' 121 j = bvF kind n f step j) → Q (if kind = 3 then -3 else bsF kind n f step 24) M') : es_Call (d + 2) 247 [.inr (.inr 91), .inl kind, .inl n, .inl f, .inl step] M Q := by
  apply m_Model_busy
  intro G hG
  apply k_Model_busy_0 hG
  refine s_m_in (fun _ _ => es_t1 ⟨fun _ => ?_, fun z => absurd hn z⟩) (fun q => absurd hk q)
  have key : ∀ (r k : Nat) (M' : es_M), k + r = 24 → (∀ c, c ≠ 91 → c ≠ 121 → M' c = M c) → (∀ j, j ≠ 0 → M' 91 j = M 91 j) → (∀ j, 0 ≤ j → j < (k : Int) → M' 121 j = bvF kind n f step j) → G 46 [lr 91, li kind, li n, none, li step, li (w32 (f + w32 (step * k))), li (bsF kind n f step k), li k, none] [] M' := by
    intro r
    induction r with
    | zero =>
      intro k M' kr f1 f2 f3
      apply k_Model_busy_46 hG
      have hk24 : k = 24 := by omega
      subst hk24
      refine ⟨fun _ => ⟨fun z => ?_, fun z => ?_⟩, fun z => absurd (by omega) z⟩
      · have := h M' f1 f2 f3; rw [if_neg z] at this; exact this
      · have := h M' f1 f2 f3; rw [if_pos z] at this; exact this
    | succ r ih =>
      intro k M' kr f1 f2 f3
      apply k_Model_busy_46 hG
      have hv : w32 (w32 (f + w32 (step * k)) + step) = w32 (f + w32 (step * (k + 1 : Nat))) := by
        rw [w32_it]
        congr 2
        rw [show ((k + 1 : Nat) : Int) = (k : Int) + 1 by omega, Int.mul_add, Int.mul_one]
      have go : ∀ b, b = bvF kind n f step k → G 46 [lr 91, li kind, li n, none, li step, li (w32 (f + w32 (step * (k + 1 : Nat)))), li (w32 (bsF kind n f step k + b)), li ((k + 1 : Nat) : Int), none] [] (es_upd M' 121 k b) := by
        intro b hb
        subst hb
        refine ih (k + 1) _ (by omega) (fun c h1 h2 => by rw [es_upd_o c h2, f1 c h1 h2]) (fun j hj => by rw [es_upd_n (by decide), f2 j hj]) (fun j j0 j1 => ?_)
        rw [es_upd_c]
        by_cases e : j = k
        · rw [if_pos e, e]
        · rw [if_neg e]; exact f3 j j0 (by omega)
      have hb : (0 : Int) ≤ k ∧ (k : Int) < 24 := by omega
      have e1 : w32 ((k : Int) + 1) = ((k + 1 : Nat) : Int) := by unfold w32; omega
      have b100 : kind = 3 ∨ n ≤ (k : Int) → (100 : Int) = bvF kind n f step k := fun q => by unfold bvF; rw [if_pos q]
      rw [hv, e1]
      simp only [es_upd_s]
      refine ⟨fun z => absurd z (by omega), fun _ => ⟨fun k0 => ⟨fun k1 => ⟨fun k3 => ⟨hb, hb, go _ (b100 (Or.inl k3))⟩, fun k3 => ⟨fun z => ⟨hb, hb, go _ ?_⟩, fun z => ⟨hb, hb, go _ (b100 (Or.inr (by omega)))⟩⟩⟩, fun k1 => ⟨fun k3 => ⟨hb, hb, go _ (b100 (Or.inl k3))⟩, fun k3 => ⟨fun z => ⟨hb, hb, go _ ?_⟩, fun z => ⟨hb, hb, go _ (b100 (Or.inr (by omega)))⟩⟩⟩⟩, fun k0 => ⟨fun k3 => ⟨hb, hb, go _ (b100 (Or.inl k3))⟩, fun k3 => ⟨fun z => ⟨hb, hb, go _ ?_⟩, fun z => ⟨hb, hb, go _ (b100 (Or.inr (by omega)))⟩⟩⟩⟩⟩
      · unfold bvF bzF; rw [if_neg (by omega), if_neg k0, if_neg k1]
      · unfold bvF bzF; rw [if_neg (by omega), if_neg k0, if_pos k1]
      · unfold bvF bzF; rw [if_neg (by omega), if_pos k0]
  have e0 : f = w32 (f + w32 (step * (0 : Nat))) := by
    rw [show step * ((0 : Nat) : Int) = 0 by simp]
    have h1 := hf.1; have h2 := hf.2
    unfold w32; omega
  have start : G 46 [lr 91, li kind, li n, none, li step, li f, li 0, li 0, none] [] (es_upd M 91 0 0) := by
    have := key 24 0 (es_upd M 91 0 0) (by omega) (fun c h1 _ => es_upd_o c h1) (fun j hj => es_upd_j hj) (fun j j0 j1 => by omega)
    rw [← e0] at this
    exact this
  exact ⟨fun _ => start, fun z => ⟨fun _ => start, fun w => absurd (hn2.resolve_left z) w⟩⟩
theorem P_busy (h : Inv M) {kind n f step : Int} (hf : es_r32 f) : Pair (d + 20) 33 247 [.inl kind, .inl n, .inl f, .inl step] M := by
  have hT := h.1
  apply m_EveryStreet_busy
  intro G hG
  apply k_EveryStreet_busy_0 hG
  have no : ¬ ((0 ≤ kind ∧ kind ≤ 3) ∧ n ≤ 24) → es_Call (d + 20) 247 [.inr (.inr 91), .inl kind, .inl n, .inl f, .inl step] M (fun y' M2 => y' = -1 ∧ Inv M2) := by
    intro q
    apply m_Model_busy
    intro G2 hG2
    apply k_Model_busy_0 hG2
    exact s_m_in (fun q1 q2 => es_t1 ⟨fun z => absurd ⟨⟨q1, q2⟩, z⟩ q, fun _ => ⟨rfl, h.th⟩⟩) (fun _ => es_t0 ⟨rfl, h.th⟩)
  -- both have told the same hours
  have fin : ∀ M1 M2 : es_M, (∀ c, c ≠ 20 → M1 c = M c) → (∀ c, c ≠ 91 → c ≠ 121 → M2 c = M1 c) → (∀ j, j ≠ 0 → M2 91 j = M1 91 j) → (∀ j, 0 ≤ j → j < 24 → M1 20 j = bvF kind n f step j) → (∀ j, 0 ≤ j → j < 24 → M2 121 j = bvF kind n f step j) → Inv M2 := by
    intro M1 M2 f1 g1 g2 b1 b2
    have rd : ∀ c, c ≠ 20 → c ≠ 91 → c ≠ 121 → M2 c = M c := fun c h1 h2 h3 => (g1 c h2 h3).trans (f1 c h1)
    have e : Fr wk M M2 := by
      intro c j hw
      by_cases q1 : c = 20
      · subst q1; cases hw
      · by_cases q2 : c = 121
        · subst q2; cases hw
        · by_cases q3 : c = 91
          · subst q3
            by_cases q4 : j = 0
            · subst q4; cases hw
            · rw [g2 j q4, f1 91 (by decide)]
          · rw [rd c q1 q3 q2]
    obtain ⟨h1, h2, h3, h4, h5, h6, h7, h8, h9⟩ := hT.S
    have r91 : ∀ j, j ≠ 0 → M2 91 j = M 91 j := fun j hj => by rw [g2 j hj, f1 91 (by decide)]
    refine h.work e ?_ (h.cache e (by rw [rd 60 (by decide) (by decide) (by decide)]) (by rw [rd 14 (by decide) (by decide) (by decide)]) (by rw [rd 14 (by decide) (by decide) (by decide)]))
    refine ⟨?_, ?_, ?_, ?_, ?_, ?_, ?_, ?_, ?_⟩
    · unfold SIsc mvN at h1 ⊢
      simp only [if_true] at h1 ⊢
      rw [rd 14 (by decide) (by decide) (by decide), r91 41 (by decide), r91 47 (by decide), r91 30 (by decide), r91 13 (by decide)]
      exact h1
    · rw [rd 14 (by decide) (by decide) (by decide), rd 1 (by decide) (by decide) (by decide)]
      show SIsh (M 1 0) (M 14 4) (M2 98)
      rw [rd 98 (by decide) (by decide) (by decide)]; exact h2
    · show SIhd (M2 14 1) (M2 15) (M2 120)
      rw [rd 14 (by decide) (by decide) (by decide), rd 15 (by decide) (by decide) (by decide), rd 120 (by decide) (by decide) (by decide)]; exact h3
    · show SIhp M2 (M2 14 1) (M2 15) (M2 16)
      rw [rd 14 (by decide) (by decide) (by decide), rd 15 (by decide) (by decide) (by decide), rd 16 (by decide) (by decide) (by decide)]; exact h4.congr (wk_tow e)
    · show SIor M2 (M2 14 2) (M2 17) (M2 125) (M2 126)
      rw [rd 14 (by decide) (by decide) (by decide), rd 17 (by decide) (by decide) (by decide), rd 125 (by decide) (by decide) (by decide), rd 126 (by decide) (by decide) (by decide)]; exact h5.congr (wk_tow e)
    · show SIcu (M2 14 3) (M2 18) (M2 19) (M2 112) (M2 113)
      rw [rd 14 (by decide) (by decide) (by decide), rd 18 (by decide) (by decide) (by decide), rd 19 (by decide) (by decide) (by decide), rd 112 (by decide) (by decide) (by decide), rd 113 (by decide) (by decide) (by decide)]; exact h6
    · intro j j0 j1
      show (1 ≤ M2 20 j ∧ M2 20 j ≤ 400) ∧ M2 121 j = M2 20 j
      rw [g1 20 (by decide) (by decide), b1 j j0 j1, b2 j j0 j1]
      exact ⟨bvF_r _ _ _ _ _, rfl⟩
    · show SIop (M2 21) (M2 22) (M2 99) (M2 100)
      rw [rd 21 (by decide) (by decide) (by decide), rd 22 (by decide) (by decide) (by decide), rd 99 (by decide) (by decide) (by decide), rd 100 (by decide) (by decide) (by decide)]; exact h8
    · show SIst (M2 23) (M2 102)
      rw [rd 23 (by decide) (by decide) (by decide), rd 102 (by decide) (by decide) (by decide)]; exact h9
  refine ⟨fun q => no (by omega), fun q1 => ⟨fun q => no (by omega), fun q2 => ⟨fun q3 => ⟨fun q4 => ⟨fun q5 => ?_, fun q5 => ?_⟩, fun q4 => ?_⟩, fun q => no (by omega)⟩⟩⟩
  · have key : ∀ (r k : Nat) (M' : es_M), k + r = 24 → (∀ c, c ≠ 20 → M' c = M c) → (∀ j, 0 ≤ j → j < (k : Int) → M' 20 j = bvF kind n f step j) → G 50 [lr 0, li kind, li n, li f, li step, li (bsF kind n f step k), li k] [] M' := by
      intro r
      induction r with
      | zero =>
        intro k M' kr f1 f2
        apply k_EveryStreet_busy_50 hG
        have hk24 : k = 24 := by omega
        subst hk24
        refine ⟨fun _ => s_m_busy ⟨by omega, by omega⟩ q3 (Or.inr q5) hf (fun M2 g1 g2 g3 => ?_), fun z => absurd (by omega) z⟩
        rw [if_neg q4]
        exact ⟨rfl, fin M' M2 f1 g1 g2 f2 g3⟩
      | succ r ih =>
        intro k M' kr f1 f2
        apply k_EveryStreet_busy_50 hG
        have go : ∀ b, b = bvF kind n f step k → G 50 [lr 0, li kind, li n, li f, li step, li (w32 (bsF kind n f step k + b)), li ((k + 1 : Nat) : Int)] [] (es_upd M' 20 k b) := by
          intro b hb
          subst hb
          refine ih (k + 1) _ (by omega) (fun c h1 => by rw [es_upd_o c h1, f1 c h1]) (fun j j0 j1 => ?_)
          rw [es_upd_c]
          by_cases e : j = k
          · rw [if_pos e, e]
          · rw [if_neg e]; exact f2 j j0 (by omega)
        have hb : (0 : Int) ≤ k ∧ (k : Int) < 24 := by omega
        have e1 : w32 ((k : Int) + 1) = ((k + 1 : Nat) : Int) := by unfold w32; omega
        rw [e1]
        simp only [es_upd_s]
        refine ⟨fun z => absurd z (by omega), fun _ => ⟨fun z => ⟨hb, hb, go _ ?_⟩, fun z => ?_⟩⟩
        · unfold bvF; rw [if_pos (Or.inr z)]
        · apply c_Clock_busyEntry
          refine ⟨fun k0 => ⟨fun k1 => ⟨hb, hb, go _ ?_⟩, fun k1 => ⟨hb, hb, go _ ?_⟩⟩, fun k0 => ⟨hb, hb, go _ ?_⟩⟩
          · unfold bvF bzF; rw [if_neg (by omega), if_neg k0, if_neg k1]
          · unfold bvF bzF; rw [if_neg (by omega), if_neg k0, if_pos k1]
          · unfold bvF bzF; rw [if_neg (by omega), if_pos k0]
    exact key 24 0 M (by omega) (fun _ _ => rfl) (fun j j0 j1 => by omega)
  · apply m_Model_busy
    intro G2 hG2
    apply k_Model_busy_0 hG2
    exact s_m_in (fun _ _ => es_t1 ⟨fun _ => ⟨fun z => absurd z q4, fun _ => ⟨fun z => absurd z q5, fun _ => ⟨rfl, h.th⟩⟩⟩, fun z => absurd q3 z⟩) (fun z => absurd ⟨by omega, by omega⟩ z)
  · refine s_fill20 (fun M1 f1 f2 => s_m_busy ⟨by omega, by omega⟩ q3 (Or.inl q4) hf (fun M2 g1 g2 g3 => ?_))
    rw [if_pos q4]
    refine ⟨rfl, fin M1 M2 f1 g1 g2 (fun j j0 j1 => ?_) g3⟩
    rw [f2 j j0 j1]; unfold bvF; rw [if_pos (Or.inl q4)]
end
