/-! PAIRS OF CALLS: go, straight, add -/
/-- no more different numbers below n than n -/
theorem pigeon : ∀ (n m : Nat) (f : Int → Int), (∀ i, 0 ≤ i → i < (m : Int) → 0 ≤ f i ∧ f i < (n : Int)) → (∀ i j, 0 ≤ i → i < (m : Int) → 0 ≤ j → j < (m : Int) → f i = f j → i = j) → m ≤ n
  | 0, m, f, h1, h2 => by
    rcases Nat.eq_zero_or_pos m with h | h
    · omega
    · have := h1 0 (by omega) (by omega); omega
  | n + 1, 0, f, h1, h2 => by omega
  | n + 1, m + 1, f, h1, h2 => by
    -- the last place's number is made free by a swap
    have hm := h1 m (by omega) (by omega)
    have := pigeon n m (fun i => if f i = n then f m else f i) (fun i i0 i1 => ?_) (fun i j i0 i1 j0 j1 e => ?_)
    · omega
    · have hi := h1 i i0 (by omega)
      by_cases q : f i = n
      · have : f m ≠ n := fun z => by have := h2 i m i0 (by omega) (by omega) (by omega) (by omega); omega
        simp only [if_pos q]; omega
      · simp only [if_neg q]; omega
    · by_cases q : f i = n
      · by_cases r : f j = n
        · exact h2 i j i0 (by omega) j0 (by omega) (by omega)
        · simp only [if_pos q, if_neg r] at e
          have := h2 m j (by omega) (by omega) j0 (by omega) e
          omega
      · by_cases r : f j = n
        · simp only [if_neg q, if_pos r] at e
          have := h2 i m i0 (by omega) (by omega) (by omega) e
          omega
        · simp only [if_neg q, if_neg r] at e
          exact h2 i j i0 (by omega) j0 (by omega) e
section
variable {d : Nat} {Q : Int → es_M → Prop} {T M : es_M}
theorem s_handEnd (hT : TI T) (hR : RepC T M) (h0 : 0 < T 14 1) (h : Q (T 15 (T 14 1 - 1)) M) : es_Call (d + 1) 68 [.inr (.inr 14)] M Q := by
  apply c_State_handEnd
  have hn := hT.hn
  rw [hR 14 1 rfl, show w32 (T 14 1 - 1) = T 14 1 - 1 from by unfold w32; omega, hR 15 _ rfl]
  exact ⟨fun z => absurd z (by omega), fun _ => ⟨by omega, h⟩⟩
theorem P_go (h : Inv M) {c : Int} : Pair (d + 20) 26 239 [.inl c] M := by
  have hT := h.1
  have hn := hT.hn
  apply c_EveryStreet_go
  have no : (¬ (0 ≤ c ∧ c < 12) ∨ ¬ M 14 1 < 60 ∨ (0 < M 14 1 ∧ (pbF M (M 15 (M 14 1 - 1)) c = -1 ∨ ¬ goes M (pbF M (M 15 (M 14 1 - 1)) c)))) → es_Call (d + 20) 239 [.inr (.inr 91), .inl c] M (fun y' M2 => y' = -1 ∧ Inv M2) := by
    intro q
    apply c_Model_go
    refine s_m_isCorner (fun c0 c1 => es_t1 ⟨fun z => ⟨fun z2 => ?_, fun z2 => ?_⟩, fun _ => ⟨rfl, h.th⟩⟩) (fun _ => es_t0 ⟨rfl, h.th⟩)
    · rw [rd1 (by decide), hn.2.2] at z z2
      omega
    · rw [rd1 (by decide), hn.2.2] at z z2 ⊢
      have hd := hT.hd (i := M 14 1 - 1) (by omega) (by omega)
      rw [show w32 (M 14 1 - 1) = M 14 1 - 1 from by unfold w32; omega, rd0 (by decide), hd.2]
      refine ⟨by omega, s_m_passBetween hT rep0 ⟨fun _ => ⟨rfl, h.th⟩, fun z3 => ?_⟩⟩
      have hpb := pbF_of hT (a := M 15 (M 14 1 - 1)) (b := c) (by omega)
      refine s_m_isPass hT rep0 hpb.1.1 hpb.1.2 (fun g => ?_) (fun _ => es_f0 ⟨rfl, h.th⟩)
      exfalso
      rcases q with q | q | q
      · exact q ⟨c0, c1⟩
      · omega
      · rcases q.2 with q | q
        · omega
        · exact q g
  refine s_isCorner (fun c0 c1 => es_t1 ⟨fun z => ⟨fun z2 => ?_, fun z2 => ?_⟩, fun z => no (Or.inr (Or.inl z))⟩) (fun z => es_t0 (no (Or.inl z)))
  · have e0 : M 14 1 = 0 := by omega
    rw [es_upd_s, es_upd_n (c := 15) (by decide), e0, show w32 (0 + 1) = 1 from by decide]
    refine ⟨by omega, ?_⟩
    apply c_Model_go
    have e41 : es_upd (es_upd (es_upd M 15 0 c) 14 1 1) 91 0 0 91 41 = 0 := by simp [es_upd]; omega
    refine s_m_isCorner (fun _ _ => es_t1 ⟨fun _ => ⟨fun _ => ?_, fun q => absurd (by omega) q⟩, fun q => by omega⟩) (fun q => absurd ⟨c0, c1⟩ q)
    rw [es_upd_s, es_upd_n (c := 120) (by decide), e41, show w32 (0 + 1) = 1 from by decide]
    refine ⟨by omega, rfl, ?_⟩
    have e : Fr wk M (es_upd (es_upd (es_upd (es_upd (es_upd M 15 0 c) 14 1 1) 91 0 0) 120 0 c) 91 41 1) := ((((Fr.rf.upd rfl).upd rfl).upd rfl).upd rfl).upd rfl
    obtain ⟨h1, h2, h3, h4, h5, h6, h7, h8, h9⟩ := hT.S
    refine h.work e ?_ (h.cache e (by simp [es_upd]) (by simp [es_upd]) (by simp [es_upd]))
    refine ⟨?_, ?_, ?_, ?_, ?_, ?_, ?_, ?_, ?_⟩
    · unfold SIsc mvN at h1 ⊢
      simp [es_upd] at h1 ⊢
      omega
    · simpa [es_upd, mvN, SIsh] using h2
    · intro i i0 i1
      have i1 : i < 1 := by simpa [es_upd] using i1
      have : i = 0 := by omega
      subst this
      simp [es_upd, mvN]; omega
    · intro i i0 i1
      have i1 : i + 1 < 1 := by simpa [es_upd] using i1
      omega
    · have := h5.congr (wk_tow e)
      simpa [es_upd, mvN, SIor] using this
    · simpa [es_upd, mvN, SIcu] using h6
    · simpa [es_upd, mvN, SIbz] using h7
    · simpa [es_upd, mvN, SIop] using h8
    · simpa [es_upd, mvN, SIst] using h9
  · refine s_handEnd hT (RepC.rf M) (by omega) (s_passBetween hT (RepC.rf M) ⟨fun z3 => no (Or.inr (Or.inr ⟨by omega, Or.inl z3⟩)), fun z3 => ?_⟩)
    obtain ⟨hpb1, hpb2, hpb3, hpb4⟩ := pbF_of hT z3
    have hnn := hT.n
    refine s_goes hT (RepC.rf M) hpb1.1 (by omega) (fun g => es_f1 ?_) (fun g => es_f0 (no (Or.inr (Or.inr ⟨by omega, Or.inr g⟩))))
    generalize hp : pbF M (M 15 (M 14 1 - 1)) c = p at *
    rw [es_upd_s, es_upd_n (c := 16) (by decide), es_upd_n (c := 15) (by decide), es_upd_n (c := 16) (by decide), show w32 (M 14 1 - 1) = M 14 1 - 1 from by unfold w32; omega, show w32 (M 14 1 + 1) = M 14 1 + 1 from by unfold w32; omega]
    refine ⟨by omega, by omega, ?_⟩
    have hR1 : ∀ a j, a ≠ 16 → a ≠ 15 → a ≠ 14 → a ≠ 91 → es_upd (es_upd (es_upd (es_upd M 16 (M 14 1 - 1) p) 15 (M 14 1) c) 14 1 (M 14 1 + 1)) 91 0 0 a j = M a j := fun a j q1 q2 q3 q4 => by rw [es_upd_n q4, es_upd_n q3, es_upd_n q2, es_upd_n q1]
    apply c_Model_go
    have e41 : es_upd (es_upd (es_upd (es_upd M 16 (M 14 1 - 1) p) 15 (M 14 1) c) 14 1 (M 14 1 + 1)) 91 0 0 91 41 = M 14 1 := by simp [es_upd]; exact hn.2.2
    refine s_m_isCorner (fun _ _ => es_t1 ⟨fun z5 => ⟨fun z6 => by omega, fun z6 => ?_⟩, fun q => by omega⟩) (fun q => absurd ⟨c0, c1⟩ q)
    have hd := hT.hd (i := M 14 1 - 1) (by omega) (by omega)
    rw [e41, show w32 (M 14 1 - 1) = M 14 1 - 1 from by unfold w32; omega, hR1 120 _ (by decide) (by decide) (by decide) (by decide), hd.2]
    refine ⟨by omega, ?_⟩
    have hRm : RepM M (es_upd (es_upd (es_upd (es_upd M 16 (M 14 1 - 1) p) 15 (M 14 1) c) 14 1 (M 14 1 + 1)) 91 0 0) := ((((RepM.rf M).upd rfl).upd rfl).upd rfl).upd rfl
    refine s_m_passBetween hT hRm ?_
    rw [hp]
    refine ⟨fun q => by omega, fun _ => s_m_isPass hT hRm hpb1.1 hpb1.2 (fun _ => es_f1 ?_) (fun q => absurd g q)⟩
    rw [es_upd_s, es_upd_n (c := 120) (by decide), e41, show w32 (M 14 1 + 1) = M 14 1 + 1 from by unfold w32; omega]
    refine ⟨by omega, rfl, ?_⟩
    have e : Fr wk M (es_upd (es_upd (es_upd (es_upd (es_upd (es_upd M 16 (M 14 1 - 1) p) 15 (M 14 1) c) 14 1 (M 14 1 + 1)) 91 0 0) 120 (M 14 1) c) 91 41 (M 14 1 + 1)) := (((((Fr.rf.upd rfl).upd rfl).upd rfl).upd rfl).upd rfl).upd rfl
    obtain ⟨h1, h2, h3, h4, h5, h6, h7, h8, h9⟩ := hT.S
    refine h.work e ?_ (h.cache e (by simp [es_upd]) (by simp [es_upd]) (by simp [es_upd]))
    refine ⟨?_, ?_, ?_, ?_, ?_, ?_, ?_, ?_, ?_⟩
    · unfold SIsc mvN at h1 ⊢
      simp [es_upd] at h1 ⊢
      omega
    · simpa [es_upd, mvN, SIsh] using h2
    · intro i i0 i1
      have i1 : i < M 14 1 + 1 := by simpa [es_upd] using i1
      by_cases q : i = M 14 1
      · subst q
        simp [es_upd, mvN]; omega
      · have := h3 i i0 (by omega)
        simpa [es_upd, mvN, q] using this
    · intro i i0 i1
      have i1 : i + 1 < M 14 1 + 1 := by simpa [es_upd] using i1
      have tw := wk_tow e
      rw [og_congr (tw 2 (by decide)) (tw 3 (by decide)), gl_congr (tw 2 (by decide)) (tw 3 (by decide)), ln_congr (tw 4 (by decide)) (tw 5 (by decide)), tw 1 (by decide)]
      by_cases q : i = M 14 1 - 1
      · subst q
        have q2 : ¬ M 14 1 - 1 = M 14 1 := by omega
        have q3 : M 14 1 - 1 + 1 = M 14 1 := by omega
        simp [es_upd, q2, q3]
        exact ⟨hpb1, hpb4, hpb2, hpb3⟩
      · have := h4 i i0 (by omega)
        have q2 : ¬ i = M 14 1 := by omega
        have q3 : ¬ i + 1 = M 14 1 := by omega
        simpa [es_upd, q, q2, q3] using this
    · have := h5.congr (wk_tow e)
      simpa [es_upd, mvN, SIor] using this
    · simpa [es_upd, mvN, SIcu] using h6
    · simpa [es_upd, mvN, SIbz] using h7
    · simpa [es_upd, mvN, SIop] using h8
    · simpa [es_upd, mvN, SIst] using h9
theorem P_straight (h : Inv M) {a b c : Int} : Pair (d + 20) 43 273 [.inl a, .inl b, .inl c] M := by
  have hT := h.1
  have hn := hT.n
  apply c_EveryStreet_straight
  -- the model, by what it finds
  have model : ∀ (M1 : es_M) (Q2 : Int → es_M → Prop), RepM M M1 → (∀ M2, M2 = es_upd M1 91 0 0 → (joF M a b = -1 ∨ (¬ c = -1 ∧ (c = a ∨ joF M b c = -1))) → Q2 0 M2) → (∀ M2, M2 = es_upd (es_upd M1 91 0 0) 102 (a * 12 + b) (c + 1) → ¬ joF M a b = -1 → (c = -1 ∨ (¬ c = a ∧ ¬ joF M b c = -1)) → Q2 1 M2) → es_Call (d + 20) 273 [.inr (.inr 91), .inl a, .inl b, .inl c] M1 Q2 := by
    intro M1 Q2 hR h0 h1
    apply m_Model_straight
    intro G hG
    have hR0 : RepM M (es_upd M1 91 0 0) := hR.upd rfl
    have no : (joF M a b = -1 ∨ (¬ c = -1 ∧ (c = a ∨ joF M b c = -1))) → G 78 [lr 91, li a, li b, li c, none] [] (es_upd M1 91 0 0) := fun q => k_Model_straight_78 hG (es_t0 (k_Model_straight_100 hG ⟨es_b0, h0 _ rfl q⟩))
    have no2 : joF M a b = -1 → G 36 [lr 91, li a, li b, li c, none] [] (es_upd M1 91 0 0) := fun q => k_Model_straight_36 hG (es_t0 (no (Or.inl q)))
    have yes : ¬ joF M a b = -1 → (c = -1 ∨ (¬ c = a ∧ ¬ joF M b c = -1)) → G 74 [lr 91, li a, li b, li c, none] [] (es_upd M1 91 0 0) := by
      intro q q2
      obtain ⟨j1, j2, j3, -⟩ := joF_of hT q
      apply k_Model_straight_74 hG
      have hc : -1 ≤ c ∧ c < 12 := by
        rcases q2 with q2 | q2
        · omega
        · have := (joF_of hT q2.2).2.1; omega
      rw [show w32 (w32 (a * 12) + b) = a * 12 + b from by unfold w32; omega, show w32 (c + 1) = c + 1 from by unfold w32; omega]
      exact es_t1 ⟨by omega, k_Model_straight_100 hG ⟨es_b1, h1 _ rfl q q2⟩⟩
    apply k_Model_straight_0 hG
    have cor : ¬ (0 ≤ a ∧ a < 12) ∨ ¬ (0 ≤ b ∧ b < 12) → joF M a b = -1 := by
      intro q
      unfold joF
      rw [if_neg (by omega)]
    refine s_m_isCorner (fun a0 a1 => es_t1 ?_) (fun q => es_t0 (no2 (cor (Or.inl q))))
    refine s_m_isCorner (fun b0 b1 => es_t1 ?_) (fun q => es_t0 (no2 (cor (Or.inr q))))
    rw [hR0 91 3 rfl, hn.2.2]
    refine s_m_streetBetween hT hR0 rfl ⟨fun q => no2 ?_, fun q => es_t1 ?_⟩
    · by_cases z : joF M a b = -1
      · exact z
      · have := (joF_of hT z).2.2.1; omega
    · have q' : ¬ joF M a b = -1 := by omega
      refine ⟨fun z => yes q' (Or.inl z), fun z => s_m_isCorner (fun c0 c1 => es_t1 ⟨fun w => no (Or.inr ⟨z, Or.inl w⟩), fun w => ?_⟩) (fun w => es_t0 (no (Or.inr ⟨z, Or.inr ?_⟩)))⟩
      · refine s_m_streetBetween hT hR0 (by rw [hR0 91 3 rfl, hn.2.2]) ⟨fun u => no (Or.inr ⟨z, Or.inr ?_⟩), fun u => yes q' (Or.inr ⟨w, by omega⟩)⟩
        by_cases v : joF M b c = -1
        · exact v
        · have := (joF_of hT v).2.2.1; omega
      · unfold joF
        rw [if_neg (by omega)]
  have done : ¬ joF M a b = -1 → (c = -1 ∨ (¬ c = a ∧ ¬ joF M b c = -1)) → ((0 ≤ w32 (w32 (a * 12) + b) ∧ w32 (w32 (a * 12) + b) < 144) ∧ ((1 : Int) = 0 ∨ (1 : Int) = 1) ∧ es_Call (d + 20) 273 [.inr (.inr 91), .inl a, .inl b, .inl c] (es_upd M 23 (w32 (w32 (a * 12) + b)) c) (fun y' M2 => y' = 1 ∧ Inv M2)) := by
    intro q q2
    obtain ⟨j1, j2, j3, -⟩ := joF_of hT q
    have hc : -1 ≤ c ∧ c < 12 := by
      rcases q2 with q2 | q2
      · omega
      · have := (joF_of hT q2.2).2.1; omega
    rw [show w32 (w32 (a * 12) + b) = a * 12 + b from by unfold w32; omega]
    refine ⟨by omega, es_b1, model _ _ ((RepM.rf M).upd rfl) (fun M2 _ z => ?_) (fun M2 eM _ _ => ⟨rfl, ?_⟩)⟩
    · exfalso
      rcases z with z | z
      · exact q z
      · rcases q2 with q2 | q2
        · exact z.1 q2
        · exact z.2.elim q2.1 q2.2
    · subst eM
      have e : Fr wk M (es_upd (es_upd (es_upd M 23 (a * 12 + b) c) 91 0 0) 102 (a * 12 + b) (c + 1)) := ((Fr.rf.upd rfl).upd rfl).upd rfl
      obtain ⟨h1, h2, h3, h4, h5, h6, h7, h8, h9⟩ := hT.S
      refine h.work e ?_ (h.cache e (by simp [es_upd]) (by simp [es_upd]) (by simp [es_upd]))
      refine ⟨?_, ?_, ?_, ?_, ?_, ?_, ?_, ?_, ?_⟩
      · simpa [es_upd, SIsc, mvN] using h1
      · simpa [es_upd, mvN, SIsh] using h2
      · simpa [es_upd, mvN, SIhd] using h3
      · have := h4.congr (wk_tow e)
        simpa [es_upd, SIhp] using this
      · have := h5.congr (wk_tow e)
        simpa [es_upd, mvN, SIor] using this
      · simpa [es_upd, mvN, SIcu] using h6
      · simpa [es_upd, mvN, SIbz] using h7
      · simpa [es_upd, mvN, SIop] using h8
      · intro k k0 k1
        by_cases z : k = a * 12 + b
        · subst z
          simp [es_upd, mvN]; omega
        · have := h9 k k0 k1
          simpa [es_upd, mvN, z] using this
  have nope : (joF M a b = -1 ∨ (¬ c = -1 ∧ (c = a ∨ joF M b c = -1))) → es_Call (d + 20) 273 [.inr (.inr 91), .inl a, .inl b, .inl c] M (fun y' M2 => y' = 0 ∧ Inv M2) := by
    intro q
    refine model M _ (RepM.rf M) (fun M2 e _ => ⟨rfl, by rw [e]; exact h.th⟩) (fun M2 _ z z2 => ?_)
    exfalso
    rcases q with q | q
    · exact z q
    · rcases z2 with z2 | z2
      · exact q.1 z2
      · exact q.2.elim z2.1 z2.2
  refine s_joining (RepC.rf M) ⟨fun q => ⟨fun z => done q (Or.inl z), fun z => ⟨fun w => ⟨es_b0, nope (Or.inr ⟨z, Or.inl w⟩)⟩, fun w => s_joining (RepC.rf M) ⟨fun u => done q (Or.inr ⟨w, u⟩), fun u => ⟨es_b0, nope (Or.inr ⟨z, Or.inr u⟩)⟩⟩⟩⟩, fun q => ⟨es_b0, nope (Or.inl q)⟩⟩
end
