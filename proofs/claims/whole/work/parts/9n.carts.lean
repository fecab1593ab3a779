/-! PAIRS OF CALLS: carts (2) -/
section
variable {d : Nat} {M : es_M}
theorem P_carts (h : Inv M) {a k cap w : Int} : Pair (d + 20) 41 266 [.inl a, .inl k, .inl cap, .inl w] M := by
  have hT := h.1
  have ha := hT.all
  apply c_EveryStreet_carts
  -- refused
  have bad : ¬ ((0 ≤ a ∧ a < 12) ∧ (1 ≤ k ∧ k ≤ 4) ∧ (1 ≤ cap ∧ cap ≤ 99) ∧ (0 ≤ w ∧ w ≤ 1)) → es_Call (d + 20) 266 [.inr (.inr 91), .inl a, .inl k, .inl cap, .inl w] M (fun y' M2 => y' = -1 ∧ Inv M2) := by
    intro nb
    refine m_Model_carts (fun G hG => k_Model_carts_0 hG (s_m_isCorner (fun q1 q2 => es_t1 (s_m_in (fun q3 q4 => es_t1 (s_m_in (fun q5 q6 => es_t1 (s_m_in (fun q7 q8 => absurd ⟨⟨q1, q2⟩, ⟨q3, q4⟩, ⟨q5, q6⟩, ⟨q7, q8⟩⟩ nb) (fun _ => es_f0 ⟨rfl, h.th⟩))) (fun _ => es_t0 ⟨rfl, h.th⟩))) (fun _ => es_t0 ⟨rfl, h.th⟩))) (fun _ => es_t0 ⟨rfl, h.th⟩)))
  -- done
  have good : 0 ≤ a → a < 12 → 1 ≤ k → k ≤ 4 → 1 ≤ cap → cap ≤ 99 → (w = 0 ∨ w = 1) → ∀ R : es_M → Prop, (∀ M4, es_Call (d + 19) 117 [.inr (.inr 72), .inl k, .inl w, .inr (.inr 58)] M4 (fun y6 M5 => es_Call (d + 20) 266 [.inr (.inr 91), .inl a, .inl k, .inl cap, .inl w] M5 (fun y' M2 => y' = y6 ∧ Inv M2)) → R M4) → es_Call (d + 19) 112 [.inr (.inr 67), .inl a] M (fun _ M3 => es_Call (d + 19) 116 [.inr (.inr 72), .inr (.inr 71), .inl cap] M3 (fun _ M4 => R M4)) := by
    intro a0 a1 k0 k1 p0 p1 hw R hRR
    obtain ⟨K, rfl⟩ : ∃ K : Nat, k = (K : Int) + 1 := ⟨(k - 1).toNat, by omega⟩
    have hK : K ≤ 3 := by omega
    refine s_tourAll hT (RepC.rf M) h.2.2 (fun M1 o1 c0 c1 c2 c3 => s_costByTours hT (repP (RepC.rf M) o1) c3 (fun M2 f1 f2 => ?_))
    have k2 : offC M M2 := fun c x1 x2 x3 x4 x5 x6 x7 x8 x9 y1 y2 y3 y4 y5 => by rw [f1 c y4]; exact o1 c x3 x4 x5 x6 x7 x8 x9 y1 y2 y3
    have hR2 : RepC M M2 := by
      intro c j q
      rw [k2 c ?_ ?_ ?_ ?_ ?_ ?_ ?_ ?_ ?_ ?_ ?_ ?_ ?_ ?_]
      all_goals (rintro rfl; cases q)
    have cc := cc_ok hT (a := a) (cap := cap)
    have ca : ∀ X : es_M, (∀ c, c ≠ 73 → c ≠ 74 → c ≠ 58 → c ≠ 59 → X c = M1 c) → CacheOK M X := fun X e => ⟨Or.inl (by rw [e 60 (by decide) (by decide) (by decide) (by decide)]; exact c0), fun _ => ⟨leastOK.of hT (fun p q hp hq => by rw [e 61 (by decide) (by decide) (by decide) (by decide)]; exact c2 p q hp hq), fun p hp => by rw [e 62 (by decide) (by decide) (by decide) (by decide), e 63 (by decide) (by decide) (by decide) (by decide)]; exact c1 p hp⟩⟩
    -- the model
    have md : ∀ (X1 : es_M) (y : Int), offC M X1 → CacheOK M X1 → (¬ shF w (ccF M a cap) K (allF M) < 1000000 → y = -2 ∧ X1 58 = M 58 ∧ X1 59 = M 59) → (shF w (ccF M a cap) K (allF M) < 1000000 → y = shF w (ccF M a cap) K (allF M) ∧ RwC (tlR w (ccF M a cap) K (allF M) (shF w (ccF M a cap) K (allF M)) (0, fun _ => 0)) X1) → es_Call (d + 20) 266 [.inr (.inr 91), .inl a, .inl ((K : Int) + 1), .inl cap, .inl w] X1 (fun y' M2 => y' = y ∧ Inv M2) := by
      intro X1 y kk cX hno hyes
      apply m_Model_carts
      intro G hG
      apply k_Model_carts_0 hG
      refine s_m_isCorner (fun _ _ => es_t1 (s_m_in (fun _ _ => es_t1 (s_m_in (fun _ _ => es_t1 (s_m_in (fun _ _ => es_f1 ?_) (fun z => absurd (by omega) z))) (fun z => absurd ⟨p0, p1⟩ z))) (fun z => absurd ⟨k0, k1⟩ z))) (fun z => absurd ⟨a0, a1⟩ z)
      have hR0 := repC2 kk
      refine es_up (P := fun S => ∀ X : es_M, ((∀ c, c ≠ 91 → c ≠ 118 → c ≠ 134 → X c = X1 c) ∧ ∀ j, j ≠ 0 → j ≠ 38 → j ≠ 39 → X 91 j = X1 91 j) → (∀ U, 0 ≤ U → U < S → X 134 U = ccF M a cap U) → G 52 [lr 91, li a, li ((K : Int) + 1), li cap, li w, li S] [] X) (n := allF M + 1) (by omega) ?_ ?_ _ ⟨fun c x1 _ _ => es_upd_o c x1, fun j x1 _ _ => es_upd_j x1⟩ (fun U a b => absurd b (by omega))
      · intro X hX g
        have hRX : RepM M X := by
          intro c j q
          by_cases e : c = 91
          · subst e
            rw [hX.2 j (by rintro rfl; cases q) (by rintro rfl; cases q) (by rintro rfl; cases q)]
            have := hR0 91 j q
            rw [es_upd_j (by rintro rfl; cases q)] at this
            exact this
          · rw [hX.1 c e (by rintro rfl; cases q) (by rintro rfl; cases q)]
            have := hR0 c j q
            rw [es_upd_o c e] at this
            exact this
        apply k_Model_carts_52 hG
        refine s_m_all hT hRX ⟨fun _ => ?_, fun z => absurd (by omega) z⟩
        refine ⟨fun z => ?_, fun z => ?_⟩
        · have w0 : w = 0 := by omega
          subst w0
          exact mdl_share (d := d + 17) h kk cX cc (L := 0) (E := 1) (fun e => absurd e (by decide)) hK hX (fun S S0 S1 _ => g S S0 (by omega)) (fun y5 N hN => ⟨hN.1, fun q => ⟨fun _ => hN.2.1 q, fun q' => absurd q' (by decide)⟩, hN.2.2⟩) hno hyes
        · subst z
          exact mdl_share (d := d + 17) h kk cX cc (L := 1) (E := 1) (fun e => absurd e (by decide)) hK hX (fun S S0 S1 _ => g S S0 (by omega)) (fun y5 N hN => ⟨hN.1, fun q => ⟨fun q' => absurd rfl q', fun _ => hN.2.1 q⟩, hN.2.2⟩) hno hyes
      · intro S S0 S1 ih X hX g
        have SN : S ≤ allF M := by omega
        have S1024 : S < 1024 := by omega
        have rX : ∀ Y : es_M, ((∀ c, c ≠ 91 → c ≠ 118 → c ≠ 134 → Y c = X1 c) ∧ ∀ j, j ≠ 0 → j ≠ 38 → j ≠ 39 → Y 91 j = X1 91 j) → RepM M Y := by
          intro Y hY c j q
          by_cases e : c = 91
          · subst e
            rw [hY.2 j (by rintro rfl; cases q) (by rintro rfl; cases q) (by rintro rfl; cases q)]
            have := hR0 91 j q
            rw [es_upd_j (by rintro rfl; cases q)] at this
            exact this
          · rw [hY.1 c e (by rintro rfl; cases q) (by rintro rfl; cases q)]
            have := hR0 c j q
            rw [es_upd_o c e] at this
            exact this
        have hY : ((∀ c, c ≠ 91 → c ≠ 118 → c ≠ 134 → es_upd X 134 S 1000000 c = X1 c) ∧ ∀ j, j ≠ 0 → j ≠ 38 → j ≠ 39 → es_upd X 134 S 1000000 91 j = X1 91 j) := ⟨fun c x1 x2 x3 => by rw [es_upd_o c x3]; exact hX.1 c x1 x2 x3, fun j x1 x2 x3 => by rw [es_upd_n (by decide)]; exact hX.2 j x1 x2 x3⟩
        have wS : w32 (S + 1) = S + 1 := w32_1 (by omega) (by omega)
        have Sr : 0 ≤ S ∧ S < 1024 := ⟨S0, S1024⟩
        apply k_Model_carts_52 hG
        rw [wS]
        refine s_m_all hT (rX X hX) ⟨fun z => absurd z (by omega), fun _ => ⟨Sr, s_m_loadOf hT (rX _ hY) S0 S1024 ⟨fun z => ih _ hY (fun U U0 U1 => ?_), fun z => s_m_fills hT (rX _ hY) S0 S1024 (fun M4 b1 b2 b3 b4 b5 => c_Model_remainOf ?_)⟩⟩⟩
        · rw [es_upd_c]
          by_cases q : U = S
          · rw [if_pos q, q]
            unfold ccF
            rw [if_neg (by omega)]
          · rw [if_neg q]; exact g U U0 (by omega)
        · obtain ⟨x1, x2, x3⟩ := w37888 (a := 0) (b := 36) (by decide) (by decide)
          have v : M4 118 (0 * 37 + 36) = rmF M a a S 36 0 := b5 0 (s0W S) (by decide) (by decide) 36 (Or.inl rfl)
          rw [x1, v]
          refine ⟨⟨x2, x3⟩, Sr, ih _ ⟨fun c y1 y2 y3 => by rw [es_upd_o c y3, b1 c y2 y1]; exact hY.1 c y1 y2 y3, fun j y1 y2 y3 => by rw [es_upd_n (by decide), b2 j y2 y3]; exact hY.2 j y1 y2 y3⟩ (fun U U0 U1 => ?_)⟩
          rw [es_upd_c]
          by_cases q : U = S
          · rw [if_pos q, q]
            unfold ccF
            rw [if_pos (by omega)]
          · rw [if_neg q, b1 134 (by decide) (by decide), es_upd_j q]; exact g U U0 (by omega)
    refine hRR _ (s_share (d := d + 15) hT hR2 cc f2 hK (fun z X e => ?_) (fun z X e r => ?_))
    · have kx : offC M X := fun c x1 x2 x3 x4 x5 x6 x7 x8 x9 y1 y2 y3 y4 y5 => by rw [e c y5]; exact k2 c x1 x2 x3 x4 x5 x6 x7 x8 x9 y1 y2 y3 y4 y5
      refine md X _ kx (ca X (fun c y1 y2 _ _ => by rw [e c y2, f1 c y1])) (fun _ => ⟨rfl, ?_, ?_⟩) (fun q => absurd q z)
      · rw [e 58 (by decide), f1 58 (by decide), o1 58] <;> decide
      · rw [e 59 (by decide), f1 59 (by decide), o1 59] <;> decide
    · have kx : offC M X := fun c x1 x2 x3 x4 x5 x6 x7 x8 x9 y1 y2 y3 y4 y5 => by rw [e c y5 x1 x2]; exact k2 c x1 x2 x3 x4 x5 x6 x7 x8 x9 y1 y2 y3 y4 y5
      exact md X _ kx (ca X (fun c y1 y2 y3 y4 => by rw [e c y2 y3 y4, f1 c y1])) (fun q => absurd z q) (fun _ => ⟨rfl, r⟩)
  refine s_isCorner (fun a0 a1 => es_t1 ⟨fun z => bad (fun q => by omega), fun z1 => ⟨fun z => bad (fun q => by omega), fun z2 => ⟨fun z => bad (fun q => by omega), fun z3 => ⟨fun z4 => ⟨fun z5 => ?_, fun z5 => ⟨fun z6 => ?_, fun z6 => bad (fun q => by omega)⟩⟩, fun z => bad (fun q => by omega)⟩⟩⟩⟩) (fun z => es_t0 (bad (fun q => z q.1)))
  · subst z5
    exact good a0 a1 (by omega) (by omega) (by omega) z4 (Or.inl rfl) _ (fun N hN => ⟨fun _ => hN, fun q => absurd q (by decide)⟩)
  · subst z6
    exact good a0 a1 (by omega) (by omega) (by omega) z4 (Or.inr rfl) _ (fun N hN => ⟨fun q => absurd rfl q, fun _ => hN⟩)
end
