/-! PAIRS OF CALLS: bars (11) -/
section
variable {d : Nat} {M : es_M}
theorem P_bars (h : Inv M) {a : Int} : Pair (d + 20) 24 236 [.inl a] M := by
  have hT := h.1
  apply m_EveryStreet_bars
  intro G hG
  apply k_EveryStreet_bars_0 hG
  refine s_isCorner (fun a0 a1 => es_f1 ?_) (fun z => es_f0 (m_Model_bars (fun G hG => k_Model_bars_0 hG (s_m_isCorner (fun q1 q2 => absurd ⟨q1, q2⟩ z) (fun _ => es_f0 ⟨rfl, h.th⟩)))))
  have model : ∀ v M1, brV M a v → (∀ c, c ≠ 64 → c ≠ 65 → M1 c = M c) → es_Call (d + 20) 236 [.inr (.inr 91), .inl a] M1 (fun y' M2 => y' = v ∧ Inv M2) := by
    intro v M1 hb o
    have hR1 : RepM M (es_upd M1 91 0 0) := by
      intro c j q
      by_cases e : c = 91
      · subst e
        rw [es_upd_j (by rintro rfl; cases q), o 91 (by decide) (by decide)]
      · rw [es_upd_o c e, o c (by rintro rfl; cases q) (by rintro rfl; cases q)]
    refine s_m_bars (d := d + 11) hT a0 a1 hR1 (fun w M2 hw g1 g2 => ⟨brV_u hw hb, ?_⟩)
    have k : ∀ c, c ≠ 64 → c ≠ 65 → c ≠ 91 → c ≠ 118 → c ≠ 119 → M2 c = M c := fun c x1 x2 x3 x4 x5 => by rw [g1 c x3 x4 x5, o c x1 x2]
    have k91 : ∀ j, j ≠ 0 → j ≠ 38 → j ≠ 39 → M2 91 j = M 91 j := fun j x1 x2 x3 => by rw [g2 j x1 x2 x3, o 91 (by decide) (by decide)]
    refine h.same (fun c j q => ?_) (k 58 (by decide) (by decide) (by decide) (by decide) (by decide)) (k 59 (by decide) (by decide) (by decide) (by decide) (by decide)) (by rw [k 60 (by decide) (by decide) (by decide) (by decide) (by decide)]) (k 61 (by decide) (by decide) (by decide) (by decide) (by decide)) (k 62 (by decide) (by decide) (by decide) (by decide) (by decide)) (k 63 (by decide) (by decide) (by decide) (by decide) (by decide)) (k91 1 (by decide) (by decide) (by decide)) (k 92 (by decide) (by decide) (by decide) (by decide) (by decide))
    by_cases c1 : c = 91
    · subst c1
      refine k91 j ?_ ?_ ?_ <;> (rintro rfl; cases q)
    · rw [k c ?_ ?_ c1 ?_ ?_] <;> (rintro rfl; cases q)
  have e1 : Tg M (-1) = M := if_pos rfl
  have ec : ∀ c, 0 ≤ c → Tg M c = Tf M c := fun c c0 => if_neg (by omega)
  refine s_hasRound hT (RepC.rf M) (Or.inl rfl) (fun hr M1 o => es_t1 (model (-2) M1 (Or.inl ⟨by rw [e1] at hr; exact hr, rfl⟩) o)) (fun hr M1 o => es_t0 ?_)
  rw [e1] at hr
  refine es_up (P := fun c => ∀ M1, (∀ c, c ≠ 64 → c ≠ 65 → M1 c = M c) → (∀ b, 0 ≤ b → b < c → ¬ rnd (Tf M b) a) → G 26 [lr 0, li a, li c] [] M1) (n := 12) (by decide) ?_ ?_ M1 o (fun b b0 b1 => absurd b1 (by omega))
  · intro M1 o hb
    apply k_EveryStreet_bars_26 hG
    exact ⟨fun _ => model (-1) M1 (Or.inr ⟨hr, Or.inr ⟨rfl, hb⟩⟩) o, fun z => absurd (by decide) z⟩
  · intro c c0 c1 ih M1 o hb
    apply k_EveryStreet_bars_26 hG
    rw [w32_1 (k := c) (by omega) (by omega)]
    have hR1 : RepC M M1 := fun c j q => by rw [o c (by rintro rfl; cases q) (by rintro rfl; cases q)]
    refine ⟨fun z => absurd z (by omega), fun _ => s_hasRound hT hR1 (Or.inr ⟨c0, c1⟩) (fun hc M2 o2 => es_t1 ?_) (fun hc M2 o2 => es_t0 ?_)⟩
    · rw [ec c c0] at hc
      exact model c M2 (Or.inr ⟨hr, Or.inl ⟨⟨c0, c1⟩, hc, hb⟩⟩) (fun k x1 x2 => by rw [o2 k x1 x2, o k x1 x2])
    · rw [ec c c0] at hc
      refine ih M2 (fun k x1 x2 => by rw [o2 k x1 x2, o k x1 x2]) (fun b b0 b1 => ?_)
      by_cases e : b = c
      · rw [e]; exact hc
      · exact hb b b0 (by omega)
end
