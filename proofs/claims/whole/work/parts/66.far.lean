/-! PAIRS OF CALLS: far (2) -/
section
variable {d : Nat} {Q : Int → es_M → Prop} {T M : es_M}
theorem rep111 {M' : es_M} (hR : RepM T M) (h : ∀ c, c ≠ 111 → M' c = M c) : RepM T M' := by
  intro c j q
  by_cases e : c = 111
  · subst e; cases q
  · rw [h c e]; exact hR _ _ q
theorem s_m_measures (hT : TI T) (hR : RepM T M) (h : ∀ M', (∀ c, c ≠ 111 → M' c = M c) → (∀ j, 0 ≤ j → j < 144 → M' 111 j = farF T j) → Q 0 M') : es_Call (d + 2) 206 [.inr (.inr 91)] M Q := by
  apply m_Model_measures
  intro G hG
  have hn := hT.n
  have hd := fun j => d0F_r hT (j := j)
  have L3 : ∀ M', (∀ c, c ≠ 111 → M' c = M c) → (∀ j, 0 ≤ j → j < 144 → M' 111 j = d0F T j) → G 76 [lr 91, li 0, none, none] [] M' := by
    refine es_up (P := fun y => ∀ M', (∀ c, c ≠ 111 → M' c = M c) → (∀ j, 0 ≤ j → j < 144 → M' 111 j = fwN (d0F T) (y * 144).toNat j) → G 76 [lr 91, li y, none, none] [] M') (n := 12) (by decide) ?_ ?_
    · intro M' f1 f2
      apply k_Model_measures_76 hG
      exact ⟨fun _ => h M' f1 f2, fun z => absurd (Int.le_refl _) z⟩
    · intro y y0 y1 ih M' f1 f2
      apply k_Model_measures_76 hG
      refine ⟨fun z => absurd z (by omega), fun _ => ?_⟩
      refine es_up (P := fun a => ∀ M', (∀ c, c ≠ 111 → M' c = M c) → (∀ j, 0 ≤ j → j < 144 → M' 111 j = fwN (d0F T) (y * 144 + a * 12).toNat j) → G 84 [lr 91, li y, li a, none] [] M') (n := 12) (by decide) ?_ ?_ M' f1 (by rw [show y * 144 + 0 * 12 = y * 144 by omega]; exact f2)
      · intro M' f1 f2
        apply k_Model_measures_84 hG
        rw [w32_1 (by omega) (by omega)]
        exact ⟨fun _ => ih M' f1 (by rw [show (y + 1) * 144 = y * 144 + 12 * 12 by omega]; exact f2), fun z => absurd (Int.le_refl _) z⟩
      · intro a a0 a1 ih2 M' f1 f2
        apply k_Model_measures_84 hG
        refine ⟨fun z => absurd z (by omega), fun _ => ?_⟩
        refine es_up (P := fun b => ∀ M', (∀ c, c ≠ 111 → M' c = M c) → (∀ j, 0 ≤ j → j < 144 → M' 111 j = fwN (d0F T) (y * 144 + a * 12 + b).toNat j) → G 92 [lr 91, li y, li a, li b] [] M') (n := 12) (by decide) ?_ ?_ M' f1 (by rw [show y * 144 + a * 12 + 0 = y * 144 + a * 12 by omega]; exact f2)
        · intro M' f1 f2
          apply k_Model_measures_92 hG
          rw [w32_1 (k := a) (by omega) (by omega)]
          exact ⟨fun _ => ih2 M' f1 (by rw [show y * 144 + (a + 1) * 12 = y * 144 + a * 12 + 12 by omega]; exact f2), fun z => absurd (Int.le_refl _) z⟩
        · intro b b0 b1 ih3 M' f1 f2
          apply k_Model_measures_92 hG
          obtain ⟨p1, p2, p3⟩ := w144 ⟨a0, a1⟩ ⟨y0, y1⟩
          obtain ⟨q1, q2, q3⟩ := w144 ⟨y0, y1⟩ ⟨b0, b1⟩
          obtain ⟨r1, r2, r3⟩ := w144 ⟨a0, a1⟩ ⟨b0, b1⟩
          rw [p1, q1, r1, w32_1 (k := b) (by omega) (by omega)]
          refine ⟨fun z => absurd z (by omega), fun _ => ⟨⟨r2, r3⟩, ⟨p2, p3⟩, ⟨q2, q3⟩, ⟨r2, r3⟩, ih3 _ (fun c hc => by rw [es_upd_o c hc, f1 c hc]) (fun j j0 j1 => ?_)⟩⟩
          rw [es_upd_c]
          exact fw_step hd y0 y1 a0 a1 b0 b1 f2 j j0 j1
  apply k_Model_measures_0 hG
  refine es_up (P := fun a => ∀ M', (∀ c, c ≠ 111 → M' c = M c) → (∀ j, 0 ≤ j → j < a * 12 → M' 111 j = d0F T j) → G 2 [lr 91, li a, none, none] [] M') (n := 12) (by decide) ?_ ?_ M (fun _ _ => rfl) (fun j j0 j1 => by omega)
  · intro M' f1 f2
    apply k_Model_measures_2 hG
    exact ⟨fun _ => L3 M' f1 (fun j j0 j1 => f2 j j0 (by omega)), fun z => absurd (Int.le_refl _) z⟩
  · intro a a0 a1 ih M' f1 f2
    apply k_Model_measures_2 hG
    refine ⟨fun z => absurd z (by omega), fun _ => ?_⟩
    refine es_up (P := fun b => ∀ M', (∀ c, c ≠ 111 → M' c = M c) → (∀ j, 0 ≤ j → j < a * 12 + b → M' 111 j = d0F T j) → G 10 [lr 91, li a, li b, none] [] M') (n := 12) (by decide) ?_ ?_ M' f1 (fun j j0 j1 => f2 j j0 (by omega))
    · intro M' f1 f2
      apply k_Model_measures_10 hG
      rw [w32_1 (k := a) (by omega) (by omega)]
      exact ⟨fun _ => ih M' f1 (fun j j0 j1 => f2 j j0 (by omega)), fun z => absurd (Int.le_refl _) z⟩
    · intro b b0 b1 ih2 M' f1 f2
      have hR' := rep111 hR f1
      obtain ⟨r1, r2, r3⟩ := w144 ⟨a0, a1⟩ ⟨b0, b1⟩
      have fin : ∀ v, v = d0F T (a * 12 + b) → G 10 [lr 91, li a, li (b + 1), none] [] (es_upd M' 111 (a * 12 + b) v) := by
        intro v hv
        refine ih2 _ (fun c hc => by rw [es_upd_o c hc, f1 c hc]) (fun j j0 j1 => ?_)
        rw [es_upd_c]
        by_cases e : j = a * 12 + b
        · rw [if_pos e, e, hv]
        · rw [if_neg e]; exact f2 j j0 (by omega)
      have ed : d0F T (a * 12 + b) = if a = b then 0 else if T 8 (a * 12 + b) = -1 then 1000000 else lesF T (T 8 (a * 12 + b)) := by
        unfold d0F
        rw [show (a * 12 + b) / 12 = a by omega, show (a * 12 + b) % 12 = b by omega]
      have ej : joF T a b = T 8 (a * 12 + b) := by unfold joF; rw [if_pos ⟨a0, a1, b0, b1⟩]
      have jt := hT.jt a0 a1 b0 b1
      apply k_Model_measures_10 hG
      rw [hR' 91 3 rfl, hn.2.2, r1, w32_1 (k := b) (by omega) (by omega)]
      refine ⟨fun z => absurd z (by omega), fun _ => s_m_streetBetween hT hR' rfl ?_⟩
      rw [ej]
      refine ⟨fun z => ⟨fun w => s_m_lesser hT hR' w (by omega) ⟨⟨r2, r3⟩, fin _ ?_⟩, fun w => ⟨⟨r2, r3⟩, fin _ ?_⟩⟩, fun z => ⟨⟨r2, r3⟩, fin _ ?_⟩⟩
      · rw [ed, if_neg z, if_neg (by omega)]
      · rw [ed, if_neg z, if_pos (by omega)]
      · rw [ed, if_pos z]
end
/-- cells of work may change -/
theorem Inv.cells {M M' : es_M} (h : Inv M) (e : ∀ c, ¬ (c = 76 ∨ c = 77 ∨ c = 111) → c ≠ 91 → M' c = M c) (e2 : ∀ j, j ≠ 0 → M' 91 j = M 91 j) : Inv M' := by
  refine h.same (fun c j q => ?_) (e 58 (by decide) (by decide)) (e 59 (by decide) (by decide)) (by rw [e 60 (by decide) (by decide)]) (e 61 (by decide) (by decide)) (e 62 (by decide) (by decide)) (e 63 (by decide) (by decide)) (e2 1 (by decide)) (e 92 (by decide) (by decide))
  by_cases c1 : c = 91
  · subst c1
    refine e2 j ?_
    rintro rfl; cases q
  · rw [e c ?_ c1]
    rintro (rfl | rfl | rfl) <;> cases q
section
variable {d : Nat} {M : es_M}
theorem P_far (h : Inv M) {a b : Int} : Pair (d + 20) 13 205 [.inl a, .inl b] M := by
  have hT := h.1
  apply c_EveryStreet_far
  refine s_isCorner (fun a0 a1 => es_t1 (s_isCorner (fun b0 b1 => es_f1 (c_Bounds_farBetween (s_measure hT (RepC.rf M) fun M1 f1 f2 => ?_))) (fun z => es_f0 ?_))) (fun z => es_t0 ?_)
  · obtain ⟨r1, r2, r3⟩ := w144 ⟨a0, a1⟩ ⟨b0, b1⟩
    rw [r1, f2 _ r2 r3]
    have hR1 : RepM M (es_upd M1 91 0 0) := by
      intro c j q
      by_cases e : c = 91
      · subst e
        rw [es_upd_j (by rintro rfl; cases q), f1 91 (by decide)]
      · rw [es_upd_o c e, f1 c (by rintro rfl; cases q)]
    have model : ∀ y, y = (if farF M (a * 12 + b) < 1000000 then farF M (a * 12 + b) else -1) → es_Call (d + 20) 205 [.inr (.inr 91), .inl a, .inl b] M1 (fun y' M2 => y' = y ∧ Inv M2) := by
      intro y hy
      refine c_Model_far (s_m_isCorner (fun _ _ => es_t1 (s_m_isCorner (fun _ _ => es_f1 (s_m_measures hT hR1 fun M2 g1 g2 => ?_)) (fun q => absurd ⟨b0, b1⟩ q))) (fun q => absurd ⟨a0, a1⟩ q))
      rw [r1, g2 _ r2 r3]
      have hI : Inv M2 := h.cells (fun c c1 c2 => by rw [g1 c (by omega), es_upd_o c c2, f1 c (by omega)]) (fun j hj => by rw [g1 91 (by decide), es_upd_j hj, f1 91 (by decide)])
      refine ⟨⟨r2, r3⟩, fun z => ⟨?_, hI⟩, fun z => ⟨?_, hI⟩⟩
      · rw [hy, if_neg (by omega)]
      · rw [hy, if_pos (by omega)]
    refine ⟨⟨r2, r3⟩, fun z => model _ ?_, fun z => model _ ?_⟩
    · rw [if_pos z]
    · rw [if_neg z]
  · exact c_Model_far (s_m_isCorner (fun _ _ => es_t1 (s_m_isCorner (fun q1 q2 => absurd ⟨q1, q2⟩ z) (fun _ => es_f0 ⟨rfl, h.th⟩))) (fun q => absurd ⟨a0, a1⟩ q))
  · exact c_Model_far (s_m_isCorner (fun q1 q2 => absurd ⟨q1, q2⟩ z) (fun _ => es_t0 ⟨rfl, h.th⟩))
end
