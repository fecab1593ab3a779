/-! PAIRS OF CALLS: soonest (8). The model's answer, the pair -/
section
variable {d : Nat} {Q : Int → es_M → Prop} {T M : es_M}
theorem s_m_cornerA {c p : Int} (p0 : 0 ≤ p) (p1 : p < 37) (h : ∀ y, (p = 36 → y = c) → Q y M) : es_Call (d + 2) 228 [.inr (.inr 91), .inl p, .inl c] M Q := by
  apply c_Model_corner_1
  refine ⟨fun z => c_Model_ends ⟨by decide, fun _ => ⟨by decide, ?_, h _ (fun w => absurd w z)⟩, fun _ => ⟨by decide, ?_, h _ (fun w => absurd w z)⟩⟩, fun z => h c (fun _ => rfl)⟩
  · rw [ei_div p0 (by omega) (by decide) (by decide)]; omega
  · rw [ei_div p0 (by omega) (by decide) (by decide)]; omega
theorem s_m_cornerS (hT : TI T) (hR : RepM T M) {c p : Int} (p0 : 0 ≤ p) (p1 : p < 37) (h : ∀ y, (isS T p → y = cr T c p) → Q y M) : es_Call (d + 2) 228 [.inr (.inr 91), .inl p, .inl c] M Q := by
  by_cases z : isS T p
  · exact s_m_corner hT hR z (h _ (fun _ => rfl))
  · exact s_m_cornerA p0 p1 (fun y _ => h y (fun w => absurd w z))
theorem s_m_soonest (hT : TI T) (hR : RepM T M) {a m : Int} (a0 : 0 ≤ a ∧ a < 12) (m0 : 0 ≤ m ∧ m < 1440) (h : ∀ y M', (∀ c, c ≠ 91 → c ≠ 123 → c ≠ 124 → M' c = M c) → (∀ j, j ≠ 0 → M' 91 j = M 91 j) → isMin (soS T a m) y → ((y < 1000000 → Q y M') ∧ (¬ y < 1000000 → Q (-2) M'))) : es_Call (d + 8) 249 [.inr (.inr 91), .inl a, .inl m] M Q := by
  have hn := hT.n
  have ha := hT.all
  apply m_Model_soonest
  intro G hG
  apply k_Model_soonest_0 hG
  have hR0 : RepM T (es_upd M 91 0 0) := hR.upd rfl
  refine s_m_isCorner (fun _ _ => es_t1 (s_m_in (fun _ _ => es_f1 (s_m_laysOut hT hR0 (fun M1 e1 e2 => ?_))) (fun z => absurd ⟨m0.1, by omega⟩ z))) (fun z => absurd a0 z)
  have hR1 := rep123 hR0 e1
  have off1 : ∀ M', offH M1 M' → ∀ c, c ≠ 91 → c ≠ 123 → c ≠ 124 → M' c = M c := fun M' o c c1 c2 c3 => by rw [o c c3, e1 c c2, es_upd_o c c1]
  have off2 : ∀ M', offH M1 M' → ∀ j, j ≠ 0 → M' 91 j = M 91 j := fun M' o j hj => by rw [o 91 (by decide), e1 91 (by decide), es_upd_j hj]
  have l3 : ∀ M', offH M1 M' → lay3 T M' := fun M' o p j hp hg j0 j1 => by rw [o 123 (by decide)]; exact e2 p j hp hg j0 j1
  refine es_up (P := fun k => ∀ M', offH M1 M' → (∀ j, 0 ≤ j → j < k → M' 124 j = 1000000) → G 32 [lr 91, li a, li m, li k, none] [] M') (n := 37888) (by decide) ?_ ?_ M1 (fun _ _ => rfl) (fun j j0 j1 => by omega)
  rotate_left
  · intro k k0 k1 ih M' f1 f2
    apply k_Model_soonest_32 hG
    rw [w32_1 (k := k) (by omega) (by omega)]
    refine ⟨fun z => absurd z (by omega), fun _ => ⟨⟨k0, k1⟩, ih _ (fun c hc => by rw [es_upd_o c hc]; exact f1 c hc) (fun j j0 j1 => ?_)⟩⟩
    rw [es_upd_c]
    split
    · rfl
    · exact f2 j j0 (by omega)
  intro M2 f1 f2
  apply k_Model_soonest_32 hG
  refine ⟨fun _ => ⟨by decide, ?_⟩, fun z => absurd (by decide) z⟩
  have ok2 : okM T a m (es_upd M2 124 36 m) := fun D p d0 d1 p0 p1 => by
    rw [es_upd_c]
    split
    · rename_i e
      have e1 : D = 0 := by omega
      have e2 : p = 36 := by omega
      subst e1 e2
      exact ⟨by omega, fun _ => tr_1⟩
    · rw [f2 _ (by omega) (by omega)]; exact okV_N
  have o2 : offH M1 (es_upd M2 124 36 m) := fun c hc => by rw [es_upd_o c hc]; exact f1 c hc
  have s2 : es_upd M2 124 36 m 124 36 ≤ m := by rw [es_upd_s]; exact Int.le_refl _
  generalize es_upd M2 124 36 m = M3 at ok2 o2 s2 ⊢
  clear f1 f2 M2
  refine es_up (P := fun k => ∀ M', offH M1 M' → okM T a m M' → M' 124 36 ≤ m → (∀ D p, 0 ≤ D → D < k → 0 ≤ p → p < 37 → M' 124 (D * 37 + p) < 1000000 → clM T a D p (M' 124 (D * 37 + p)) M') → G 66 [lr 91, li a, none, li k, none] [] M') (n := allF T + 1) (by omega) ?_ ?_ M3 o2 ok2 s2 (fun D p d0 d1 => by omega)
  · intro M' f1 f2 f3 f4
    apply k_Model_soonest_66 hG
    refine s_m_all hT (repH hR1 f1) ⟨fun _ => ?_, fun z => absurd (by omega) z⟩
    refine es_up (P := fun k => ∀ y, y ≤ 1000000 → (∀ p, 0 ≤ p → p < k → isS T p → cr T a p = a → y ≤ M' 124 (allF T * 37 + p)) → (y = 1000000 ∨ ∃ p, (0 ≤ p ∧ p < 37) ∧ (isS T p → cr T a p = a) ∧ y = M' 124 (allF T * 37 + p)) → G 106 [lr 91, li a, none, li y, li k] [] M') (n := 37) (by decide) ?_ ?_ 1000000 (Int.le_refl _) (fun p p0 p1 => by omega) (Or.inl rfl)
    · intro y y1 y2 y3
      apply k_Model_soonest_106 hG
      refine ⟨fun _ => h y M' (off1 M' f1) (off2 M' f1) ⟨y1, fun c hc => ?_, fun lt => ?_⟩, fun z => absurd (by decide) z⟩
      · obtain ⟨p, p1, p2⟩ := hc
        have r := tr_r hT m0 p1
        have s37 := isS37 hT r.1
        refine Int.le_trans (y2 p s37.1 s37.2 r.1 p2) ?_
        refine tr_min hT m0 (V := fun p e => M' 124 (e * 37 + p)) (by show M' 124 (0 * 37 + 36) ≤ m; exact f3) (fun p e hp d0 d1 => ?_) (fun p e q hp d0 d1 lt ht => ?_) p1
        · have z := isS37 hT hp
          exact (f2 e p d0 d1 z.1 z.2).1.1
        · have z := isS37 hT hp
          exact f4 e p d0 (by omega) z.1 z.2 lt q ht
      · rcases y3 with z | ⟨p, p0, p1, p2⟩
        · omega
        · have t := (f2 (allF T) p ha.1 (Int.le_refl _) p0.1 p0.2).2 (by omega)
          rw [← p2] at t
          exact ⟨p, t, p1 (tr_r hT m0 t).1⟩
    · intro k k0 k1 ih y y1 y2 y3
      have ix := w37888 (a := allF T) (b := k) ⟨ha.1, by omega⟩ ⟨k0, k1⟩
      apply k_Model_soonest_106 hG
      rw [w32_1 (k := k) (by omega) (by omega)]
      refine ⟨fun z => absurd z (by omega), fun _ => s_m_cornerS hT (repH hR1 f1) k0 k1 (fun u hu => ⟨fun z => ih y y1 (fun p p0 p1 hp hc => ?_) y3, fun z => s_m_all hT (repH hR1 f1) ?_⟩)⟩
      · by_cases e : p = k
        · subst e; exact absurd ((hu hp).trans hc) z
        · exact y2 p p0 (by omega) hp hc
      · rw [ix.1]
        refine ⟨ix.2, ih _ (by omega) (fun p p0 p1 hp hc => ?_) ?_⟩
        · by_cases e : p = k
          · subst e; exact Int.min_le_right _ _
          · exact Int.le_trans (Int.min_le_left _ _) (y2 p p0 (by omega) hp hc)
        · by_cases w : y ≤ M' 124 (allF T * 37 + k)
          · rw [Int.min_eq_left w]; exact y3
          · rw [Int.min_eq_right (by omega)]
            exact Or.inr ⟨k, ⟨k0, k1⟩, fun hs => (hu hs).symm.trans z, rfl⟩
  · intro k k0 k1 ih M' f1 f2 f3 f4
    apply k_Model_soonest_66 hG
    refine s_m_all hT (repH hR1 f1) ⟨fun z => absurd z (by omega), fun _ => ?_⟩
    have loop : ∀ (n : Nat) (b : Int) (X : es_M), (b = 0 ∨ b = 1) → smN (fun p => X 124 (k * 37 + p)) 37 ≤ n → offH M1 X → okM T a m X → X 124 36 ≤ m → (∀ D p, 0 ≤ D → D < k → 0 ≤ p → p < 37 → X 124 (D * 37 + p) < 1000000 → clM T a D p (X 124 (D * 37 + p)) X) → (b = 0 → ∀ p, 0 ≤ p → p < 37 → X 124 (k * 37 + p) < 1000000 → clM T a k p (X 124 (k * 37 + p)) X) → G 77 [lr 91, li a, none, li k, li b] [] X := by
      intro n
      induction n with
      | zero =>
        intro b X b1 sm x1 x2 x3 x4 x5
        have go : b = 0 → G 66 [lr 91, li a, none, li (k + 1), none] [] X := fun z => ih X x1 x2 x3 (fun D p d0 d1 p0 p1 lt => by
          by_cases e : D = k
          · subst e; exact x5 z p p0 p1 lt
          · exact x4 D p d0 (by omega) p0 p1 lt)
        apply k_Model_soonest_77 hG
        rw [w32_1 (k := k) (by omega) (by omega)]
        refine ⟨go, fun z => s_m_hastens hT (repH hR1 x1) m0 k0 (by omega) (l3 X x1) x2 (fun b' Y y1 y2 y3 y4 y5 y6 y7 => ?_)⟩
        have yl := smN_le (f := fun p => X 124 (k * 37 + p)) (g := fun p => Y 124 (k * 37 + p)) 37 (fun p _ _ => y4 _)
        have y0 := (smN_r (f := fun p => Y 124 (k * 37 + p)) 37 (fun p p0 p1 => (y3 k p k0 (by omega) p0 p1).1)).1
        rcases y1 with w | w
        · subst w
          obtain ⟨w1, w2⟩ := y6 rfl
          apply k_Model_soonest_77 hG
          rw [w32_1 (k := k) (by omega) (by omega)]
          refine ⟨fun _ => ih Y (fun c hc => by rw [y2 c hc]; exact x1 c hc) y3 (Int.le_trans (y4 _) x3) (fun D p d0 d1 p0 p1 lt => ?_), fun z => absurd rfl z⟩
          by_cases e : D = k
          · subst e
            rw [w1 p p0 p1] at lt ⊢
            exact w2 p p0 p1 lt
          · rw [y5 _ (by omega)] at lt ⊢
            exact fun q hq => Int.le_trans (y4 _) (x4 D p d0 (by omega) p0 p1 lt q hq)
        · have := yl.2 (y7 w); omega
      | succ n ihn =>
        intro b X b1 sm x1 x2 x3 x4 x5
        have go : b = 0 → G 66 [lr 91, li a, none, li (k + 1), none] [] X := fun z => ih X x1 x2 x3 (fun D p d0 d1 p0 p1 lt => by
          by_cases e : D = k
          · subst e; exact x5 z p p0 p1 lt
          · exact x4 D p d0 (by omega) p0 p1 lt)
        apply k_Model_soonest_77 hG
        rw [w32_1 (k := k) (by omega) (by omega)]
        refine ⟨go, fun z => s_m_hastens hT (repH hR1 x1) m0 k0 (by omega) (l3 X x1) x2 (fun b' Y y1 y2 y3 y4 y5 y6 y7 => ?_)⟩
        have yl := smN_le (f := fun p => X 124 (k * 37 + p)) (g := fun p => Y 124 (k * 37 + p)) 37 (fun p _ _ => y4 _)
        have cl : ∀ D p, 0 ≤ D → D < k → 0 ≤ p → p < 37 → Y 124 (D * 37 + p) < 1000000 → clM T a D p (Y 124 (D * 37 + p)) Y := fun D p d0 d1 p0 p1 lt => by
          rw [y5 _ (by omega)] at lt ⊢
          exact fun q hq => Int.le_trans (y4 _) (x4 D p d0 d1 p0 p1 lt q hq)
        have oY : offH M1 Y := fun c hc => by rw [y2 c hc]; exact x1 c hc
        rcases y1 with w | w
        · subst w
          obtain ⟨w1, w2⟩ := y6 rfl
          apply k_Model_soonest_77 hG
          rw [w32_1 (k := k) (by omega) (by omega)]
          refine ⟨fun _ => ih Y oY y3 (Int.le_trans (y4 _) x3) (fun D p d0 d1 p0 p1 lt => ?_), fun z => absurd rfl z⟩
          by_cases e : D = k
          · subst e
            rw [w1 p p0 p1] at lt ⊢
            exact w2 p p0 p1 lt
          · exact cl D p d0 (by omega) p0 p1 lt
        · have lt := yl.2 (y7 w)
          exact ihn b' Y (Or.inr w) (by omega) oY y3 (Int.le_trans (y4 _) x3) cl (fun z => by omega)
    have s0 := smN_r (f := fun p => M' 124 (k * 37 + p)) 37 (fun p p0 p1 => (f2 k p k0 (by omega) p0 p1).1)
    exact loop (smN (fun p => M' 124 (k * 37 + p)) 37).toNat 1 M' (Or.inr rfl) (by omega) f1 f2 f3 f4 (fun z => absurd z (by decide))
end
section
variable {d : Nat} {M : es_M}
theorem P_soonest (h : Inv M) {a m : Int} : Pair (d + 20) 35 249 [.inl a, .inl m] M := by
  have hT := h.1
  apply c_EveryStreet_soonest
  refine s_isCorner (fun a0 a1 => es_t1 (s_isMinute (fun m0 m1 => es_f1 ?_) (fun z => es_f0 ?_))) (fun z => es_t0 ?_)
  · refine s_soonestRound hT (RepC.rf M) h.2.2 (a := a) (m := m) ⟨m0, m1⟩ (fun y M5 o1 o2 o3 hy => ?_)
    have R5 : RepM M M5 := fun c j q => by rw [o1 c (by rintro rfl; cases q) (by rintro rfl; cases q) (by rintro rfl; cases q) (by rintro rfl; cases q) (by rintro rfl; cases q) (by rintro rfl; cases q)]
    have md : es_Call (d + 20) 249 [.inr (.inr 91), .inl a, .inl m] M5 (fun y' M2 => y' = (if y < 1000000 then y else -2) ∧ Inv M2) := by
      refine s_m_soonest hT R5 ⟨a0, a1⟩ ⟨m0, m1⟩ (fun y' M6 p1 p2 hy' => ?_)
      have e := hy'.uniq hy
      subst e
      have c6 : ∀ c, c ≠ 91 → c ≠ 123 → c ≠ 124 → c ≠ 60 → c ≠ 61 → c ≠ 62 → c ≠ 63 → c ≠ 66 → c ≠ 89 → M6 c = M c := fun c x1 x2 x3 x4 x5 x6 x7 x8 x9 => by rw [p1 c x1 x2 x3, o1 c x4 x5 x6 x7 x8 x9]
      have j6 : ∀ j, j ≠ 0 → M6 91 j = M 91 j := fun j hj => by rw [p2 j hj, o1 91 (by decide) (by decide) (by decide) (by decide) (by decide) (by decide)]
      have inv : Inv M6 := by
        refine h.ask (fun c j q => ?_) ?_ (o3.congr rfl rfl (by rw [p1 60 (by decide) (by decide) (by decide)]) (p1 61 (by decide) (by decide) (by decide)) (p1 62 (by decide) (by decide) (by decide)) (p1 63 (by decide) (by decide) (by decide)))
        · by_cases e : c = 91
          · subst e; exact j6 j (by rintro rfl; cases q)
          · rw [c6 c e (by rintro rfl; cases q) (by rintro rfl; cases q) (by rintro rfl; cases q) (by rintro rfl; cases q) (by rintro rfl; cases q) (by rintro rfl; cases q) (by rintro rfl; cases q) (by rintro rfl; cases q)]
        · have hr := h.2.1
          unfold RowEq at hr ⊢
          rw [c6 58 (by decide) (by decide) (by decide) (by decide) (by decide) (by decide) (by decide) (by decide) (by decide), c6 59 (by decide) (by decide) (by decide) (by decide) (by decide) (by decide) (by decide) (by decide) (by decide), c6 92 (by decide) (by decide) (by decide) (by decide) (by decide) (by decide) (by decide) (by decide) (by decide), j6 1 (by decide)]
          exact hr
      exact ⟨fun z => ⟨(if_pos z).symm, inv⟩, fun z => ⟨(if_neg z).symm, inv⟩⟩
    refine ⟨fun z => ?_, fun z => ?_⟩
    · rw [if_pos z] at md; exact md
    · rw [if_neg z] at md; exact md
  · refine m_Model_soonest (fun G hG => k_Model_soonest_0 hG (s_m_isCorner (fun _ _ => es_t1 (s_m_in (fun q1 q2 => absurd ⟨q1, by omega⟩ z) (fun _ => es_f0 ⟨rfl, h.th⟩))) (fun q => absurd ⟨a0, a1⟩ q)))
  · refine m_Model_soonest (fun G hG => k_Model_soonest_0 hG (s_m_isCorner (fun q1 q2 => absurd ⟨q1, q2⟩ z) (fun _ => es_t0 ⟨rfl, h.th⟩)))
end
