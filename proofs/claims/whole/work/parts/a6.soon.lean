/-! PAIRS OF CALLS: soonest (2). The class's hours, the model's minutes -/
section
variable {d : Nat} {Q : Int → es_M → Prop} {T M : es_M}
theorem s_soonestEnd (hT : TI T) (hR : RepC T M) {q r : Int} (hq : isP T q) (hg : ¬ ln T q = -1) (r0 : 0 ≤ r) (r1 : r ≤ 2000) (h : Q (seF T q r) M) : es_Call (d + 3) 163 [.inr (.inr 88), .inl q, .inl r] M Q := by
  have hn := hT.n
  have q0 := hq.1
  have q1 := hq.2
  have op := hT.op (s := q / 2) (by omega) (by omega)
  have sm := se_min hT hq hg r0
  have sh : es_shr q 1 = q / 2 := ei_shr1 q0 (by omega)
  apply m_Clock_soonestEnd
  intro G hG
  apply k_Clock_soonestEnd_0 hG
  rw [sh, hR 21 _ rfl, ei_div (by omega) (by omega) (by decide) (by decide)]
  refine ⟨by omega, by decide, ?_⟩
  obtain ⟨b, hb⟩ : ∃ b, b = max r (T 21 (q / 2)) := ⟨_, rfl⟩
  rw [← hb]
  have b0 : 0 ≤ b ∧ r ≤ b ∧ T 21 (q / 2) ≤ b ∧ (b = r ∨ b = T 21 (q / 2)) := by omega
  have main : ∀ (n : Nat) (H L : Int), 24 - H ≤ n → b / 60 ≤ H → L ≤ 1000000 → 0 ≤ L → (L < 1000000 → seS T q r L) → (∀ m e, (r ≤ m ∧ m < 1440) → (T 21 (q / 2) ≤ m ∧ m ≤ T 22 (q / 2)) → m + lstF T q m = e → e ≤ 1440 → m < H * 60 → L ≤ e) → G 26 [lr 88, li q, none, li b, li L, li H, none, none] [] M := by
    intro n
    induction n with
    | zero =>
      intro H L hH hb1 l1 l0 l2 l3
      apply k_Clock_soonestEnd_26 hG
      refine ⟨fun _ => ?_, fun z => absurd (by omega) z⟩
      have e : seF T q r = L := sm.uniq ⟨l1, fun c ⟨m, m1, m2, m3, m4⟩ => l3 m c m1 m2 m3 m4 (by omega), l2⟩
      rw [e] at h; exact h
    | succ n ih =>
      intro H L hH hb1 l1 l0 l2 l3
      apply k_Clock_soonestEnd_26 hG
      by_cases h24 : 24 ≤ H
      · refine ⟨fun _ => ?_, fun z => absurd h24 z⟩
        have e : seF T q r = L := sm.uniq ⟨l1, fun c ⟨m, m1, m2, m3, m4⟩ => l3 m c m1 m2 m3 m4 (by omega), l2⟩
        rw [e] at h; exact h
      have H0 : 0 ≤ H := by omega
      have w60 : w32 (H * 60) = H * 60 := w32_s (by omega) (by omega)
      rw [w60, w32_1 (k := H) (by omega) (by omega), sh]
      refine ⟨fun z => absurd z h24, fun _ => ⟨fun z => ?_, fun z => ?_⟩⟩
      · have e : seF T q r = L := sm.uniq ⟨l1, fun c ⟨m, m1, m2, m3, m4⟩ => ?_, l2⟩
        · rw [e] at h; exact h
        · by_cases w : m < H * 60
          · exact l3 m c m1 m2 m3 m4 w
          · have := lstF_r hT hq hg (b := m) (by omega) (by omega)
            omega
      · obtain ⟨s, hs⟩ : ∃ s, s = max b (H * 60) := ⟨_, rfl⟩
        rw [← hs]
        have s0 : 0 ≤ s ∧ s ≤ 1439 ∧ s / 60 = H ∧ b ≤ s ∧ H * 60 ≤ s ∧ (s = b ∨ s = H * 60) := by omega
        have lr := lstF_r hT hq hg (b := s) (by omega) (by omega)
        have same : ∀ m, b ≤ m → H * 60 ≤ m → m < (H + 1) * 60 → s ≤ m ∧ lstF T q m = lstF T q s := fun m x1 x2 x3 => by
          have e : m / 60 = s / 60 := by omega
          exact ⟨by omega, by unfold lstF; rw [e]⟩
        refine s_endOf hT hR hq hg s0.1 s0.2.1 ?_
        rw [hR 22 _ rfl]
        refine ⟨by omega, fun x => ih _ _ (by omega) (by omega) l1 l0 l2 (fun m e m1 m2 m3 m4 m5 => ?_), fun x => ⟨fun y => ih _ _ (by omega) (by omega) l1 l0 l2 (fun m e m1 m2 m3 m4 m5 => ?_), fun y => ih _ _ (by omega) (by omega) (by omega) (by omega) (fun w => ?_) (fun m e m1 m2 m3 m4 m5 => ?_)⟩⟩
        · by_cases w : m < H * 60
          · exact l3 m e m1 m2 m3 m4 w
          · have := same m (by omega) (by omega) m5; omega
        · by_cases w : m < H * 60
          · exact l3 m e m1 m2 m3 m4 w
          · have := same m (by omega) (by omega) m5; omega
        · by_cases w2 : L ≤ s + lstF T q s
          · rw [Int.min_eq_left w2] at w ⊢; exact l2 w
          · rw [Int.min_eq_right (by omega)]
            exact ⟨s, by omega, by omega, rfl, by omega⟩
        · by_cases w : m < H * 60
          · have := l3 m e m1 m2 m3 m4 w; omega
          · have := same m (by omega) (by omega) m5; omega
  exact main 24 (b / 60) 1000000 (by omega) (Int.le_refl _) (Int.le_refl _) (by decide) (fun z => absurd z (by decide)) (fun m e m1 m2 m3 m4 m5 => by omega)
theorem rep123 {M' : es_M} (hR : RepM T M) (h : ∀ c, c ≠ 123 → M' c = M c) : RepM T M' := by
  intro c j q
  rw [h c (by rintro rfl; cases q)]; exact hR _ _ q
theorem s_m_laysOut (hT : TI T) (hR : RepM T M) (h : ∀ M', (∀ c, c ≠ 123 → M' c = M c) → (∀ p m, isP T p → goes T p → 0 ≤ m → m ≤ 1440 → M' 123 (p * 1441 + m) = seF T p m) → Q 0 M') : es_Call (d + 3) 250 [.inr (.inr 91)] M Q := by
  have hn := hT.n
  apply m_Model_laysOut
  intro G hG
  apply k_Model_laysOut_0 hG
  refine es_up (P := fun n => ∀ M', (∀ c, c ≠ 123 → M' c = M c) → (∀ p m, isP T p → p < n → goes T p → 0 ≤ m → m ≤ 1440 → M' 123 (p * 1441 + m) = seF T p m) → G 2 [lr 91, li n, none, none, none] [] M') (n := 2 * T 1 0) (by omega) ?_ ?_ M (fun _ _ => rfl) (fun p m hp z => absurd z (by have := hp.1; omega))
  · intro M' f1 f2
    apply k_Model_laysOut_2 hG
    rw [rep123 hR f1 91 3 rfl, hn.2.2, w32_s (by omega) (by omega)]
    exact ⟨fun _ => h M' f1 (fun p m hp hg m0 m1 => f2 p m hp hp.2 hg m0 m1), fun z => absurd (Int.le_refl _) z⟩
  · intro n n0 n1 ih M' f1 f2
    have hp : isP T n := ⟨n0, n1⟩
    have n36 : n < 36 := by omega
    have op := hT.op (s := n / 2) (by omega) (by omega)
    apply k_Model_laysOut_2 hG
    rw [rep123 hR f1 91 3 rfl, hn.2.2, w32_s (by omega) (by omega)]
    refine ⟨fun z => absurd z (by omega), fun _ => ?_⟩
    have main : ∀ (k : Nat) (m : Int), m + 1 = k → m ≤ 1440 → ∀ (X : es_M) (b : Int), (∀ c, c ≠ 123 → X c = M c) → (∀ p j, isP T p → p < n → goes T p → 0 ≤ j → j ≤ 1440 → X 123 (p * 1441 + j) = seF T p j) → (goes T n → b = seF T n (m + 1)) → (goes T n → ∀ j, m < j → j ≤ 1440 → X 123 (n * 1441 + j) = seF T n j) → G 20 [lr 91, li n, li b, li m, none] [] X := by
      intro k
      induction k with
      | zero =>
        intro m hm _ X b x1 x2 x3 x4
        apply k_Model_laysOut_20 hG
        rw [w32_1 (k := n) (by omega) (by omega)]
        refine ⟨fun _ => ih X x1 (fun p j hp' pn gp j0 j1 => ?_), fun z => absurd (by omega) z⟩
        by_cases e : p = n
        · subst e; exact x4 gp j (by omega) j1
        · exact x2 p j hp' (by omega) gp j0 j1
      | succ k ihk =>
        intro m hm m1 X b x1 x2 x3 x4
        have m0 : 0 ≤ m := by omega
        have RX := rep123 hR x1
        have ix : w32 (w32 (n * 1441) + m) = n * 1441 + m := by rw [w32_s (k := n * 1441) (by omega) (by omega), w32_s (by omega) (by omega)]
        have wm : w32 (m + -1) = m - 1 := by rw [show m + -1 = m - 1 by omega]; exact w32_m (by omega) (by omega)
        have nx : ∀ b', (goes T n → b' = seF T n m) → G 20 [lr 91, li n, li b', li (m - 1), none] [] (es_upd X 123 (n * 1441 + m) b') := fun b' hb => ihk (m - 1) (by omega) (by omega) _ b' (fun c hc => by rw [es_upd_o c hc]; exact x1 c hc) (fun p j hp' pn gp j0 j1 => by rw [es_upd_j (by have := hp'.1; omega)]; exact x2 p j hp' pn gp j0 j1) (fun g => by rw [show m - 1 + 1 = m by omega]; exact hb g) (fun g j j0 j1 => by
          by_cases e : j = m
          · rw [e, es_upd_s]; exact hb g
          · rw [es_upd_j (by omega)]; exact x4 g j (by omega) j1)
        apply k_Model_laysOut_20 hG
        rw [ix, wm]
        refine ⟨fun z => absurd z (by omega), fun _ => s_m_isPass hT RX n0 n1 (fun g => ?_) (fun g => es_t0 (es_t0 ⟨by omega, nx b (fun w => absurd w g)⟩))⟩
        have hg := goes_ln g
        have st := se_step hT hp hg m0
        have no : ¬ (m < 1440 ∧ (T 21 (n / 2) ≤ m ∧ m ≤ T 22 (n / 2)) ∧ m + lstF T n m ≤ 1440) → G 20 [lr 91, li n, li b, li (m - 1), none] [] (es_upd X 123 (n * 1441 + m) b) := fun z => nx b (fun _ => by rw [st, if_neg z]; exact x3 g)
        rw [ei_div n0 (by omega) (by decide) (by decide), RX 99 _ rfl, RX 100 _ rfl, op.2.1, op.2.2.2]
        refine es_t1 ⟨fun z => es_t0 ⟨by omega, no (by omega)⟩, fun z => ⟨by decide, by omega, by decide, by omega, s_m_in (fun i1 i2 => es_t1 ?_) (fun i => es_t0 (es_t0 ⟨by omega, no (fun w => i w.2.1)⟩))⟩⟩
        have lr := lstF_r hT hp hg m0 (by omega)
        have wl : w32 (m + lstF T n m) = m + lstF T n m := w32_s (by omega) (by omega)
        refine s_m_lasts hT RX hp hg m0 (by omega) ?_
        rw [wl]
        refine ⟨fun y => es_t0 ⟨by omega, no (by omega)⟩, fun y => es_t1 (s_m_lasts hT RX hp hg m0 (by omega) ?_)⟩
        rw [wl]
        exact ⟨by omega, nx _ (fun _ => by rw [st, if_pos ⟨by omega, ⟨i1, i2⟩, by omega⟩, x3 g])⟩
    refine main 1441 1440 (by decide) (Int.le_refl _) M' 1000000 f1 f2 (fun g => (se_end hT hp (goes_ln g) (by decide)).symm) (fun g j j0 j1 => by omega)
end
