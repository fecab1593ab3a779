/-! LEAST WALKS (4): the class makes ready -/
theorem exN_s {T : es_M} {g p k : Int} (k0 : 0 ≤ k) : exN T g p (k + 1).toNat = if gl T k = g then min (exN T g p k.toNat) (wyF T p k) else exN T g p k.toNat := by
  rw [toN1 k0]
  show (if gl T (k.toNat : Nat) = g then min (exN T g p k.toNat) (wyF T p (k.toNat : Nat)) else exN T g p k.toNat) = _
  rw [toNI k0]
section
variable {d : Nat} {Q : Int → es_M → Prop} {T M : es_M}
theorem s_leastExit (hT : TI T) (hR : RepC T M) {g p : Int} (e8 : M 67 8 = g) (hL : ∀ p q, isP T p → isP T q → M 61 (p * 36 + q) = wyF T p q) (hp : isP T p) (h : Q (exF T g p) M) : es_Call (d + 2) 106 [.inr (.inr 67), .inl p] M Q := by
  have hn := hT.n
  apply m_Walks_leastExit
  intro G hG
  apply k_Walks_leastExit_0 hG
  unfold exF at h
  refine s_goal hR hp.1 (by have := hp.2; omega) ?_
  rw [e8]
  refine ⟨fun z => ?_, fun z => by rw [if_pos z] at h; exact h⟩
  rw [if_neg z] at h
  refine es_up (P := fun k => G 22 [lr 67, li p, li (exN T g p k.toNat), li k] [] M) (n := 2 * T 1 0) (by omega) ?_ ?_
  · apply k_Walks_leastExit_22 hG
    rw [hR 1 0 rfl, w32_s (by omega) (by omega)]
    exact ⟨fun _ => h, fun z => absurd (Int.le_refl _) z⟩
  · intro k k0 k1 ih
    have hk : isP T k := ⟨k0, k1⟩
    rw [exN_s k0] at ih
    apply k_Walks_leastExit_22 hG
    rw [hR 1 0 rfl, w32_s (k := 2 * T 1 0) (by omega) (by omega), w32_1 (k := k) (by omega) (by omega)]
    refine ⟨fun z => absurd z (by omega), fun _ => s_goal hR k0 (by omega) ?_⟩
    rw [e8]
    exact ⟨fun w => by rw [if_neg w] at ih; exact ih, fun w => s_least hT hL hp hk (by rw [if_pos w] at ih; exact ih)⟩
abbrev offP (M M' : es_M) : Prop := ∀ c, c ≠ 60 → c ≠ 61 → c ≠ 62 → c ≠ 63 → c ≠ 66 → c ≠ 67 → c ≠ 68 → c ≠ 69 → c ≠ 70 → c ≠ 71 → M' c = M c
theorem offP.tr {M1 M2 : es_M} (h : offP M M1) (g : ∀ c, c ≠ 66 → c ≠ 67 → c ≠ 68 → c ≠ 69 → c ≠ 70 → c ≠ 71 → M2 c = M1 c) : offP M M2 := fun c c1 c2 c3 c4 c5 c6 c7 c8 c9 d1 => by rw [g c c5 c6 c7 c8 c9 d1]; exact h c c1 c2 c3 c4 c5 c6 c7 c8 c9 d1
theorem repP {M' : es_M} (hR : RepC T M) (h : offP M M') : RepC T M' := by
  intro c j q
  rw [h c ?_ ?_ ?_ ?_ ?_ ?_ ?_ ?_ ?_ ?_]
  · exact hR _ _ q
  all_goals (rintro rfl; cases q)
theorem s_prepare (hT : TI T) (hR : RepC T M) (hC : CacheOK T M) {g : Int} (h : ∀ M', offP M M' → M' 60 5 = 0 → nextsOK T M' → prepOK T g M' → Q 0 M') : es_Call (d + 6) 105 [.inr (.inr 67), .inl g] M Q := by
  have hn := hT.n
  have hv := hT.v
  apply m_Walks_prepare
  intro G hG
  apply k_Walks_prepare_0 hG
  refine s_refresh hT hR hC (fun M1 f1 f2 f3 f4 f5 => ?_)
  have o1 : offP M M1 := fun c c1 c2 c3 c4 _ _ _ _ _ _ => f1 c c1 c2 c3 c4
  have hR1 := repP hR o1
  rw [es_upd_n (c := 67) (c' := 1) (by decide), hR1 1 1 rfl, w32_s (by omega) (by omega)]
  have L2 : ∀ M', (∀ c, c ≠ 67 → c ≠ 68 → c ≠ 69 → M' c = M1 c) → M' 67 8 = g → M' 67 9 = 2 * T 1 1 → (∀ k, 0 ≤ k → k < 2 * T 1 1 → (canDo T k ∧ goes T (poF T k) → M' 68 k = poF T k) ∧ (¬ (canDo T k ∧ goes T (poF T k)) → M' 68 k = -1)) → G 57 [lr 67, none, li 0] [] M' := by
    intro M' g1 g2 g3 g4
    refine es_up (P := fun k => ∀ M', (∀ c, c ≠ 67 → c ≠ 68 → c ≠ 69 → M' c = M1 c) → M' 67 8 = g → M' 67 9 = 2 * T 1 1 → (∀ k, 0 ≤ k → k < 2 * T 1 1 → (canDo T k ∧ goes T (poF T k) → M' 68 k = poF T k) ∧ (¬ (canDo T k ∧ goes T (poF T k)) → M' 68 k = -1)) → (∀ p, isP T p → p < k → M' 69 p = exF T g p) → G 57 [lr 67, none, li k] [] M') (n := 2 * T 1 0) (by omega) ?_ ?_ M' g1 g2 g3 g4 (fun p hp h1 => absurd h1 (by have := hp.1; omega))
    · intro M' g1 g2 g3 g4 g5
      have oM : offP M M' := o1.tr (fun c _ c2 c3 c4 _ _ => g1 c c2 c3 c4)
      apply k_Walks_prepare_57 hG
      rw [(repP hR oM) 1 0 rfl, w32_s (by omega) (by omega)]
      refine ⟨fun _ => h M' oM (by rw [g1 60 (by decide) (by decide) (by decide)]; exact f3) (fun p hp => ?_) ⟨g2, g3, g4, fun p hp => g5 p hp hp.2, fun p q hp hq => ?_⟩, fun z => absurd (Int.le_refl _) z⟩
      · rw [g1 62 (by decide) (by decide) (by decide), g1 63 (by decide) (by decide) (by decide)]; exact f5 p hp
      · rw [g1 61 (by decide) (by decide) (by decide)]; exact f4 p q hp hq
    · intro k k0 k1 ih M' g1 g2 g3 g4 g5
      have oM : offP M M' := o1.tr (fun c _ c2 c3 c4 _ _ => g1 c c2 c3 c4)
      apply k_Walks_prepare_57 hG
      rw [(repP hR oM) 1 0 rfl, w32_s (k := 2 * T 1 0) (by omega) (by omega), w32_1 (k := k) (by omega) (by omega)]
      refine ⟨fun z => absurd z (by omega), fun _ => s_leastExit hT (repP hR oM) g2 (fun p q hp hq => by rw [g1 61 (by decide) (by decide) (by decide)]; exact f4 p q hp hq) ⟨k0, k1⟩ ⟨by omega, ih _ (fun c c1 c2 c3 => by rw [es_upd_o c c3]; exact g1 c c1 c2 c3) (by rw [es_upd_n (by decide)]; exact g2) (by rw [es_upd_n (by decide)]; exact g3) (fun j j0 j1 => by rw [es_upd_n (by decide)]; exact g4 j j0 j1) (fun p hp h1 => ?_)⟩⟩
      rw [es_upd_c]
      by_cases e : p = k
      · rw [if_pos e, e]
      · rw [if_neg e]; exact g5 p hp (by omega)
  refine es_up (P := fun k => ∀ M', (∀ c, c ≠ 67 → c ≠ 68 → c ≠ 69 → M' c = M1 c) → M' 67 8 = g → M' 67 9 = 2 * T 1 1 → (∀ j, 0 ≤ j → j < k → (canDo T j ∧ goes T (poF T j) → M' 68 j = poF T j) ∧ (¬ (canDo T j ∧ goes T (poF T j)) → M' 68 j = -1)) → G 27 [lr 67, none, li k] [] M') (n := 2 * T 1 1) (by omega) ?_ ?_ _ (fun c c1 _ _ => by rw [es_upd_o c c1, es_upd_o c c1]) (by rw [es_upd_j (by decide), es_upd_s]) es_upd_s (fun j j0 j1 => absurd j1 (by omega))
  · intro M' g1 g2 g3 g4
    apply k_Walks_prepare_27 hG
    rw [g3]
    exact ⟨fun _ => L2 M' g1 g2 g3 g4, fun z => absurd (Int.le_refl _) z⟩
  · intro k k0 k1 ih M' g1 g2 g3 g4
    have oM : offP M M' := o1.tr (fun c _ c2 c3 c4 _ _ => g1 c c2 c3 c4)
    apply k_Walks_prepare_27 hG
    rw [g3, w32_1 (k := k) (by omega) (by omega)]
    have fin : ∀ y, ((canDo T k ∧ goes T (poF T k) → y = poF T k) ∧ (¬ (canDo T k ∧ goes T (poF T k)) → y = -1)) → ((0 ≤ k ∧ k < 20) ∧ G 27 [lr 67, none, li (k + 1)] [] (es_upd M' 68 k y)) := by
      intro y hy
      refine ⟨by omega, ih _ (fun c c1 c2 c3 => by rw [es_upd_o c c2]; exact g1 c c1 c2 c3) (by rw [es_upd_n (by decide)]; exact g2) (by rw [es_upd_n (by decide)]; exact g3) (fun j j0 j1 => ?_)⟩
      rw [es_upd_c]
      by_cases e : j = k
      · rw [if_pos e, e]; exact hy
      · rw [if_neg e]; exact g4 j j0 (by omega)
    exact ⟨fun z => absurd z (by omega), fun _ => s_doer hT (repP hR oM) k0 k1 (fun a b => fin _ ⟨fun _ => rfl, fun z => absurd ⟨a, b⟩ z⟩) (fun a => fin _ ⟨fun z => absurd z a, fun _ => rfl⟩)⟩
theorem s_aimAt (hT : TI T) (hR : RepC T M) (hC : CacheOK T M) {g W : Int} (W0 : 0 ≤ W) (W1 : W < 1024) (h : ∀ M', offP M M' → M' 60 5 = 0 → nextsOK T M' → prepOK T g M' → M' 67 7 = W → tabOK T g W 0 M' → Q 0 M') : es_Call (d + 7) 104 [.inr (.inr 67), .inl W, .inl g] M Q := by
  have hn := hT.n
  have hv := hT.v
  apply m_Walks_aimAt
  intro G hG
  apply k_Walks_aimAt_0 hG
  refine s_prepare hT hR hC (fun M1 f1 f2 f3 f4 => ?_)
  have keep : ∀ M' : es_M, (∀ c, c ≠ 66 → M' c = es_upd M1 67 7 W c) → offP M M' ∧ M' 60 5 = 0 ∧ nextsOK T M' ∧ prepOK T g M' ∧ M' 67 7 = W := by
    intro M' e
    refine ⟨f1.tr (fun c c1 c2 _ _ _ _ => by rw [e c c1, es_upd_o c c2]), by rw [e 60 (by decide), es_upd_n (by decide)]; exact f2, fun p hp => ?_, ?_, by rw [e 67 (by decide), es_upd_s]⟩
    · rw [e 62 (by decide), e 63 (by decide), es_upd_o 62 (by decide), es_upd_o 63 (by decide)]; exact f3 p hp
    · obtain ⟨a, b, c1, c2, c3⟩ := f4
      refine ⟨by rw [e 67 (by decide), es_upd_j (by decide)]; exact a, by rw [e 67 (by decide), es_upd_j (by decide)]; exact b, fun k k0 k1 => by rw [e 68 (by decide), es_upd_n (by decide)]; exact c1 k k0 k1, fun p hp => by rw [e 69 (by decide), es_upd_n (by decide)]; exact c2 p hp, fun p q hp hq => by rw [e 61 (by decide), es_upd_n (by decide)]; exact c3 p q hp hq⟩
  have key : ∀ (n : Nat) (D : Int), D.toNat ≤ n → 0 ≤ D → sub D W → D ≤ W → ∀ M' : es_M, (∀ c, c ≠ 66 → M' c = es_upd M1 67 7 W c) → tabOK T g W D M' → G 12 [lr 67, li W, none, li D, none, none] [] M' := by
    intro n
    induction n with
    | zero =>
      intro D h1 h2 _ _ M' e1 e2
      have : D = 0 := by omega
      subst this
      obtain ⟨k1, k2, k3, k4, k5⟩ := keep M' e1
      apply k_Walks_aimAt_12 hG
      exact ⟨fun _ => h M' k1 k2 k3 k4 k5 e2, fun z => absurd (Int.le_refl _) z⟩
    | succ n ih =>
      intro D h1 h2 hs h3 M' e1 e2
      apply k_Walks_aimAt_12 hG
      refine ⟨fun z => ?_, fun z => ?_⟩
      · have : D = 0 := by omega
        subst this
        obtain ⟨k1, k2, k3, k4, k5⟩ := keep M' e1
        exact h M' k1 k2 k3 k4 k5 e2
      · refine es_up (P := fun k => ∀ M' : es_M, (∀ c, c ≠ 66 → M' c = es_upd M1 67 7 W c) → tabOK T g W D M' → (∀ j, 0 ≤ j → j < k → j < 2 * T 1 1 → ebit D (j / 2) → canDo T j → goes T (poF T j) → M' 66 (D * 20 + j) = rmF T 0 g W (poF T j) D) → G 19 [lr 67, li W, none, li D, li k, none] [] M') (n := 2 * T 1 1) (by omega) ?_ ?_ M' e1 e2 (fun j j0 j1 => absurd j1 (by omega))
        · intro M' e1 e2 e3
          obtain ⟨k1, k2, k3, k4, k5⟩ := keep M' e1
          apply k_Walks_aimAt_19 hG
          rw [k4.2.1, w32_m (by omega) (by omega)]
          refine ⟨fun _ => ?_, fun z => absurd (Int.le_refl _) z⟩
          obtain ⟨x, hx⟩ := Int.eq_ofNat_of_zero_le h2
          obtain ⟨w, hw⟩ := Int.eq_ofNat_of_zero_le W0
          have ea : es_and (D - 1) W = (((x - 1) &&& w : Nat) : Int) := by
            rw [show D - 1 = ((x - 1 : Nat) : Int) by omega, hw, eb_and' (by omega)]
          have le1 : (x - 1) &&& w ≤ x - 1 := Nat.and_le_left
          have le2 : (x - 1) &&& w ≤ w := Nat.and_le_right
          rw [ea]
          refine ih _ (by omega) (by omega) (fun i hi => ?_) (by omega) M' e1 (fun d' k s1 s2 s3 k0 k1' b1 b2 b3 => ?_)
          · rw [Int.toNat_natCast, Nat.testBit_and, Bool.and_eq_true] at hi
            rw [hw, Int.toNat_natCast]; exact hi.2
          · by_cases q : D ≤ d'
            · by_cases q2 : D = d'
              · rw [← q2] at b1 ⊢; exact e3 k k0 k1' k1' b1 b2 b3
              · exact e2 d' k s1 s2 (by omega) k0 k1' b1 b2 b3
            · exfalso
              have sn := sub_next x d'.toNat w (fun i hi => by have := s1 i hi; rw [hw, Int.toNat_natCast] at this; exact this) (fun i hi => by have := hs i (by rw [hx, Int.toNat_natCast]; exact hi); rw [hw, Int.toNat_natCast] at this; exact this) (by omega)
              omega
        · intro k k0 k1 ih2 M' e1 e2 e3
          obtain ⟨q1, q2, q3, q4, q5⟩ := keep M' e1
          have hR' := repP hR q1
          have kp := poF_r hT k0 k1
          obtain ⟨x1, x2, x3⟩ := w20480 (a := D) (b := k) (by omega) (by omega)
          apply k_Walks_aimAt_19 hG
          rw [q4.2.1, ei_shr1 (by omega) (by omega), w32_1 (k := k) (by omega) (by omega), x1]
          have fin : ∀ v, (ebit D (k / 2) → canDo T k → goes T (poF T k) → v = rmF T 0 g W (poF T k) D) → G 19 [lr 67, li W, none, li D, li (k + 1), none] [] (es_upd M' 66 (D * 20 + k) v) := by
            intro v hv'
            refine ih2 _ (fun c hc => by rw [es_upd_o c hc]; exact e1 c hc) (fun d' j s1 s2 s3 j0 j1 b1 b2 b3 => ?_) (fun j j0 j1 j2 b1 b2 b3 => ?_)
            · rw [es_upd_j (by omega)]; exact e2 d' j s1 s2 s3 j0 j1 b1 b2 b3
            · rw [es_upd_c]
              by_cases e : j = k
              · subst e; rw [if_pos rfl]; exact hv' b1 b2 b3
              · rw [if_neg (by omega)]; exact e3 j j0 (by omega) j2 b1 b2 b3
          refine ⟨fun w => absurd w (by omega), fun _ => s_has h2 (by omega) (by omega) (by omega) (fun b => es_t1 ⟨by omega, fun nz => ?_, fun nz => ⟨⟨x2, x3⟩, fin _ (fun _ c1 c2 => by have := (q4.2.2.1 k k0 k1).1 ⟨c1, c2⟩; omega)⟩⟩) (fun b => es_t0 (ih2 M' e1 e2 (fun j j0 j1 j2 b1 b2 b3 => ?_)))⟩
          · have cd : canDo T k ∧ goes T (poF T k) := by
              by_cases w : canDo T k ∧ goes T (poF T k)
              · exact w
              · exact absurd ((q4.2.2.1 k k0 k1).2 w) nz
            rw [(q4.2.2.1 k k0 k1).1 cd]
            exact s_minutesLeft hT hR' q4 q5 W0 W1 ⟨kp.1, kp.2.1⟩ h2 hs (by omega) e2 ⟨⟨x2, x3⟩, fin _ (fun _ _ _ => rfl)⟩
          · by_cases e : j = k
            · subst e; exact absurd b1 b
            · exact e3 j j0 (by omega) j2 b1 b2 b3
  refine key W.toNat W (Nat.le_refl _) W0 (sub.rf W) (Int.le_refl _) _ (fun _ _ => rfl) (fun d' k s1 s2 s3 => ?_)
  exfalso
  have : d'.toNat ≤ W.toNat := by
    have e : d'.toNat = d'.toNat &&& W.toNat := by
      apply Nat.eq_of_testBit_eq
      intro i
      rw [Nat.testBit_and]
      cases q : d'.toNat.testBit i
      · rfl
      · rw [s1 i q]; rfl
    rw [e]; exact Nat.and_le_right
  omega
end
