/-! THE TOWN'S TEXT (5): the model's turns and streets -/
theorem es_l1 {A B : Prop} (h : A) : ((1 : Int) ≤ 0 → B) ∧ (¬ (1 : Int) ≤ 0 → A) := ⟨fun z => absurd z (by decide), fun _ => h⟩
theorem es_l2 {A B : Prop} (h : A) : ((2 : Int) ≤ 0 → B) ∧ (¬ (2 : Int) ≤ 0 → A) := ⟨fun z => absurd z (by decide), fun _ => h⟩
theorem es_l0 {A B : Prop} (h : A) : ((0 : Int) ≤ 0 → A) ∧ (¬ (0 : Int) ≤ 0 → B) := ⟨fun _ => h, fun z => absurd (by decide) z⟩
/-- the model's street s joins two corners -/
def mat (M : es_M) (s a b : Int) : Prop := (M 93 s = a ∧ M 94 s = b) ∨ (M 93 s = b ∧ M 94 s = a)
section
variable {d : Nat} {M : es_M} {Q : Int → es_M → Prop} {t : Int → Int} {L p : Int}
theorem s_m_between' {a b r : Int} (r0 : 0 ≤ r) (r1 : r ≤ 36) (k1 : (∃ s, 0 ≤ s ∧ s < r ∧ mat M s a b) → ∀ y, 0 ≤ y → Q y M) (k0 : ¬ (∃ s, 0 ≤ s ∧ s < r ∧ mat M s a b) → Q (-1) M) : es_Call (d + 1) 183 [.inr (.inr 91), .inl a, .inl b, .inl r] M Q := by
  apply m_Model_streetBetween
  intro G hG
  apply k_Model_streetBetween_0 hG
  have key : ∀ s : Int, 0 ≤ s → s ≤ r → (∀ x, 0 ≤ x → x < s → ¬ mat M x a b) → G 3 [lr 91, li a, li b, li r, li s] [] M := by
    have gen : ∀ (n : Nat) (s : Int), 0 ≤ s → s + n = r → (∀ x, 0 ≤ x → x < s → ¬ mat M x a b) → G 3 [lr 91, li a, li b, li r, li s] [] M := by
      intro n
      induction n with
      | zero =>
        intro s s0 hs no
        apply k_Model_streetBetween_3 hG
        exact ⟨fun _ => k0 (fun ⟨x, x0, x1, hx⟩ => no x x0 (by omega) hx), fun z => absurd (by omega) z⟩
      | succ n ih =>
        intro s s0 hs no
        have nx : ¬ mat M s a b → G 3 [lr 91, li a, li b, li r, li (w32 (s + 1))] [] M := fun hno => by
          rw [w32_1 (by omega) (by omega)]
          refine ih (s + 1) (by omega) (by omega) (fun x x0 x1 => ?_)
          by_cases e : x = s
          · subst e; exact hno
          · exact no x x0 (by omega)
        have fl : mat M s a b → Q s M := fun hy => k1 ⟨s, s0, by omega, hy⟩ s s0
        apply k_Model_streetBetween_3 hG
        unfold mat at nx fl
        exact ⟨fun z => absurd z (by omega), fun _ => ⟨by omega, fun x => ⟨by omega, fun y => nx (by omega), fun y => ⟨by omega, fun z => nx (by omega), fun z => fl (by omega)⟩⟩, fun x => ⟨by omega, fun y => fl (by omega), fun y => ⟨by omega, fun z => nx (by omega), fun z => ⟨by omega, fun w => nx (by omega), fun w => fl (by omega)⟩⟩⟩⟩⟩
    intro s s0 s1 no
    exact gen (r - s).toNat s s0 (by omega) no
  exact key 0 (by omega) r0 (fun x x0 x1 => by omega)
theorem s_m_readsTurn (h : MX t L p M) {bd cs : Int} (hb : (bd = 0 ∧ cs = 1) ∨ (bd = 1 ∧ cs = 0)) (i0 : 0 ≤ M 91 20) (i1 : M 91 20 < 60) (k : ItM (tuP t L cs p) t L M Q) : es_Call (d + 4) 177 [.inr (.inr 91), .inl bd] M Q := by
  apply m_Model_readsTurn
  intro G hG
  apply k_Model_readsTurn_0 hG
  unfold tuP at k
  refine s_m_corner0 h (fun c1 M1 h1 e1 => ⟨fun _ => ?_, fun z => absurd c1 z⟩) (fun c1 => es_k1 (es_k1 (es_k1 ⟨es_b0, ?_⟩)))
  · rw [if_neg (by omega)] at k
    have r1 := (cn_rng (t := t) (L := L) (u := -1) (p := p)).resolve_left (by omega)
    generalize cnF t L (-1) p = a at *
    refine s_m_corner0 h1 (fun c2 M2 h2 e2 => ⟨fun _ => ?_, fun z => absurd c2 z⟩) (fun c2 => es_k1 (es_k1 ⟨es_b0, ?_⟩))
    · rw [if_neg (by omega)] at k
      have r2 := (cn_rng (t := t) (L := L) (u := a) (p := p + 1)).resolve_left (by omega)
      generalize cnF t L a (p + 1) = b at *
      rw [show p + 1 + 1 = p + 2 by omega] at h2
      refine s_m_corner0 h2 (fun c3 M3 h3 e3 => ⟨fun _ => ?_, fun z => absurd c3 z⟩) (fun c3 => es_k1 ⟨es_b0, ?_⟩)
      · rw [if_neg (by omega)] at k
        have r3 := (cn_rng (t := t) (L := L) (u := b) (p := p + 2)).resolve_left (by omega)
        generalize cnF t L b (p + 2) = c at *
        rw [show p + 2 + 1 = p + 3 by omega] at h3
        have e := (e1.tr e2).tr e3
        have e20 : M3 91 20 = M 91 20 := e 91 20 (fun z => absurd z.2 (by decide))
        apply c_Model_turnAt
        rw [w32_s (k := a * 12) (by omega) (by omega), w32_s (k := a * 12 + b) (by omega) (by omega), w32_s (k := (a * 12 + b) * 12) (by omega) (by omega), w32_s (k := (a * 12 + b) * 12 + c) (by omega) (by omega)]
        simp only [es_upd_n (c := 104) (c' := 91) (by decide), es_upd_n (c := 105) (c' := 91) (by decide), e20]
        refine ⟨⟨i0, i1⟩, ⟨i0, i1⟩, fun z => ?_, fun z => ?_⟩
        · rw [if_pos (by omega)] at k
          apply k_Model_readsTurn_112 hG
          rw [es_upd_n (by decide), es_upd_n (by decide), e20, w32_1 (by omega) (by omega)]
          refine ⟨es_b1, k _ ?_ (Or.inl ⟨rfl, MT.eq e ⟨fun c j x y z => ?_, ?_, fun j hj => ⟨?_, ?_⟩, ?_, ?_⟩⟩)⟩
          · obtain ⟨z1, z2, z3, z4, z5⟩ := h3
            exact ⟨by rw [es_upd_o 103 (by decide), es_upd_o 103 (by decide), es_upd_o 103 (by decide)]; exact z1, by rw [es_upd_j (by decide), es_upd_n (by decide), es_upd_n (by decide)]; exact z2, by rw [es_upd_j (by decide), es_upd_n (by decide), es_upd_n (by decide)]; exact z3, z4, z5⟩
          · have : ¬ (c = 91 ∧ j = 20) := fun w => z ⟨w.1, Or.inr w.2⟩
            exact (if_neg this).trans ((es_upd_n y).trans (es_upd_n x))
          · rw [es_upd_s, e20]
          · rw [es_upd_n (by decide), es_upd_n (by decide), es_upd_c, if_neg (by omega)]
          · rw [es_upd_n (by decide), es_upd_c, if_neg (by omega), es_upd_n (by decide)]
          · rw [e20, es_upd_n (by decide), es_upd_n (by decide), es_upd_s]; rfl
          · rw [e20, es_upd_n (by decide), es_upd_s]; rfl
        · rw [if_neg (by omega)] at k
          -- the places are written, then the minutes are read
          generalize hM4 : es_upd (es_upd M3 104 (M 91 20) ((a * 12 + b) * 12 + c)) 105 (M 91 20) (-2) = M4
          have h4 : MX t L (p + 3) M4 := by
            subst hM4
            obtain ⟨z1, z2, z3, z4, z5⟩ := h3
            exact ⟨by rw [es_upd_o 103 (by decide), es_upd_o 103 (by decide)]; exact z1, by rw [es_upd_n (by decide), es_upd_n (by decide)]; exact z2, by rw [es_upd_n (by decide), es_upd_n (by decide)]; exact z3, z4, z5⟩
          have f4 : FM M M4 := by
            subst hM4
            intro c j x y z
            exact ((es_upd_n y).trans (es_upd_n x)).trans (e c j z)
          have g104 : M4 104 (M 91 20) = (a * 12 + b) * 12 + c ∧ ∀ j, j < M 91 20 → M4 104 j = M 104 j ∧ M4 105 j = M 105 j := by
            subst hM4
            refine ⟨by rw [es_upd_n (by decide), es_upd_s], fun j hj => ⟨?_, ?_⟩⟩
            · rw [es_upd_n (by decide), es_upd_c, if_neg (by omega), e.cell 104 (by decide)]
            · rw [es_upd_c, if_neg (by omega), es_upd_n (by decide), e.cell 105 (by decide)]
          have m20 : M4 91 20 = M 91 20 := f4 91 20 (by decide) (by decide) (fun z => absurd z.2 (by decide))
          refine s_m_psign h4 (by decide) (fun q1 ql M5 h5 e5 => es_n1 ?_) (fun q1 M5 h5 e5 => ⟨fun z => absurd rfl z, fun _ => ⟨by simp, ?_⟩⟩)
          · rw [if_neg (fun z => z q1)] at k
            rw [show p + 3 + 1 = p + 4 by omega] at h5
            have n20 : M5 91 20 = M 91 20 := (e5 91 20 (fun z => absurd z.2 (by decide))).trans m20
            have f5 : FM M M5 := f4.tr e5.f
            refine s_m_number h5 (z := 0) (Or.inl ⟨rfl, rfl⟩) (fun q2 M6 h6 e6 => ?_) (fun q2 => ?_)
            · rw [if_neg q2] at k
              have r4 := (nm_rng (t := t) (L := L) (z := 0) (p := p + 4) (by decide)).resolve_left q2
              have o20 : M6 91 20 = M 91 20 := (e6 91 20 (fun z => absurd z.2 (by decide))).trans n20
              have f6 : FM M M6 := f5.tr e6.f
              rw [n20, o20, es_upd_s]
              refine ⟨⟨i0, i1⟩, ⟨i0, i1⟩, fun _ => ?_, fun z => absurd r4.1.1 z⟩
              apply k_Model_readsTurn_112 hG
              rw [es_upd_n (by decide), o20, w32_1 (by omega) (by omega)]
              have s104 : M6 104 = M4 104 := (e6.cell 104 (by decide)).trans (e5.cell 104 (by decide))
              have s105 : M6 105 = M4 105 := (e6.cell 105 (by decide)).trans (e5.cell 105 (by decide))
              refine ⟨es_b1, k _ ?_ (Or.inl ⟨rfl, ⟨fun c j x y z => ?_, ?_, fun j hj => ⟨?_, ?_⟩, ?_, ?_⟩⟩)⟩
              · obtain ⟨z1, z2, z3, z4, z5⟩ := h6
                exact ⟨by rw [es_upd_o 103 (by decide), es_upd_o 103 (by decide)]; exact z1, by rw [es_upd_j (by decide), es_upd_n (by decide)]; exact z2, by rw [es_upd_j (by decide), es_upd_n (by decide)]; exact z3, z4, z5⟩
              · have : ¬ (c = 91 ∧ j = 20) := fun w => z ⟨w.1, Or.inr w.2⟩
                exact ((if_neg this).trans (es_upd_n y)).trans (f6 c j x y (fun w => z ⟨w.1, Or.inl w.2⟩))
              · rw [es_upd_s]
              · rw [es_upd_n (by decide), es_upd_n (by decide), s104]; exact (g104.2 j hj).1
              · rw [es_upd_n (by decide), es_upd_c, if_neg (by omega), s105]; exact (g104.2 j hj).2
              · rw [es_upd_n (by decide), es_upd_n (by decide), s104]; exact g104.1
              · rw [es_upd_n (by decide), es_upd_s]; exact (if_neg q2).symm
            · rw [if_pos q2] at k
              rw [n20, es_upd_s]
              refine ⟨⟨i0, i1⟩, ⟨i0, i1⟩, fun z => absurd z (by decide), fun _ => ⟨by simp, k _ ?_ (fun c j x y z => (es_upd_n y).trans (f5 c j x y z))⟩⟩
              obtain ⟨z1, z2, z3, z4, z5⟩ := h5
              exact ⟨by rw [es_upd_o 103 (by decide)]; exact z1, by rw [es_upd_n (by decide)]; exact z2, by rw [es_upd_n (by decide)]; exact z3, z4, z5⟩
          · rw [if_pos q1] at k; exact k _ h5 (f4.tr e5.f)
      · rw [if_pos c3] at k; exact k _ h2 (e1.tr e2).f
    · rw [if_pos c2] at k; exact k _ h1 e1.f
  · rw [if_pos c1] at k; exact k _ h EqM.rf.f
theorem s_m_readsStreet (h : MX t L p M) {J : Int → Int → Bool} (n0 : 0 ≤ M 91 19) (n1 : M 91 19 < 36) (hJ : ∀ a b, 0 ≤ a → a < 12 → 0 ≤ b → b < 12 → ((∃ s, 0 ≤ s ∧ s < M 91 19 ∧ mat M s a b) ↔ J a b = true)) (k : ItM (stP J t L p) t L M Q) : es_Call (d + 4) 182 [.inr (.inr 91)] M Q := by
  apply m_Model_readsStreet
  intro G hG
  apply k_Model_readsStreet_0 hG
  unfold stP at k
  have bad : ∀ (q : Int) (M1 : es_M), MX t L q M1 → EqM M M1 → (∀ M', MX t L q M' → FM M M' → Q 0 M') → G 225 [none, none, none, none, none, none, none, none] [] M1 := fun q M1 h1 e1 k1 => k_Model_readsStreet_225 hG ⟨es_b0, k1 M1 h1 e1.f⟩
  have fin : ∀ (a b f r kd w q : Int) (M1 : es_M), MX t L q M1 → EqM M M1 → (∀ M', MX t L q M' → GM M M' (0, a, b, f, r, kd, w) → Q 1 M') → G 251 [lr 91, li a, none, li b, li f, li r, li kd, li w] [] M1 := by
    intro a b f r kd w q M1 h1 e1 k1
    apply k_Model_readsStreet_251 hG
    have e19 : M1 91 19 = M 91 19 := e1 91 19 (fun z => absurd z.2 (by decide))
    simp only [es_upd_n (c := 93) (c' := 91) (by decide), es_upd_n (c := 94) (c' := 91) (by decide), es_upd_n (c := 95) (c' := 91) (by decide), es_upd_n (c := 96) (c' := 91) (by decide), es_upd_n (c := 97) (c' := 91) (by decide), e19]
    rw [w32_s (k := 2 * M 91 19) (by omega) (by omega), w32_s (k := 2 * M 91 19 + 1) (by omega) (by omega), w32_1 (by omega) (by omega)]
    refine ⟨by omega, by omega, by omega, by omega, by omega, by omega, by simp, k1 _ ?_ (Or.inr ⟨rfl, MS.eq e1 ⟨fun c j x z => ?_, ?_, fun j => ?_, fun j => ?_, fun j => ?_, fun j => ?_, fun j => ?_⟩⟩)⟩
    · obtain ⟨z1, z2, z3, z4, z5⟩ := h1
      exact ⟨by rw [es_upd_o 103 (by decide), es_upd_o 103 (by decide), es_upd_o 103 (by decide), es_upd_o 103 (by decide), es_upd_o 103 (by decide), es_upd_o 103 (by decide), es_upd_o 103 (by decide)]; exact z1, by rw [es_upd_j (by decide), es_upd_n (by decide), es_upd_n (by decide), es_upd_n (by decide), es_upd_n (by decide), es_upd_n (by decide), es_upd_n (by decide)]; exact z2, by rw [es_upd_j (by decide), es_upd_n (by decide), es_upd_n (by decide), es_upd_n (by decide), es_upd_n (by decide), es_upd_n (by decide), es_upd_n (by decide)]; exact z3, z4, z5⟩
    · have : ¬ (c = 91 ∧ j = 19) := fun w => z ⟨w.1, Or.inr w.2⟩
      refine (if_neg this).trans ?_
      rw [es_upd_n (by omega), es_upd_n (by omega), es_upd_n (by omega), es_upd_n (by omega), es_upd_n (by omega), es_upd_n (by omega)]
    · rw [es_upd_s, e19]
    · rw [e19, es_upd_n (by decide), es_upd_n (by decide), es_upd_n (by decide), es_upd_n (by decide), es_upd_n (by decide), es_upd_n (by decide), es_upd_c]
    · rw [e19, es_upd_n (by decide), es_upd_n (by decide), es_upd_n (by decide), es_upd_n (by decide), es_upd_n (by decide), es_upd_c, es_upd_n (by decide)]
    · rw [e19, es_upd_n (by decide), es_upd_n (by decide), es_upd_n (by decide), es_upd_c, es_upd_c, es_upd_n (by decide), es_upd_n (by decide)]
    · rw [e19, es_upd_n (by decide), es_upd_n (by decide), es_upd_c, es_upd_n (by decide), es_upd_n (by decide), es_upd_n (by decide), es_upd_n (by decide)]
    · rw [e19, es_upd_n (by decide), es_upd_c, es_upd_n (by decide), es_upd_n (by decide), es_upd_n (by decide), es_upd_n (by decide), es_upd_n (by decide)]
  have dol : ∀ (a b f r kd q : Int) (M1 : es_M), MX t L (q + 1) M1 → EqM M M1 → ItM (if tlF t L (q + 1) = 36 then (if 49 ≤ tlF t L (q + 2) ∧ tlF t L (q + 2) ≤ 57 then .inr (q + 3, (0, a, b, f, r, kd, tlF t L (q + 2) - 48)) else .inl (q + 2)) else .inr (q + 1, (0, a, b, f, r, kd, 1))) t L M Q →
      es_Call (d + 3) 174 [.inr (.inr 91), .inl 36] M1 (fun y10 M9 => ((y10 = 0 → G 251 [lr 91, li a, none, li b, li f, li r, li kd, li 1] [] M9) ∧ (¬ y10 = 0 → es_Call (d + 3) 181 [.inr (.inr 91)] M9 (fun y12 M11 => ((y12 = 0 → G 225 [none, none, none, none, none, none, none, none] [] M11) ∧ (¬ y12 = 0 → ((0 ≤ (M11 91 17) ∧ (M11 91 17) < 100) ∧ ((¬ (M11 103 (M11 91 17)) = 48 → ((0 ≤ (M11 91 17) ∧ (M11 91 17) < 100) ∧ G 251 [lr 91, li a, none, li b, li f, li r, li kd, li (w32 ((M11 103 (M11 91 17)) - 48))] [] (es_upd M11 91 17 (w32 ((M11 91 17) + 1))))) ∧ ((M11 103 (M11 91 17)) = 48 → G 225 [none, none, none, none, none, none, none, none] [] M11))))))))) := by
    intro a b f r kd q M1 h1 e1 k1
    refine s_m_psign h1 (by decide) (fun q1 ql M2 h2 e2 => es_t1 ?_) (fun q1 M2 h2 e2 => es_t0 ?_)
    · rw [if_pos q1] at k1
      rw [show q + 1 + 1 = q + 2 by omega] at h2
      have e12 := e1.tr e2
      refine s_m_isDigit h2 (fun a1 b1 pl e => es_t1 ?_) (fun q2 => es_t0 ?_)
      · have L1 := h2.2.2.2.2.1
        have p0 := h2.2.2.2.1
        rw [h2.2.2.1, e]
        refine ⟨by omega, fun z => ⟨by omega, ?_⟩, fun z => ?_⟩
        · rw [if_pos (by omega)] at k1
          rw [w32_s (by omega) (by omega), w32_1 (by omega) (by omega), show q + 2 + 1 = q + 3 by omega]
          have u := h2.upd (p' := q + 3) (by omega) (by omega)
          exact fin _ _ _ _ _ _ _ _ u.1 (e12.tr u.2) k1
        · rw [if_neg (by omega)] at k1; exact bad _ _ h2 e12 k1
      · rw [if_neg (by omega)] at k1; exact bad _ _ h2 e12 k1
    · rw [if_neg q1] at k1; exact fin _ _ _ _ _ _ _ _ h2 (e1.tr e2) k1
  have tail : ∀ (ow a b f r q : Int) (M1 : es_M), MX t L q M1 → EqM M M1 → ItM (st3 t L ow a b f r q) t L M Q → G 145 [lr 91, li a, li ow, li b, li f, li r, none, none] [] M1 := by
    intro ow a b f r q M1 h1 e1 k1
    apply k_Model_readsStreet_145 hG
    unfold st3 at k1
    have non : ∀ M2, MX t L q M2 → EqM M M2 → ItM (.inr (q, (0, a, b, f, r, 0, 0))) t L M Q → G 175 [lr 91, li a, none, li b, li f, li r, none, none] [] M2 := fun M2 h2 e2 k2 => k_Model_readsStreet_175 hG (es_l0 (es_l0 (fin a b f r 0 0 q M2 h2 e2 k2)))
    refine s_m_psign h1 (by decide) (fun q1 ql M2 h2 e2 => ⟨fun z => absurd z (by decide), fun _ => es_l1 (es_l1 ?_)⟩) (fun q1 M2 h2 e2 => es_t0 ⟨fun o => ?_, fun o => ?_⟩)
    · rw [if_pos q1] at k1; exact dol a b f r 1 q M2 h2 (e1.tr e2) k1
    · rw [if_neg q1, if_neg (fun z => o z.1)] at k1; exact non M2 h2 (e1.tr e2) k1
    · rw [if_neg q1] at k1
      refine s_m_psign h2 (by decide) (fun q2 ql M3 h3 e3 => ⟨fun z => absurd z (by decide), fun _ => es_l2 (es_l2 ?_)⟩) (fun q2 M3 h3 e3 => es_t0 ?_)
      · rw [if_pos ⟨o, q2⟩] at k1; exact dol a b f r 2 q M3 h3 ((e1.tr e2).tr e3) k1
      · rw [if_neg (fun z => q2 z.2)] at k1; exact non M3 h3 ((e1.tr e2).tr e3) k1
  have mid : ∀ (ow a q : Int) (M1 : es_M), MX t L q M1 → EqM M M1 → q < L → 0 ≤ a → a < 12 → ItM (st2 J t L ow a (q + 1)) t L M Q → G 34 [lr 91, li a, li ow, none, none, none, none, none] [] M1 := by
    intro ow a q M1 h1 e1 ql a0 a1 k1
    apply k_Model_readsStreet_34 hG
    have L1 := h1.2.2.2.2.1
    have p0 := h1.2.2.2.1
    rw [h1.2.2.1, w32_1 (by omega) (by omega)]
    have u := h1.upd (p' := q + 1) (by omega) (by omega)
    have eu := e1.tr u.2
    unfold st2 at k1
    refine s_m_corner0 u.1 (fun c1 M2 h2 e2 => ⟨fun _ => ?_, fun z => absurd c1 z⟩) (fun c1 => ⟨fun z => absurd z (by decide), fun _ => ⟨es_b0, ?_⟩⟩)
    · rw [if_neg (by omega)] at k1
      have r1 := (cn_rng (t := t) (L := L) (u := a) (p := q + 1)).resolve_left (by omega)
      generalize cnF t L a (q + 1) = b at *
      have e12 := eu.tr e2
      have m19 : M2 91 19 = M 91 19 := e12 91 19 (fun z => absurd z.2 (by decide))
      rw [m19]
      have mm : ∀ s, mat M2 s a b ↔ mat M s a b := fun s => by unfold mat; rw [e12.cell 93 (by decide), e12.cell 94 (by decide)]
      have jj := hJ a b a0 a1 r1.1.1 r1.1.2
      refine s_m_between' n0 (by omega) (fun ⟨s, s0, s1, hs⟩ y y0 => ⟨fun z => absurd z (by omega), fun _ => ⟨es_b0, ?_⟩⟩) (fun no => ⟨fun _ => ?_, fun z => absurd (by decide) z⟩)
      · have jt : J a b = true := jj.mp ⟨s, s0, s1, (mm s).mp hs⟩
        rw [if_pos jt] at k1
        rw [h2.2.2.1, w32_s (k := q + 1 + 1 - 1) (by omega) (by omega), show q + 1 + 1 - 1 = q + 1 by omega]
        have v := h2.upd (p' := q + 1) (by omega) (by omega)
        exact k1 _ v.1 (e12.tr v.2).f
      · have jf : ¬ J a b = true := fun z => no (by obtain ⟨s, s0, s1, hs⟩ := jj.mpr z; exact ⟨s, s0, s1, (mm s).mpr hs⟩)
        rw [if_neg jf] at k1
        refine s_m_psign h2 (by decide) (fun q1 ql M3 h3 e3 => es_n1 ?_) (fun q1 M3 h3 e3 => es_n0 ⟨es_b0, ?_⟩)
        · rw [if_neg (fun z => z q1)] at k1
          rw [show q + 1 + 1 + 1 = q + 1 + 2 by omega] at h3
          have e13 := e12.tr e3
          refine s_m_number h3 (z := 1) (Or.inr ⟨rfl, rfl⟩) (fun q2 M4 h4 e4 => ⟨fun _ => ?_, fun z => absurd (by have := (nm_rng (t := t) (L := L) (z := 1) (p := q + 1 + 2) (by decide)).resolve_left q2; omega) z⟩) (fun q2 => ⟨fun z => absurd z (by decide), fun _ => ⟨es_b0, ?_⟩⟩)
          · rw [if_neg q2] at k1
            have e14 := e13.tr e4
            refine ⟨fun o => ⟨fun z => absurd o z, fun _ => ?_⟩, fun o => ⟨fun _ => ?_, fun z => absurd z o⟩⟩
            · rw [if_pos o] at k1
              refine s_m_psign h4 (by decide) (fun q3 ql M5 h5 e5 => es_t1 ?_) (fun q3 M5 h5 e5 => es_t0 ?_)
              · rw [if_pos q3] at k1
                have e15 := e14.tr e5
                refine s_m_number h5 (z := 1) (Or.inr ⟨rfl, rfl⟩) (fun q4 M6 h6 e6 => ⟨fun _ => ?_, fun z => absurd (by have := (nm_rng (t := t) (L := L) (z := 1) (p := nmA t L (q + 1 + 2) + 1) (by decide)).resolve_left q4; omega) z⟩) (fun q4 => ⟨fun z => absurd z (by decide), fun _ => ⟨es_b0, ?_⟩⟩)
                · rw [if_neg q4] at k1; exact tail _ _ _ _ _ _ _ h6 (e15.tr e6) k1
                · rw [if_pos q4] at k1; exact k1 _ h5 e15.f
              · rw [if_neg q3] at k1; exact tail _ _ _ _ _ _ _ h5 (e14.tr e5) k1
            · rw [if_neg o] at k1; exact tail _ _ _ _ _ _ _ h4 e14 k1
          · rw [if_pos q2] at k1; exact k1 _ h3 e13.f
        · rw [if_pos q1] at k1; exact k1 _ h3 (e12.tr e3).f
    · rw [if_pos c1] at k1; exact k1 _ u.1 eu.f
  refine s_m_corner0 h (fun c1 M1 h1 e1 => ⟨fun _ => ?_, fun z => absurd c1 z⟩) (fun c1 => ⟨fun z => absurd z (by decide), fun _ => ⟨es_b0, ?_⟩⟩)
  · rw [if_neg (by omega)] at k
    have cr := (cn_rng (t := t) (L := L) (u := -1) (p := p)).resolve_left (by omega)
    refine s_m_isAt h1 (by decide) (fun q1 ql => ⟨fun _ => ?_, fun z => absurd z (by decide)⟩) (fun q1 => ⟨fun z => absurd rfl z, fun _ => ?_⟩)
    · rw [if_pos q1] at k
      rw [show p + 2 = p + 1 + 1 by omega] at k
      exact mid _ _ _ _ h1 e1 ql cr.1.1 cr.1.2 k
    · rw [if_neg q1] at k
      refine s_m_isAt h1 (by decide) (fun q2 ql => ⟨fun _ => ?_, fun z => absurd z (by decide)⟩) (fun q2 => ⟨fun z => absurd rfl z, fun _ => ⟨es_b0, ?_⟩⟩)
      · rw [if_pos q2] at k
        rw [show p + 2 = p + 1 + 1 by omega] at k
        exact mid _ _ _ _ h1 e1 ql cr.1.1 cr.1.2 k
      · rw [if_neg q2] at k; exact k _ h1 e1.f
  · rw [if_pos c1] at k; exact k _ h EqM.rf.f
end
