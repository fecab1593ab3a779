/-! LEAST WALKS (8): the model fills its table -/
theorem stt_r {T : es_M} (hT : TI T) {p : Int} (h : stt T p) : 0 ≤ p ∧ p < 37 := by
  have hn := hT.n
  rcases h with z | z
  · omega
  · have := z.1.1; have := z.1.2; omega
theorem stp_go {T : es_M} (hT : TI T) {c p q : Int} (hp : isS T p) (hq : isP T q) (hs : stp T c p q < 1000000) : goes T q := by
  rcases stp_r hT (c := c) hp hq with z | ⟨-, z, -⟩
  · omega
  · exact z
theorem sub_le {a b : Int} (a0 : 0 ≤ a) (h : sub a b) : a ≤ b ∨ b < 0 := by
  have : a.toNat ≤ b.toNat := by
    have e2 : a.toNat = a.toNat &&& b.toNat := by
      apply Nat.eq_of_testBit_eq
      intro i
      rw [Nat.testBit_and]
      cases z : a.toNat.testBit i
      · rfl
      · rw [h i z]; rfl
    rw [e2]; exact Nat.and_le_right
  omega
theorem sub_dif {a b : Int} (a0 : 0 ≤ a) (a1 : a < 2147483648) (b0 : 0 ≤ b) (b1 : b < 2147483648) : es_and a (es_xor b (-1)) = 0 ↔ sub a b := by
  rw [ei_dif a0 a1 b0 b1]
  constructor
  · intro h i hi
    have h' : es_dif a.toNat b.toNat = 0 := by omega
    exact subN_bit h' hi
  · intro h
    have : es_dif a.toNat b.toNat = 0 := subN_of h
    omega
section
variable {d : Nat} {Q : Int → es_M → Prop} {T M : es_M}
theorem rep118 {M' : es_M} (hR : RepM T M) (h : ∀ c, c ≠ 118 → M' c = M c) : RepM T M' := by
  intro c j q
  by_cases e : c = 118
  · subst e; cases q
  · rw [h c e]; exact hR _ _ q
theorem s_m_fills (hT : TI T) (hR : RepM T M) {c g W : Int} (W0 : 0 ≤ W) (W1 : W < 1024) (h : ∀ M', (∀ c', c' ≠ 118 → c' ≠ 91 → M' c' = M c') → (∀ j, j ≠ 38 → j ≠ 39 → M' 91 j = M 91 j) → M' 91 38 = W → M' 91 39 = g → fOK T c g W (-1) M' → Q 0 M') : es_Call (d + 6) 226 [.inr (.inr 91), .inl c, .inl g, .inl W] M Q := by
  have hn := hT.n
  apply m_Model_fills
  intro G hG
  apply k_Model_fills_0 hG
  have hR0 : RepM T (es_upd (es_upd M 91 38 W) 91 39 g) := (hR.upd rfl).upd rfl
  generalize hM0 : es_upd (es_upd M 91 38 W) 91 39 g = M0 at hR0 ⊢
  have e38 : M0 91 38 = W := by rw [← hM0, es_upd_j (by decide), es_upd_s]
  have e39 : M0 91 39 = g := by rw [← hM0, es_upd_s]
  have outer : ∀ (n : Nat) (D : Int), D + 1 = n → D ≤ W → ∀ M' : es_M, (∀ c, c ≠ 118 → M' c = M0 c) → fOK T c g W D M' → G 13 [lr 91, li c, li g, li W, li D, none, none, none] [] M' := by
    intro n
    induction n with
    | zero =>
      intro D hD _ M' f1 f2
      have : D = -1 := by omega
      subst this
      apply k_Model_fills_13 hG
      refine ⟨fun _ => h M' (fun c' c1 c2 => by rw [f1 c' c1, ← hM0, es_upd_o c' c2, es_upd_o c' c2]) (fun j j1 j2 => by rw [f1 91 (by decide), ← hM0, es_upd_j j2, es_upd_j j1]) (by rw [f1 91 (by decide)]; exact e38) (by rw [f1 91 (by decide)]; exact e39) f2, fun z => absurd (by decide) z⟩
    | succ n ih =>
      intro D hD hDW M' f1 f2
      have D0 : 0 ≤ D := by omega
      apply k_Model_fills_13 hG
      rw [show w32 (D + -1) = D - 1 by rw [show D + -1 = D - 1 by omega]; exact w32_m (by omega) (by omega)]
      refine ⟨fun z => absurd z (by omega), fun _ => ⟨fun z => ?_, fun z => ih (D - 1) (by omega) (by omega) M' f1 (fun d' s1 s2 s3 => ?_)⟩⟩
      · have hs : sub D W := (sub_dif D0 (by omega) W0 (by omega)).mp z
        -- rounds
        have rounds : ∀ (S : Nat) (M' : es_M), (∀ c, c ≠ 118 → M' c = M0 c) → fOK T c g W D M' → rowOK T c g W D (fun p => M' 118 (D * 37 + p)) → smN (fun p => M' 118 (D * 37 + p)) 37 ≤ S → G 107 [lr 91, li c, li g, li W, li D, li 1, none, none] [] M' := by
          intro S
          induction S using Nat.strongRecOn with
          | _ S ihS =>
            intro M' f1 f2 f3 f4
            apply k_Model_fills_107 hG
            refine ⟨fun w => absurd w (by decide), fun _ => ?_⟩
            have f4' := f4
            refine es_up (P := fun k => ∀ (M2 : es_M) (more : Int), (∀ c, c ≠ 118 → M2 c = M0 c) → fOK T c g W D M2 → rowOK T c g W D (fun p => M2 118 (D * 37 + p)) → smN (fun p => M2 118 (D * 37 + p)) 37 ≤ S → ((more = 1 ∧ smN (fun p => M2 118 (D * 37 + p)) 37 < S) ∨ (more = 0 ∧ ∀ p, stt T p → p < k → ∀ q, isP T q → stp T c p q < 1000000 → M2 118 (D * 37 + p) ≤ stp T c p q + M2 118 (dnF T q D W * 37 + q))) → G 118 [lr 91, li c, li g, li W, li D, li more, li k, none] [] M2) (n := 37) (by decide) ?_ ?_ M' 0 f1 f2 f3 f4 (Or.inr ⟨rfl, fun p hp h1 => absurd h1 (by have := stt_r hT hp; omega)⟩)
            · intro M2 more g1 g2 g3 g4 g5
              apply k_Model_fills_118 hG
              refine ⟨fun _ => ?_, fun w => absurd (Int.le_refl _) w⟩
              rcases g5 with ⟨m1, m2⟩ | ⟨m1, m2⟩
              · rw [m1]
                have sr := smN_r (f := fun p => M2 118 (D * 37 + p)) 37 (fun k k0 k1 => g3.1 k k0 k1)
                exact ihS (smN (fun p => M2 118 (D * 37 + p)) 37).toNat (by omega) M2 g1 g2 g3 (by omega)
              · rw [m1]
                apply k_Model_fills_107 hG
                rw [show w32 (D + -1) = D - 1 by rw [show D + -1 = D - 1 by omega]; exact w32_m (by omega) (by omega)]
                refine ⟨fun _ => ih (D - 1) (by omega) (by omega) M2 g1 (fun d' s1 s2 s3 => ?_), fun w => absurd rfl w⟩
                by_cases e : d' = D
                · subst e
                  exact row_fix hT g2 g3 D0 hs (fun _ => rfl) (fun p q hp hq hst => m2 p hp (stt_r hT hp).2 q hq hst)
                · exact g2 d' s1 s2 (by omega)
            · intro k k0 k1 ih2 M2 more g1 g2 g3 g4 g5
              have hR2 := rep118 hR0 g1
              apply k_Model_fills_118 hG
              rw [w32_1 (k := k) (by omega) (by omega)]
              have cur : ∀ q, isP T q → goes T q → (0 ≤ M2 118 (dnF T q D W * 37 + q) ∧ M2 118 (dnF T q D W * 37 + q) ≤ 1000000) ∧ rmF T c g W q (dnF T q D W) ≤ M2 118 (dnF T q D W * 37 + q) := by
                intro q hq gq
                have sq : stt T q := Or.inr ⟨hq, gq⟩
                have qr := stt_r hT sq
                by_cases e : dnF T q D W = D
                · rw [e]; exact ⟨g3.1 q qr.1 qr.2, g3.2.1 q sq⟩
                · have le := sub_le D0 (dn_sub (T := T) (q := q) (d := D) (W := W))
                  have nn := dn_nn (T := T) (q := q) (W := W) D0
                  have rr := rm_r hT (c := c) (g := g) (W := W) (d := dnF T q D W) (Or.inr hq)
                  rw [g2 (dnF T q D W) (dn_in hs) nn (by omega) q sq]
                  exact ⟨rr, Int.le_refl _⟩
              refine ⟨fun w => absurd w (by omega), fun _ => s_m_isState hT hR2 k0 (by omega) (fun sk => es_f1 ?_) (fun sk => es_f0 (ih2 M2 more g1 g2 g3 g4 ?_))⟩
              · have hk : stt T k := sk
                refine s_m_byNext hT hR2 (by rw [g1 91 (by decide)]; exact e38) W0 W1 hk.s D0 (by omega) (fun q hq hst => (cur q hq (stp_go hT hk.s hq hst)).1) (fun m m0 m1 b1 b2 => ?_)
                obtain ⟨x1, x2, x3⟩ := w37888 (a := D) (b := k) (by omega) (by omega)
                refine c_Model_remainOf ?_
                rw [x1]
                refine ⟨⟨x2, x3⟩, fun w => ih2 M2 more g1 g2 g3 g4 ?_, fun w => ⟨⟨x2, x3⟩, ih2 _ 1 (fun c hc => by rw [es_upd_o c hc]; exact g1 c hc) (fun d' s1 s2 s3 p hp => ?_) ?_ ?_ (Or.inl ⟨rfl, ?_⟩)⟩⟩
                · rcases g5 with g5 | ⟨m1', m2⟩
                  · exact Or.inl g5
                  · refine Or.inr ⟨m1', fun p hp h1 q hq hst => ?_⟩
                    by_cases e : p = k
                    · subst e; have := b1 q hq hst; omega
                    · exact m2 p hp (by omega) q hq hst
                · have := stt_r hT hp
                  rw [es_upd_j (by omega)]; exact g2 d' s1 s2 s3 p hp
                · refine ⟨fun p p0 p1 => ?_, fun p hp => ?_, fun p hp ac => ?_⟩
                  · show 0 ≤ es_upd M2 118 (D * 37 + k) m 118 (D * 37 + p) ∧ es_upd M2 118 (D * 37 + k) m 118 (D * 37 + p) ≤ 1000000
                    rw [es_upd_c]
                    by_cases e : p = k
                    · rw [if_pos (by omega)]; exact ⟨m0, m1⟩
                    · rw [if_neg (by omega)]; exact g3.1 p p0 p1
                  · show rmF T c g W p D ≤ es_upd M2 118 (D * 37 + k) m 118 (D * 37 + p)
                    rw [es_upd_c]
                    by_cases e : p = k
                    · subst e
                      rw [if_pos rfl]
                      rcases b2 with b2 | ⟨q, q1, q2, q3⟩
                      · rw [b2]; exact (rm_r hT hp.s).2
                      · have := rm_s hT (c := c) (g := g) (W := W) (p := p) (d := D) hp.s q1 q2
                        have := (cur q q1 (stp_go hT hp.s q1 q2)).2
                        omega
                    · rw [if_neg (by omega)]; exact g3.2.1 p hp
                  · show es_upd M2 118 (D * 37 + k) m 118 (D * 37 + p) = 0
                    rw [es_upd_c]
                    by_cases e : p = k
                    · subst e
                      have z0 : M2 118 (D * 37 + p) = 0 := g3.2.2 p hp ac
                      omega
                    · rw [if_neg (by omega)]; exact g3.2.2 p hp ac
                · have u := smN_u (f := fun p => M2 118 (D * 37 + p)) (g := fun p => es_upd M2 118 (D * 37 + k) m 118 (D * 37 + p)) (k := k) k0 (fun i hi => by show es_upd M2 118 (D * 37 + k) m 118 (D * 37 + i) = M2 118 (D * 37 + i); rw [es_upd_j (by omega)]) 37
                  rw [if_pos (by omega), es_upd_s] at u
                  rw [u]
                  show smN (fun p => M2 118 (D * 37 + p)) 37 + (m - M2 118 (D * 37 + k)) ≤ S
                  omega
                · have u := smN_u (f := fun p => M2 118 (D * 37 + p)) (g := fun p => es_upd M2 118 (D * 37 + k) m 118 (D * 37 + p)) (k := k) k0 (fun i hi => by show es_upd M2 118 (D * 37 + k) m 118 (D * 37 + i) = M2 118 (D * 37 + i); rw [es_upd_j (by omega)]) 37
                  rw [if_pos (by omega), es_upd_s] at u
                  rw [u]
                  show smN (fun p => M2 118 (D * 37 + p)) 37 + (m - M2 118 (D * 37 + k)) < S
                  omega
              · rcases g5 with g5 | ⟨m1', m2⟩
                · exact Or.inl g5
                · refine Or.inr ⟨m1', fun p hp h1 q hq hst => ?_⟩
                  by_cases e : p = k
                  · subst e; exact absurd hp sk
                  · exact m2 p hp (by omega) q hq hst
        -- the row is laid
        refine es_up (P := fun k => ∀ M2 : es_M, (∀ c, c ≠ 118 → M2 c = M0 c) → fOK T c g W D M2 → (∀ p, 0 ≤ p → p < k → M2 118 (D * 37 + p) = ifc (D = W ∧ stt T p ∧ cr T c p = g) 0 1000000) → G 33 [lr 91, li c, li g, li W, li D, li k, none, none] [] M2) (n := 37) (by decide) ?_ ?_ M' f1 f2 (fun p p0 p1 => absurd p1 (by omega))
        · intro M2 g1 g2 g3
          apply k_Model_fills_33 hG
          refine ⟨fun _ => rounds (smN (fun p => M2 118 (D * 37 + p)) 37).toNat M2 g1 g2 ⟨fun p p0 p1 => ?_, fun p hp => ?_, fun p hp ac => ?_⟩ (by omega), fun w => absurd (Int.le_refl _) w⟩
          · show 0 ≤ M2 118 (D * 37 + p) ∧ M2 118 (D * 37 + p) ≤ 1000000
            rw [g3 p p0 p1]
            by_cases e : D = W ∧ stt T p ∧ cr T c p = g
            · rw [ifc_y e]; decide
            · rw [ifc_n e]; decide
          · show rmF T c g W p D ≤ M2 118 (D * 37 + p)
            have pr := stt_r hT hp
            rw [g3 p pr.1 pr.2]
            by_cases e : D = W ∧ stt T p ∧ cr T c p = g
            · rw [ifc_y e, e.1, rm_a hT hp.s e.2.2]; exact Int.le_refl _
            · rw [ifc_n e]; exact (rm_r hT hp.s).2
          · show M2 118 (D * 37 + p) = 0
            have pr := stt_r hT hp
            rw [g3 p pr.1 pr.2, ifc_y ⟨ac.1, hp, ac.2⟩]
        · intro k k0 k1 ih2 M2 g1 g2 g3
          have hR2 := rep118 hR0 g1
          obtain ⟨x1, x2, x3⟩ := w37888 (a := D) (b := k) (by omega) (by omega)
          have fin : ∀ v, v = ifc (D = W ∧ stt T k ∧ cr T c k = g) 0 1000000 → ((0 ≤ D * 37 + k ∧ D * 37 + k < 37888) ∧ G 33 [lr 91, li c, li g, li W, li D, li (k + 1), none, none] [] (es_upd M2 118 (D * 37 + k) v)) := by
            intro v hv
            refine ⟨⟨x2, x3⟩, ih2 _ (fun c hc => by rw [es_upd_o c hc]; exact g1 c hc) (fun d' s1 s2 s3 p hp => ?_) (fun p p0 p1 => ?_)⟩
            · have := stt_r hT hp
              rw [es_upd_j (by omega)]; exact g2 d' s1 s2 s3 p hp
            · rw [es_upd_c]
              by_cases e : p = k
              · rw [if_pos (by omega), e, hv]
              · rw [if_neg (by omega)]; exact g3 p p0 (by omega)
          apply k_Model_fills_33 hG
          rw [x1, w32_1 (k := k) (by omega) (by omega)]
          refine ⟨fun w => absurd w (by omega), fun _ => ⟨fun w => ⟨fun _ => fin _ (by rw [ifc_n (fun z => w z.1)]), fun w' => absurd rfl w'⟩, fun w => s_m_isState hT hR2 k0 (by omega) (fun sk => es_t1 (s_m_corner hT hR2 (stt.s sk) ⟨fun y => ⟨fun _ => fin _ (by rw [ifc_n (fun z => y z.2.2)]), fun w' => absurd rfl w'⟩, fun y => ⟨fun w' => absurd w' (by decide), fun _ => fin _ (by rw [ifc_y ⟨w, sk, y⟩])⟩⟩)) (fun sk => es_t0 ⟨fun _ => fin _ (by rw [ifc_n (fun z => sk z.2.1)]), fun w' => absurd rfl w'⟩)⟩⟩
      · by_cases e : d' = D
        · subst e
          exact absurd ((sub_dif D0 (by omega) W0 (by omega)).mpr s1) z
        · exact f2 d' s1 s2 (by omega)
  refine outer (W + 1).toNat W (by omega) (Int.le_refl _) M0 (fun _ _ => rfl) (fun d' s1 s2 s3 => ?_)
  have := sub_le s2 s1
  omega
end
