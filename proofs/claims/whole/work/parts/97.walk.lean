/-! PAIRS OF CALLS: rest -/
theorem hd_sub {T : es_M} : ∀ k : Nat, sub (hdF T k) (allF T)
  | 0 => fun i hi => by rw [show (hdF T 0).toNat = 0 from rfl, Nat.zero_testBit] at hi; cases hi
  | k + 1 => dn_in (hd_sub k)
theorem by_rm {T : es_M} (hT : TI T) {c g W p dn m : Int} {M : es_M} (hF : fOK T c g W (-1) M) (hp : isS T p) (d0 : 0 ≤ dn) (hd : sub dn W) (na : ¬ (dn = W ∧ cr T c p = g)) (m1 : m ≤ 1000000) (b1 : ∀ q, isP T q → stp T c p q < 1000000 → m ≤ stp T c p q + M 118 (dnF T q dn W * 37 + q)) (b2 : m = 1000000 ∨ ∃ q, isP T q ∧ stp T c p q < 1000000 ∧ m = stp T c p q + M 118 (dnF T q dn W * 37 + q)) : m = rmF T c g W p dn := by
  have v : ∀ q, isP T q → stp T c p q < 1000000 → M 118 (dnF T q dn W * 37 + q) = rmF T c g W q (dnF T q dn W) := fun q hq hs => hF _ (dn_in hd) (dn_nn d0) (by have := dn_nn (T := T) (q := q) (W := W) d0; omega) q (Or.inr ⟨hq, stp_go hT hp hq hs⟩)
  have r := rm_r hT (c := c) (g := g) (W := W) (d := dn) hp
  have A : rmF T c g W p dn ≤ m := by
    rcases b2 with b | ⟨q, q1, q2, q3⟩
    · omega
    · rw [q3, v q q1 q2]; exact rm_s hT hp q1 q2
  by_cases z : rmF T c g W p dn < 1000000
  · obtain ⟨q, q1, q2, q3⟩ := rm_x hT hp z na
    have := b1 q q1 q2
    rw [v q q1 q2] at this
    omega
  · omega
section
variable {d : Nat} {M : es_M}
/-- the model's part from a state -/
theorem mdl_rest (h : Inv M) {M1 : es_M} {c g p dn y : Int} (k1 : offK M M1) (c0 : M1 60 5 = 0) (c1 : nextsOK M M1) (c2 : ∀ p q, isP M p → isP M q → M1 61 (p * 36 + q) = wyF M p q) (hp : isS M p) (d0 : 0 ≤ dn) (hd : sub dn (allF M)) (d1 : dn < 1024) (hc : cr M c p = c) (hno : ¬ rmF M c g (allF M) p dn < 1000000 → y = -2 ∧ M1 58 = M 58 ∧ M1 59 = M 59) (hyes : rmF M c g (allF M) p dn < 1000000 → y = rmF M c g (allF M) p dn ∧ RwC (wkR M c g (allF M) 1000000 p dn (1, fun _ => cr M c p)) M1) (h0 : M 120 0 = g) {R : Int → es_M → Prop} (hR : ∀ z N, z = y → Inv N → R z N) :
    es_Call (d + 6) 225 [.inr (.inr 91)] (es_upd M1 91 0 0) (fun y18 M17 => es_Call (d + 6) 226 [.inr (.inr 91), .inl c, .inl g, .inl y18] M17 (fun _ M19 => es_Call (d + 6) 225 [.inr (.inr 91)] M19 (fun y21 M20 => ((¬ dn = y21 → es_Call (d + 6) 229 [.inr (.inr 91), .inl p, .inl dn, .inl c] M20 (fun y23 M22 => ((y23 < 1000000 → ((0 ≤ (w32 ((w32 (dn * 37)) + p)) ∧ (w32 ((w32 (dn * 37)) + p)) < 37888) ∧ es_Call (d + 6) 234 [.inr (.inr 91), .inl p, .inl dn, .inl c] (es_upd M22 118 (w32 ((w32 (dn * 37)) + p)) y23) (fun _ M24 => R y23 M24))) ∧ (¬ y23 < 1000000 → R (-2) M22)))) ∧ (dn = y21 → ((0 ≤ (0 : Int) ∧ (0 : Int) < 60) ∧ ((¬ c = (M20 120 0) → es_Call (d + 6) 229 [.inr (.inr 91), .inl p, .inl dn, .inl c] M20 (fun y26 M25 => ((y26 < 1000000 → ((0 ≤ (w32 ((w32 (dn * 37)) + p)) ∧ (w32 ((w32 (dn * 37)) + p)) < 37888) ∧ es_Call (d + 6) 234 [.inr (.inr 91), .inl p, .inl dn, .inl c] (es_upd M25 118 (w32 ((w32 (dn * 37)) + p)) y26) (fun _ M27 => R y26 M27))) ∧ (¬ y26 < 1000000 → R (-2) M25)))) ∧ (c = (M20 120 0) → (((0 : Int) < 1000000 → ((0 ≤ (w32 ((w32 (dn * 37)) + p)) ∧ (w32 ((w32 (dn * 37)) + p)) < 37888) ∧ es_Call (d + 6) 234 [.inr (.inr 91), .inl p, .inl dn, .inl c] (es_upd M20 118 (w32 ((w32 (dn * 37)) + p)) 0) (fun _ M28 => R 0 M28))) ∧ (¬ (0 : Int) < 1000000 → R (-2) M20)))))))))) := by
  have hT := h.1
  have ha := hT.all
  have hn := hT.n
  refine s_m_all hT (repK k1) (s_m_fills hT (repK k1) ha.1 (by omega) (fun M4 f1 f2 f3 f4 f5 => ?_))
  have hR4 : RepM M M4 := by
    intro c' j q
    by_cases e : c' = 91
    · subst e
      rw [f2 j (by rintro rfl; cases q) (by rintro rfl; cases q)]; exact repK k1 _ _ q
    · rw [f1 c' (by rintro rfl; cases q) e]; exact repK k1 _ _ q
  have e58 : M4 58 = M1 58 := by rw [f1 58 (by decide) (by decide), es_upd_o 58 (by decide)]
  have e59 : M4 59 = M1 59 := by rw [f1 59 (by decide) (by decide), es_upd_o 59 (by decide)]
  have eo : ∀ c, c ≠ 91 → c ≠ 92 → c ≠ 118 → M4 c = M1 c := fun c' y1 _ y3 => by rw [f1 c' y3 y1, es_upd_o c' y1]
  have e91 : ∀ j, j ≠ 0 → j ≠ 38 → j ≠ 39 → M4 91 j = M1 91 j := fun j j1 j2 j3 => by rw [f2 j j2 j3, es_upd_j j1]
  have p37 : 0 ≤ p ∧ p < 37 := by
    rcases hp with z | z
    · omega
    · have := z.1; have := z.2; omega
  obtain ⟨x1, x2, x3⟩ := w37888 (a := dn) (b := p) ⟨d0, d1⟩ p37
  rw [x1]
  have go : ∀ m, m = rmF M c g (allF M) p dn → m < 1000000 → es_Call (d + 6) 234 [.inr (.inr 91), .inl p, .inl dn, .inl c] (es_upd M4 118 (dn * 37 + p) m) (fun _ M24 => R m M24) := by
    intro m hm m1
    obtain ⟨ey, er⟩ := hyes (by omega)
    have F : fOK M c g (allF M) (-1) (es_upd M4 118 (dn * 37 + p) m) := by
      intro d' s1 s2 s3 p' hp'
      have pr := stt_r hT hp'
      rw [es_upd_c]
      by_cases e : d' * 37 + p' = dn * 37 + p
      · rw [if_pos e]
        have e1 : d' = dn := by omega
        have e2 : p' = p := by omega
        rw [e1, e2, hm]
      · rw [if_neg e]; exact f5 d' s1 s2 s3 p' hp'
    refine s_m_walks hT (hR4.upd rfl) (by rw [es_upd_n (by decide)]; exact f3) (by rw [es_upd_n (by decide)]; exact f4) ha.1 (by omega) F hp d0 hd d1 (by rw [es_upd_s, hm]) (by omega) (fun M5 g1 g2 => hR _ _ (by rw [hm, ey]) ?_)
    exact walk_inv h k1 c0 c1 c2 (fun c' y1 y2 y3 => by rw [g1.1 c' y1 y2, es_upd_o c' y3]; exact eo c' y1 y2 y3) (fun j j1 j2 j3 j4 => by rw [g1.2 j j2, es_upd_n (by decide)]; exact e91 j j1 j3 j4) (row_new er (by rw [es_upd_o 58 (by decide)]; exact e58) (by rw [es_upd_o 59 (by decide)]; exact e59) g1 g2)
  have bad : ¬ rmF M c g (allF M) p dn < 1000000 → R (-2) M4 := by
    intro z
    obtain ⟨ey, a, b⟩ := hno z
    refine hR _ _ ey.symm ?_
    exact walk_inv h k1 c0 c1 c2 eo (fun j j1 _ j3 j4 => e91 j j1 j3 j4) (row_keep h a b k1 e58 e59 (e91 1 (by decide) (by decide) (by decide)) (by rw [f1 92 (by decide) (by decide), es_upd_o 92 (by decide)]))
  have asks : ¬ (dn = allF M ∧ cr M c p = g) → es_Call (d + 6) 229 [.inr (.inr 91), .inl p, .inl dn, .inl c] M4 (fun y23 M22 => ((y23 < 1000000 → ((0 ≤ dn * 37 + p ∧ dn * 37 + p < 37888) ∧ es_Call (d + 6) 234 [.inr (.inr 91), .inl p, .inl dn, .inl c] (es_upd M22 118 (dn * 37 + p) y23) (fun _ M24 => R y23 M24))) ∧ (¬ y23 < 1000000 → R (-2) M22))) := by
    intro na
    refine s_m_byNext hT hR4 f3 ha.1 (by omega) hp d0 d1 (fun q hq hs => ?_) (fun m m0 m1 b1 b2 => ?_)
    · rw [f5 _ (dn_in hd) (dn_nn d0) (by have := dn_nn (T := M) (q := q) (W := allF M) d0; omega) q (Or.inr ⟨hq, stp_go hT hp hq hs⟩)]
      exact rm_r hT (Or.inr hq)
    · have em := by_rm hT f5 hp d0 hd na m1 b1 b2
      exact ⟨fun z => ⟨⟨x2, x3⟩, go m em z⟩, fun z => bad (by omega)⟩
  refine s_m_all hT hR4 ⟨fun z => asks (fun w => z w.1), fun z => ⟨by decide, ?_⟩⟩
  rw [hR4 120 0 rfl, h0]
  refine ⟨fun w => asks (fun w' => w (by rw [← hc]; exact w'.2)), fun w => ⟨fun _ => ⟨⟨x2, x3⟩, go 0 ?_ (by decide)⟩, fun w' => absurd (by decide) w'⟩⟩
  rw [z, rm_a hT hp (by rw [hc]; exact w)]
theorem P_rest (h : Inv M) : Pair (d + 20) 30 244 [] M := by
  have hT := h.1
  have ha := hT.all
  have hn := hT.n
  have hh := hT.hn
  apply c_EveryStreet_rest
  refine ⟨fun z => ?_, fun z => c_Model_rest ⟨fun w => absurd (by rw [es_upd_j (by decide), hh.2.2]; exact z) w, fun _ => ⟨rfl, h.th⟩⟩⟩
  have dr := hdF_r hT (M 14 1 - 1).toNat (by omega)
  have ds := hd_sub (T := M) (M 14 1 - 1).toNat
  have h15 := hT.hd (i := M 14 1 - 1) (by omega) (by omega)
  have h0 := hT.hd (i := 0) (by omega) (by omega)
  have w1 : w32 (M 14 1 - 1) = M 14 1 - 1 := w32_m (by omega) (by omega)
  have w2 : w32 (M 14 1 - 2) = M 14 1 - 2 := w32_s (by omega) (by omega)
  -- the model, from the state p
  have md : ∀ (p : Int) (M2 : es_M) (y : Int), isS M p → cr M (M 15 (M 14 1 - 1)) p = M 15 (M 14 1 - 1) → ((M 14 1 ≤ 1 ∧ p = 36) ∨ (¬ M 14 1 ≤ 1 ∧ p = M 16 (M 14 1 - 2))) → offK M M2 → M2 60 5 = 0 → nextsOK M M2 → (∀ p q, isP M p → isP M q → M2 61 (p * 36 + q) = wyF M p q) → (¬ rmF M (M 15 (M 14 1 - 1)) (M 15 0) (allF M) p (hdF M (M 14 1 - 1).toNat) < 1000000 → y = -2 ∧ M2 58 = M 58 ∧ M2 59 = M 59) → (rmF M (M 15 (M 14 1 - 1)) (M 15 0) (allF M) p (hdF M (M 14 1 - 1).toNat) < 1000000 → y = rmF M (M 15 (M 14 1 - 1)) (M 15 0) (allF M) p (hdF M (M 14 1 - 1).toNat) ∧ RwC (wkR M (M 15 (M 14 1 - 1)) (M 15 0) (allF M) 1000000 p (hdF M (M 14 1 - 1).toNat) (1, fun _ => cr M (M 15 (M 14 1 - 1)) p)) M2) → es_Call (d + 20) 244 [.inr (.inr 91)] M2 (fun y' M3 => y' = y ∧ Inv M3) := by
    intro p M2 y hp hcr hcase k1 q0 q1 q2 hno hyes
    have hRm := repK k1
    apply c_Model_rest
    rw [hRm 91 41 rfl, hh.2.2]
    refine ⟨fun _ => s_m_doneByHand hT hRm ?_, fun w => absurd w z⟩
    rw [hRm 91 41 rfl, hh.2.2, w1, hRm 120 _ rfl, h15.2]
    refine ⟨by omega, fun le => ⟨by decide, ?_⟩, fun le => ?_⟩
    · rw [hRm 120 0 rfl, h0.2]
      have ep : p = 36 := by rcases hcase with c | c
                             · exact c.2
                             · exact absurd le c.1
      subst ep
      exact mdl_rest (d := d + 13) h k1 q0 q1 q2 hp dr.1 ds dr.2 hcr hno hyes h0.2 (fun z N e1 e2 => ⟨e1, e2⟩)
    · have ep : p = M 16 (M 14 1 - 2) := by rcases hcase with c | c
                                            · exact absurd c.1 le
                                            · exact c.2
      rw [w2]
      refine s_m_handPass hT hRm (by omega) (by omega) ?_
      rw [hRm 120 0 rfl, h0.2, ← ep]
      exact ⟨by decide, mdl_rest (d := d + 13) h k1 q0 q1 q2 hp dr.1 ds dr.2 hcr hno hyes h0.2 (fun z N e1 e2 => ⟨e1, e2⟩)⟩
  refine s_allServices hT (RepC.rf M) ⟨by decide, s_aimAt hT (RepC.rf M) h.2.2 ha.1 (by omega) (fun M1 o1 c0 c1 hP hW hB => ?_)⟩
  have hR1 := repP (RepC.rf M) o1
  rw [hR1 14 1 rfl, w2, hR1 16 _ rfl]
  refine ⟨fun le => s_handEnd hT hR1 (by omega) (s_doneByHand hT hR1 ?_), fun le => ⟨by omega, s_handEnd hT hR1 (by omega) (s_doneByHand hT hR1 ?_)⟩⟩
  · refine cls_tell (d := d + 13) h (c := M 15 (M 14 1 - 1)) (p := 36) o1 c0 c1 ⟨hP, hW, hB⟩ ha.1 (by omega) (Or.inl rfl) dr.1 ds dr.2 rfl rfl (fun z M2 k1 q0 q1 q2 r1 r2 => ?_) (fun z M2 k1 q0 q1 q2 r1 => ?_)
    · exact md 36 M2 _ (Or.inl rfl) rfl (Or.inl ⟨le, rfl⟩) k1 q0 q1 q2 (fun _ => ⟨rfl, r1, r2⟩) (fun w => absurd w z)
    · exact md 36 M2 _ (Or.inl rfl) rfl (Or.inl ⟨le, rfl⟩) k1 q0 q1 q2 (fun w => absurd z w) (fun _ => ⟨rfl, r1⟩)
  · have hpp := hT.hp (i := M 14 1 - 2) (by omega) (by omega)
    have hP2 : isP M (M 16 (M 14 1 - 2)) := hpp.1
    have hcr : cr M (M 15 (M 14 1 - 1)) (M 16 (M 14 1 - 2)) = M 15 (M 14 1 - 1) := by
      rw [cr_c hT hP2, hpp.2.2.2.1, show M 14 1 - 2 + 1 = M 14 1 - 1 by omega]
    refine cls_tell (d := d + 13) h (c := M 15 (M 14 1 - 1)) (p := M 16 (M 14 1 - 2)) o1 c0 c1 ⟨hP, hW, hB⟩ ha.1 (by omega) (Or.inr hP2) dr.1 ds dr.2 hcr (if_neg (isP36 hT hP2)) (fun z M2 k1 q0 q1 q2 r1 r2 => ?_) (fun z M2 k1 q0 q1 q2 r1 => ?_)
    · exact md _ M2 _ (Or.inr hP2) hcr (Or.inr ⟨le, rfl⟩) k1 q0 q1 q2 (fun _ => ⟨rfl, r1, r2⟩) (fun w => absurd w z)
    · exact md _ M2 _ (Or.inr hP2) hcr (Or.inr ⟨le, rfl⟩) k1 q0 q1 q2 (fun w => absurd z w) (fun _ => ⟨rfl, r1⟩)
end
