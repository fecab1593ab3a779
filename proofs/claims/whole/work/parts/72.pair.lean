/-! PAIRS OF CALLS: pair (2) -/
section
variable {d : Nat} {M : es_M}
theorem pair_step {Q : Int → es_M → Prop} {G : Nat → es_L → List AV → es_M → Prop} (hG : es_Cl cd_Model_pair st_Model_pair (some .int) (d + 1) Q G) {M3 : es_M} {pd : Nat → Int} {fa : Int → Int} {lf : Nat → Nat} {s a b : Nat} {t : Int} (s4 : s < 4096) (a1 : a < b) (b1 : b < 12)
    (hl : ∀ c : Int, 0 ≤ c → c < 12 → es_and (es_and (s : Int) (es_xor (es_shl 1 (a : Nat)) (-1))) (es_xor (es_shl 1 c) (-1)) = (lf c.toNat : Nat) ∧ lf c.toNat < 4096)
    (hF : ∀ j, 0 ≤ j → j < 144 → M3 111 j = fa j) (hfr : ∀ j, 0 ≤ j → j < 144 → 0 ≤ fa j ∧ fa j ≤ 1000000) (hp : ∀ (s' : Nat) (Q' : Int → es_M → Prop), s' < 4096 → Q' (pd s') M3 → es_Call (d + 1) 209 [.inr (.inr 91), .inl (s' : Nat)] M3 Q') (hpr : ∀ s', s' < 4096 → 0 ≤ pd s' ∧ pd s' ≤ 1000000)
    (e4 : s.testBit b = true) (e5 : fa ((a : Int) * 12 + b) + pd (lf b) = pd s) (e6 : ∀ c : Nat, c < b → a < c → s.testBit c = true → pd s < fa ((a : Int) * 12 + c) + pd (lf c))
    (r0 : 0 ≤ M3 91 1) (r1 : M3 91 1 < 100)
    (hfin : ∀ M5, (∀ c, c ≠ 91 → c ≠ 92 → M5 c = M3 c) → (∀ j, j ≠ 1 → M5 91 j = M3 91 j) → M5 91 1 = M3 91 1 + 2 → M5 92 (M3 91 1) = (a : Int) → M5 92 (M3 91 1 + 1) = (b : Int) → (∀ j, j < M3 91 1 → M5 92 j = M3 92 j) → G 37 [lr 91, li (lf b : Nat), li t, li (pd (lf b)), none, none] [] M5) :
    G 53 [lr 91, li (s : Nat), li t, li (pd s), li (a : Nat), li ((a : Int) + 1)] [] M3 := by
  refine es_upl (P := fun c => G 53 [lr 91, li (s : Nat), li t, li (pd s), li (a : Nat), li c] [] M3) (lo := (a : Int) + 1) (n := (b : Int)) (by omega) ?_ ?_
  · apply k_Model_pair_53 hG
    obtain ⟨p1, p2, p3⟩ := w144 (a := (a : Int)) (b := (b : Int)) (by omega) (by omega)
    obtain ⟨l1, l2⟩ := hl (b : Int) (by omega) (by omega)
    rw [Int.toNat_natCast] at l1 l2
    rw [p1, es_and_as, l1]
    have fr := hfr _ p2 p3
    have pdr := hpr _ l2
    refine s_m_has (by omega) (by omega) (by omega) (by omega) (fun _ => es_t1 ⟨⟨p2, p3⟩, hp _ _ l2 ?_⟩) (fun y => absurd (by unfold ebit; rw [Int.toNat_natCast, Int.toNat_natCast]; exact e4) y)
    rw [hF _ p2 p3, w32_s (by omega) (by omega)]
    refine ⟨fun _ => s_m_enters' (by omega) (by omega) (fun M4 c1 c2 c3 c4 c5 => s_m_enters' (by omega) (by omega) (fun M5 d1 d2 d3 d4 d5 => ⟨⟨p2, p3⟩, ?_⟩)), fun y => absurd e5 y⟩
    rw [d1 111 (by decide) (by decide), c1 111 (by decide) (by decide), hF _ p2 p3, w32_s (by omega) (by omega), show pd s - fa ((a : Int) * 12 + (b : Int)) = pd (lf b) by omega]
    refine hfin M5 (fun c q1 q2 => by rw [d1 c q1 q2, c1 c q1 q2]) (fun j q => by rw [d2 j q, c2 j q]) (by omega) ?_ ?_ (fun j hj => ?_)
    · rw [d5 _ (by omega)]; exact c4
    · rw [← c3]; exact d4
    · rw [d5 _ (by omega), c5 _ (by omega)]
  · intro c c0 c1 ih2
    apply k_Model_pair_53 hG
    obtain ⟨p1, p2, p3⟩ := w144 (a := (a : Int)) (b := c) (by omega) (by omega)
    obtain ⟨l1, l2⟩ := hl c (by omega) (by omega)
    rw [p1, l1, w32_1 (k := c) (by omega) (by omega)]
    have fr := hfr _ p2 p3
    have pdr := hpr _ l2
    refine s_m_has (by omega) (by omega) (by omega) (by omega) (fun q => es_t1 ⟨⟨p2, p3⟩, hp _ _ l2 ?_⟩) (fun _ => es_t0 ih2)
    have q : s.testBit c.toNat = true := by unfold ebit at q; rw [Int.toNat_natCast] at q; exact q
    have e7 := e6 c.toNat (by omega) (by omega) q
    rw [show ((a : Int) * 12 + (c.toNat : Nat) : Int) = (a : Int) * 12 + c by omega] at e7
    rw [hF _ p2 p3, w32_s (by omega) (by omega)]
    exact ⟨fun y => by omega, fun _ => ih2⟩
theorem P_pair (h : Inv M) : Pair (d + 20) 14 208 [] M := by
  have hT := h.1
  have hv := hT.v
  have hn := hT.n
  obtain ⟨o1, o2, o3⟩ := hT.od2
  have pr := pdF_r hT o2
  apply c_EveryStreet_pair
  refine s_leastPairs hT (RepC.rf M) (fun M1 f1 f2 f3 => ?_)
  -- the model's beginning, from a memory whose row may differ
  have hRm : ∀ N : es_M, (∀ c, c ≠ 76 → c ≠ 77 → c ≠ 58 → c ≠ 59 → N c = M c) → RepM M (es_upd N 91 0 0) := by
    intro N hN c j q
    by_cases e : c = 91
    · subst e
      rw [es_upd_j (by rintro rfl; cases q), hN 91 (by decide) (by decide) (by decide) (by decide)]
    · rw [es_upd_o c e, hN c (by rintro rfl; cases q) (by rintro rfl; cases q) (by rintro rfl; cases q) (by rintro rfl; cases q)]
  refine ⟨fun z => ?_, fun z => ?_⟩
  · -- the model behind the class
    have fin : ∀ (N : es_M) (K : Nat), (∀ c, c ≠ 76 → c ≠ 77 → c ≠ 58 → c ≠ 59 → N c = M c) → sqN M K = 0 → (∀ k, k < K → sqN M k ≠ 0) → N 58 1 = 2 * K → (∀ k : Nat, k < K → N 59 (2 * (k : Int)) = ((ntzN (sqN M k) : Nat) : Int) ∧ N 59 (2 * (k : Int) + 1) = foF M (sqN M k)) → es_Call (d + 20) 208 [.inr (.inr 91)] N (fun y' M2 => y' = pdF (farF M) (odN M) ∧ Inv M2) := by
      intro N K hN hK hk hr1 hr2
      have K6 : K ≤ 6 := by
        have key : ∀ k, k ≤ K → sqI M k := by
          intro k
          induction k with
          | zero => intro _; exact sqI_0 hT z
          | succ k ih => intro hk'; exact sqI_s hT (ih (by omega)) (hk k (by omega))
        have := (key K (Nat.le_refl _)).2.2.1
        have := pc12 o2
        omega
      have key : ∀ k, k ≤ K → sqI M k := by
        intro k
        induction k with
        | zero => intro _; exact sqI_0 hT z
        | succ k ih => intro hk'; exact sqI_s hT (ih (by omega)) (hk k (by omega))
      apply m_Model_pair
      intro G hG
      apply k_Model_pair_0 hG
      refine s_m_measures hT (hRm N hN) fun M2 g1 g2 => s_m_odd hT (rep111 (hRm N hN) g1) ?_
      rw [o1]
      refine s_m_paired (d := d + 5) hT g2 12 (odN M) _ o2 (pc12 o2) ⟨fun _ => ?_, fun w => absurd z w⟩
      have hR2 := rep111 (hRm N hN) g1
      -- state: the row's first 2 k numbers
      have loop : ∀ M3, (∀ c, c ≠ 91 → c ≠ 92 → M3 c = M2 c) → (∀ j, j ≠ 1 → M3 91 j = M2 91 j) → M3 91 1 = 2 * 0 → (∀ k : Nat, (k : Int) < 0 → M3 92 (2 * (k : Int)) = ((ntzN (sqN M k) : Nat) : Int) ∧ M3 92 (2 * (k : Int) + 1) = foF M (sqN M k)) → G 37 [lr 91, li (sqN M (0 : Int).toNat : Nat), li (pdF (farF M) (odN M)), li (pdF (farF M) (sqN M (0 : Int).toNat)), none, none] [] M3 := by
        refine es_up (P := fun w => ∀ M3, (∀ c, c ≠ 91 → c ≠ 92 → M3 c = M2 c) → (∀ j, j ≠ 1 → M3 91 j = M2 91 j) → M3 91 1 = 2 * w → (∀ k : Nat, (k : Int) < w → M3 92 (2 * (k : Int)) = ((ntzN (sqN M k) : Nat) : Int) ∧ M3 92 (2 * (k : Int) + 1) = foF M (sqN M k)) → G 37 [lr 91, li (sqN M w.toNat : Nat), li (pdF (farF M) (odN M)), li (pdF (farF M) (sqN M w.toNat)), none, none] [] M3) (n := K) (by omega) ?_ ?_
        · intro M3 a1 a2 a3 a4
          apply k_Model_pair_37 hG
          rw [Int.toNat_natCast, hK]
          refine ⟨fun _ => ⟨rfl, ?_⟩, fun w => absurd rfl w⟩
          have fr : ∀ c, c ≠ 91 → c ≠ 92 → c ≠ 111 → M3 c = N c := fun c b1 b2 b3 => by rw [a1 c b1 b2, g1 c b3, es_upd_o c b1]
          have fr2 : ∀ c, c ≠ 91 → c ≠ 92 → c ≠ 111 → c ≠ 76 → c ≠ 77 → c ≠ 58 → c ≠ 59 → M3 c = M c := fun c b1 b2 b3 b4 b5 b6 b7 => by rw [fr c b1 b2 b3, hN c b4 b5 b6 b7]
          have fr3 : ∀ j, j ≠ 0 → j ≠ 1 → M3 91 j = M 91 j := fun j b1 b2 => by rw [a2 j b2, g1 91 (by decide), es_upd_j b1, hN 91 (by decide) (by decide) (by decide) (by decide)]
          refine h.ask (fun c j q => ?_) ?_ (h.2.2.congr rfl rfl ?_ ?_ ?_ ?_)
          · by_cases c1 : c = 91
            · subst c1
              refine fr3 j ?_ ?_ <;> (rintro rfl; cases q)
            · rw [fr2 c c1 ?_ ?_ ?_ ?_ ?_ ?_] <;> (rintro rfl; cases q)
          · unfold RowEq
            rw [fr 58 (by decide) (by decide) (by decide), fr 59 (by decide) (by decide) (by decide), hr1, a3]
            refine ⟨⟨rfl, by omega, by omega⟩, fun i i0 i1 => ?_⟩
            have q1 := a4 (i / 2).toNat (by omega)
            have q2 := hr2 (i / 2).toNat (by omega)
            rw [toNI (by omega)] at q1 q2
            rcases (show i = 2 * (i / 2) ∨ i = 2 * (i / 2) + 1 by omega) with e | e
            · rw [e, q1.1, q2.1]
            · rw [e, q1.2, q2.2]
          · rw [fr2 60 (by decide) (by decide) (by decide) (by decide) (by decide) (by decide) (by decide)]
          · exact fr2 61 (by decide) (by decide) (by decide) (by decide) (by decide) (by decide) (by decide)
          · exact fr2 62 (by decide) (by decide) (by decide) (by decide) (by decide) (by decide) (by decide)
          · exact fr2 63 (by decide) (by decide) (by decide) (by decide) (by decide) (by decide) (by decide)
        · intro w w0 w1 ih M3 a1 a2 a3 a4
          obtain ⟨W, rfl⟩ := Int.eq_ofNat_of_zero_le w0
          rw [show ((W : Int) + 1).toNat = W + 1 by omega] at ih
          rw [Int.toNat_natCast]
          have hnz := hk W (by omega)
          have hI := key W (by omega)
          obtain ⟨b, e1, e2, e3, e4, e5, e6⟩ := sqI_fo hI hnz
          have es : sqN M (W + 1) = lfN (sqN M W) b := by
            show lfN (sqN M W) (foF M (sqN M W)).toNat = _
            rw [e1, Int.toNat_natCast]
          have s4 := hI.1
          have sp := hI.2.2.2
          rw [es] at ih
          have hF : ∀ j, 0 ≤ j → j < 144 → M3 111 j = farF M j := fun j j0 j1 => by rw [a1 111 (by decide) (by decide)]; exact g2 j j0 j1
          have hp : ∀ (s' : Nat) (Q' : Int → es_M → Prop), s' < 4096 → Q' (pdF (farF M) s') M3 → es_Call (d + 19) 209 [.inr (.inr 91), .inl (s' : Nat)] M3 Q' := fun s' Q' h1 h2 => s_m_paired (d := d + 5) hT hF 12 s' Q' h1 (pc12 h1) h2
          have hpr : ∀ s', s' < 4096 → 0 ≤ pdF (farF M) s' ∧ pdF (farF M) s' ≤ 1000000 := fun s' h1 => pdF_r hT h1
          have hfr : ∀ j, 0 ≤ j → j < 144 → 0 ≤ farF M j ∧ farF M j ≤ 1000000 := fun j j0 j1 => farF_r hT j0 j1
          obtain ⟨n1, n2, -⟩ := ntz_sp (x := sqN M W) (Nat.pos_of_ne_zero hnz) s4
          have hl : ∀ c : Int, 0 ≤ c → c < 12 → _ := fun c k0 k1 => es_lf s4 (Nat.pos_of_ne_zero hnz) k0 k1
          have W6 : (W : Int) < 6 := by clear hl ih n1 n2 es e1 e5 e6 hI; omega
          apply k_Model_pair_37 hG
          refine ⟨fun y => absurd (Int.ofNat.inj y) hnz, fun _ => s_ntz (by have := Nat.pos_of_ne_zero hnz; exact Int.ofNat_lt.mpr this) (Int.ofNat_lt.mpr s4) ?_⟩
          have wn : w32 (((ntzN (sqN M W) : Nat) : Int) + 1) = ((ntzN (sqN M W) : Nat) : Int) + 1 := by
            generalize ntzN (sqN M W) = a at n1
            clear hl ih n2 es e1 e5 e6 hI e3 e4 hnz s4 sp
            exact w32_1 (by omega) (by omega)
          rw [Int.toNat_natCast, wn]
          have rr : 0 ≤ M3 91 1 ∧ M3 91 1 < 100 := by
            rw [a3]
            clear hl ih n1 n2 es e1 e5 e6 hI e3 e4 hnz s4 sp wn
            omega
          refine pair_step (d := d + 18) (b := b) (lf := lfN (sqN M W)) hG s4 e3 e2 hl hF hfr hp hpr e4 ?_ ?_ rr.1 rr.2 ?_
          · rw [← e5]; rw [Int.natCast_add, Int.natCast_mul]; rfl
          · intro c h1 h2 h3
            have := e6 c h1 h2 h3
            rw [Int.natCast_add, Int.natCast_mul] at this
            exact this
          · intro M5 d1 d2 d3 d4 d5 d6
            refine ih M5 (fun c q1 q2 => by rw [d1 c q1 q2, a1 c q1 q2]) (fun j q => by rw [d2 j q, a2 j q]) ?_ (fun k hk' => ?_)
            · rw [d3, a3]; clear hl ih n1 n2 es e1 e5 e6 hI e3 e4 hnz s4 sp wn d4 d5 d6; omega
            · by_cases e : k = W
              · subst e
                rw [a3] at d4 d5
                exact ⟨d4, d5.trans e1.symm⟩
              · have k2 : (k : Int) < W := by clear hl ih n1 n2 es e1 e5 e6 hI e3 e4 hnz s4 sp wn d4 d5 d6 hk hr2 a4; omega
                have k3 : 2 * (k : Int) < M3 91 1 ∧ 2 * (k : Int) + 1 < M3 91 1 := by rw [a3]; clear hl ih n1 n2 es e1 e5 e6 hI e3 e4 hnz s4 sp wn d4 d5 d6 hk hr2 a4; omega
                rw [d6 _ k3.1, d6 _ k3.2]
                exact a4 k k2
      rw [show sqN M (0 : Int).toNat = odN M from rfl] at loop
      exact loop _ (fun c a _ => es_upd_o c a) (fun j a => es_upd_j a) es_upd_s (fun k hk' => by omega)
    -- the class's row
    apply m_Bounds_tellPairs
    intro G hG
    apply k_Bounds_tellPairs_0 hG
    refine c_Row_clear ?_
    rw [es_upd_n (by decide), (rep77 (RepC.rf M) f1) 1 3 rfl, o1]
    refine es_up (P := fun w => ∀ M', (∀ c, c ≠ 58 → c ≠ 59 → M' c = M1 c) → sqI M w.toNat → (∀ k, k < w.toNat → sqN M k ≠ 0) → M' 58 1 = 2 * w → (∀ k : Nat, (k : Int) < w → M' 59 (2 * (k : Int)) = ((ntzN (sqN M k) : Nat) : Int) ∧ M' 59 (2 * (k : Int) + 1) = foF M (sqN M k)) → G 14 [lr 75, lr 58, li (sqN M w.toNat : Nat), li w, none, none] [] M') (n := 7) (by decide) ?_ ?_ _ (fun c a _ => es_upd_o c a) (sqI_0 hT z) (fun k hk => absurd hk (Nat.not_lt_zero k)) es_upd_s (fun k hk => by omega)
    · intro M' _ hI _ _ _
      have h3 : pcN 18 (sqN M 7) + 2 * 7 = pcN 18 (odN M) := hI.2.2.1
      have := pc12 o2
      omega
    · intro w w0 w1 ih M' a1 hI hk a3 a4
      obtain ⟨W, rfl⟩ := Int.eq_ofNat_of_zero_le w0
      rw [show ((W : Int) + 1).toNat = W + 1 by omega] at ih
      rw [Int.toNat_natCast] at hI hk ⊢
      apply k_Bounds_tellPairs_14 hG
      refine ⟨fun y => absurd y (by omega), fun _ => ⟨fun y => ?_, fun y => ?_⟩⟩
      · exact fin M' W (fun c b1 b2 b3 b4 => by rw [a1 c b3 b4, f1 c b1 b2]) (by omega) hk a3 (fun k hk' => a4 k (by omega))
      · have hnz : sqN M W ≠ 0 := by omega
        obtain ⟨b, e1, e2, e3, e4, e5, -⟩ := sqI_fo hI hnz
        have hI2 := sqI_s hT hI hnz
        have es : sqN M (W + 1) = lfN (sqN M W) b := by
          show lfN (sqN M W) (foF M (sqN M W)).toNat = _
          rw [e1, Int.toNat_natCast]
        have s4 := hI.1
        have hF : ∀ j, 0 ≤ j → j < 144 → M' 76 j = farF M j := fun j j0 j1 => by rw [a1 76 (by decide) (by decide)]; exact f2 j j0 j1
        have le : sqN M W ≤ odN M := by
          have : sqN M W = sqN M W &&& odN M := by
            apply Nat.eq_of_testBit_eq
            intro i
            rw [Nat.testBit_and]
            cases q : (sqN M W).testBit i
            · rfl
            · rw [subN_bit hI.2.1 q]; rfl
          rw [this]; exact Nat.and_le_right
        have hS : sumsOK M M' (sqN M W) := fun s b1 b2 b3 b4 => by rw [a1 77 (by decide) (by decide)]; exact f3 s (by omega) b2 b3 b4
        have hev := hI.2.2.1
        refine s_ntz (by omega) (by omega) (s_firstOther hT hF (by omega) s4 hI.2.1 (by omega) hS ?_)
        rw [show foN (farF M) (pdF (farF M)) (sqN M W) 12 = (b : Int) from e1, Int.toNat_natCast]
        obtain ⟨l1, l2⟩ := es_lf s4 (by omega) (b := (b : Int)) (by omega) (by omega)
        rw [Int.toNat_natCast] at l1 l2
        rw [es_and_as, l1, w32_1 (by omega) (by omega)]
        refine ⟨fun _ => s_put' (by omega) (by omega) (fun M4 c1 c2 c3 c4 c5 => s_put' (by omega) (by omega) (fun M5 d1 d2 d3 d4 d5 => ?_)), fun y => by omega⟩
        rw [← es]
        refine ih M5 (fun c q1 q2 => by rw [d1 c q1 q2, c1 c q1 q2, a1 c q1 q2]) hI2 (fun k hk' => ?_) (by omega) (fun k hk' => ?_)
        · by_cases e : k = W
          · subst e; exact hnz
          · exact hk k (by omega)
        · by_cases e : k = W
          · subst e
            rw [e1]
            refine ⟨?_, ?_⟩
            · rw [d5 _ (by omega), ← a3]; exact c4
            · rw [show 2 * (k : Int) + 1 = M4 58 1 by omega]; exact d4
          · rw [d5 _ (by omega), d5 _ (by omega), c5 _ (by omega), c5 _ (by omega)]
            exact a4 k (by omega)
  · apply m_Model_pair
    intro G hG
    apply k_Model_pair_0 hG
    have hN : ∀ c, c ≠ 76 → c ≠ 77 → c ≠ 58 → c ≠ 59 → M1 c = M c := fun c b1 b2 _ _ => f1 c b1 b2
    refine s_m_measures hT (hRm M1 hN) fun M2 g1 g2 => s_m_odd hT (rep111 (hRm M1 hN) g1) ?_
    rw [o1]
    refine s_m_paired (d := d + 5) hT g2 12 (odN M) _ o2 (pc12 o2) ⟨fun w => absurd w z, fun _ => ⟨rfl, ?_⟩⟩
    exact h.cells (fun c c1 c2 => by rw [g1 c (by omega), es_upd_o c c2, f1 c (by omega) (by omega)]) (fun j hj => by rw [g1 91 (by decide), es_upd_j hj, f1 91 (by decide) (by decide)])
end
