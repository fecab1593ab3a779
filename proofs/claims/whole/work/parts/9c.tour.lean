/-! TOURS (5): the class finds all of them -/
theorem e20 {E w k n : Int} (h : E * 20 + k = w * 20 + n) (k20 : 0 ≤ k ∧ k < 20) (n20 : 0 ≤ n ∧ n < 20) : E = w ∧ k = n := by omega
section
variable {d : Nat} {Q : Int → es_M → Prop} {T M : es_M}
theorem nxt_0 {k : Int} (hk : isK T k) (h : canDo T k ∧ goes T (poF T k)) : nxt T 0 k := by
  refine ⟨hk, h, fun z => ?_, fun i hi => ?_⟩
  · unfold ebit at z; rw [show (0 : Int).toNat = 0 from rfl, Nat.zero_testBit] at z; cases z
  · rw [show (0 : Int).toNat = 0 from rfl, Nat.zero_testBit] at hi; cases hi
theorem s_tourAll (hT : TI T) (hR : RepC T M) (hC : CacheOK T M) {a : Int} (h : ∀ M', offP M M' → M' 60 5 = 0 → nextsOK T M' → (∀ p q, isP T p → isP T q → M' 61 (p * 36 + q) = wyF T p q) → toursOK T a M' → Q 0 M') : es_Call (d + 7) 112 [.inr (.inr 67), .inl a] M Q := by
  have hn := hT.n
  have hv := hT.v
  have ha := hT.all
  apply m_Walks_tourAll
  intro G hG
  apply k_Walks_tourAll_0 hG
  refine s_prepare hT hR hC (fun M1 f1 f2 f3 f4 => s_allServices hT (repP hR f1) ?_)
  have w1 : w32 (w32 (allF T + 1) * 20) = (allF T + 1) * 20 := by rw [w32_1 (by omega) (by omega), w32_s (by omega) (by omega)]
  rw [w1]
  refine s_fill66 (by omega) (by omega) (fun M2 g1 g2 => ?_)
  have base : ∀ M' : es_M, (∀ c, c ≠ 66 → c ≠ 70 → c ≠ 71 → M' c = M1 c) → offP M M' ∧ M' 60 5 = 0 ∧ nextsOK T M' ∧ prepOK T a M' := by
    intro M' e
    refine ⟨f1.tr (fun c c1 _ _ _ c2 c3 => e c c1 c2 c3), by rw [e 60 (by decide) (by decide) (by decide)]; exact f2, fun p hp => ?_, ?_⟩
    · rw [e 62 (by decide) (by decide) (by decide), e 63 (by decide) (by decide) (by decide)]; exact f3 p hp
    · obtain ⟨a1, a2, a3, a4, a5⟩ := f4
      exact ⟨by rw [e 67 (by decide) (by decide) (by decide)]; exact a1, by rw [e 67 (by decide) (by decide) (by decide)]; exact a2, by rw [e 68 (by decide) (by decide) (by decide)]; exact a3, by rw [e 69 (by decide) (by decide) (by decide)]; exact a4, by rw [e 61 (by decide) (by decide) (by decide)]; exact a5⟩
  -- the entries
  have L2 : ∀ M', (∀ c, c ≠ 70 → M' c = M2 c) → behOK T M' → G 112 [lr 67, li a, li (allF T), li 0, none] [] M' := by
    intro M' e1 e2
    refine es_up (P := fun n => ∀ M3, (∀ c, c ≠ 66 → M3 c = M' c) → (∀ E k, 0 ≤ E → E ≤ allF T → isK T k → M3 66 (E * 20 + k) = ifc (k < n ∧ E = wth 0 (k / 2) ∧ canDo T k ∧ goes T (poF T k)) (dsF T a 36 (poF T k)) 1000000) → G 112 [lr 67, li a, li (allF T), li n, none] [] M3) (n := 2 * T 1 1) (by omega) ?_ ?_ M' (fun _ _ => rfl) (fun E k E0 E1 hk => ?_)
    · intro M3 a1 a2
      obtain ⟨b1, b2, b3, b4⟩ := base M3 (fun c c1 c2 _ => by rw [a1 c c1, e1 c c2, g1 c c1])
      apply k_Walks_tourAll_112 hG
      rw [b4.2.1]
      refine ⟨fun _ => ⟨by decide, ?_⟩, fun z => absurd (Int.le_refl _) z⟩
      obtain ⟨c1, c2, c3, c4⟩ := base (es_upd M3 71 0 0) (fun c c1 c2 c3 => by rw [es_upd_o c c3, a1 c c1, e1 c c2, g1 c c1])
      refine tour_loop hT hG (repP hR c1) c4 ?_ (fun E k E0 E1 hk => ?_) es_upd_s (fun M4 x1 x2 => ?_)
      · unfold behOK
        rw [es_upd_o 70 (by decide), a1 70 (by decide)]; exact e2
      · rw [es_upd_n (by decide), a2 E k E0 E1 hk]
        have pk : pc T a 36 [k] = dsF T a 36 (poF T k) := by show dsF T a 36 (poF T k) + 0 = _; omega
        have dr := ds_r hT (a := a) (p := 36) (q := poF T k) (Or.inl rfl)
        by_cases e : k < 2 * T 1 1 ∧ E = wth 0 (k / 2) ∧ canDo T k ∧ goes T (poF T k)
        · rw [ifc_y e]
          refine ⟨by omega, fun _ => ⟨[], ⟨nxt_0 hk e.2.2, e.2.1.symm⟩, pk⟩, fun _ => by rw [pk]; exact Int.le_refl _⟩
        · rw [ifc_n e]
          refine ⟨by decide, fun z => absurd z (by decide), fun hf => absurd ⟨hk.2, hf.2.symm, hf.1.2.1⟩ e⟩
      · obtain ⟨d1, d2, d3, d4⟩ := base M4 (fun c c1 c2 c3 => by rw [x1 c c1 c3, es_upd_o c c3, a1 c c1, e1 c c2, g1 c c1])
        exact h M4 d1 d2 d3 d4.2.2.2.2 x2
    · intro n n0 n1 ih M3 a1 a2
      obtain ⟨b1, b2, b3, b4⟩ := base M3 (fun c c1 c2 _ => by rw [a1 c c1, e1 c c2, g1 c c1])
      clear ha w1
      have np := poF_r hT n0 n1
      have hnP : isP T (poF T n) := ⟨np.1, np.2.1⟩
      have n20 : 0 ≤ n ∧ n < 20 := by omega
      have n10 : 0 ≤ n / 2 ∧ n / 2 < 10 := by omega
      have n31 : n / 2 < 31 := by omega
      have sh : es_shr n 1 = n / 2 := ei_shr1 (by omega) (by omega)
      have wn : w32 (n + 1) = n + 1 := w32_1 (by omega) (by omega)
      have nk : ¬ 2 * T 1 1 ≤ n := by omega
      have wr := wth_r (d := 0) (v := n / 2) (by decide) (by decide) n10.1 n10.2
      obtain ⟨x1, x2, x3⟩ := w20480 (a := wth 0 (n / 2)) (b := n) wr n20
      apply k_Walks_tourAll_112 hG
      rw [b4.2.1, sh, shl_v n10.1 n31, x1, wn]
      have fin : ∀ v, v = ifc (canDo T n ∧ goes T (poF T n)) (dsF T a 36 (poF T n)) 1000000 → ((0 ≤ wth 0 (n / 2) * 20 + n ∧ wth 0 (n / 2) * 20 + n < 20480) ∧ G 112 [lr 67, li a, li (allF T), li (n + 1), none] [] (es_upd M3 66 (wth 0 (n / 2) * 20 + n) v)) := by
        intro v hvv
        refine ⟨⟨x2, x3⟩, ih _ (fun c hc => by rw [es_upd_o c hc]; exact a1 c hc) (fun E k E0 E1 hk => ?_)⟩
        have k20 : 0 ≤ k ∧ k < 20 := by have := hk.1; have := hk.2; clear x1 x2 x3 hvv E1 wr; omega
        rw [es_upd_c]
        by_cases e : E * 20 + k = wth 0 (n / 2) * 20 + n
        · obtain ⟨eE, ek⟩ := e20 e k20 n20
          rw [if_pos e, hvv, ek]
          by_cases q : canDo T n ∧ goes T (poF T n)
          · rw [ifc_y q, ifc_y ⟨Int.lt_succ n, eE, q⟩]
          · rw [ifc_n q, ifc_n (fun z => q z.2.2)]
        · rw [if_neg e, a2 E k E0 E1 hk]
          by_cases q : k < n ∧ E = wth 0 (k / 2) ∧ canDo T k ∧ goes T (poF T k)
          · rw [ifc_y q, ifc_y ⟨Int.lt_trans q.1 (Int.lt_succ n), q.2⟩]
          · rw [ifc_n q, ifc_n]
            rintro ⟨z1, z2, z3⟩
            by_cases kn : k = n
            · rw [kn] at z2
              exact e (by rw [z2, kn])
            · exact q ⟨Int.lt_iff_le_and_ne.mpr ⟨Int.le_of_lt_add_one z1, kn⟩, z2, z3⟩
      refine ⟨fun z => absurd z nk, fun _ => ⟨n20, ?_⟩⟩
      by_cases q : canDo T n ∧ goes T (poF T n)
      · rw [(b4.2.2.1 n n0 n1).1 q]
        exact s_leastEntry hT (repP hR b1) b4.2.2.2.2 hnP q.2 (fin _ (by rw [ifc_y q]))
      · rw [(b4.2.2.1 n n0 n1).2 q]
        exact m_Walks_leastEntry (fun G' hG' => k_Walks_leastEntry_0 hG' ⟨fun z => absurd rfl z, fun _ => fin _ (by rw [ifc_n q])⟩)
    · rw [e1 66 (by decide), g2 _ (by have := hk.1; omega) (by have := hk.1; have := hk.2; omega), ifc_n (fun z => by have := hk.1; omega)]
  -- what is behind
  refine es_up (P := fun i => ∀ M3, (∀ c, c ≠ 70 → M3 c = M2 c) → (∀ v, 0 ≤ v → v < i → (0 ≤ M3 70 v ∧ M3 70 v < 1024) ∧ ∀ t : Nat, (M3 70 v).toNat.testBit t = (decide ((t : Int) < T 1 1) && (T 12 t).toNat.testBit v.toNat)) → G 31 [lr 67, li a, li (allF T), li i, none] [] M3) (n := T 1 1) hv.1 ?_ ?_ M2 (fun _ _ => rfl) (fun v v0 v1 => absurd v1 (by omega))
  · intro M3 a1 a2
    obtain ⟨b1, b2, b3, b4⟩ := base M3 (fun c c1 c2 _ => by rw [a1 c c2, g1 c c1])
    apply k_Walks_tourAll_31 hG
    rw [(repP hR b1) 1 1 rfl]
    exact ⟨fun _ => L2 M3 a1 a2, fun z => absurd (Int.le_refl _) z⟩
  · intro i i0 i1 ih M3 a1 a2
    obtain ⟨b1, b2, b3, b4⟩ := base M3 (fun c c1 c2 _ => by rw [a1 c c2, g1 c c1])
    apply k_Walks_tourAll_31 hG
    rw [(repP hR b1) 1 1 rfl]
    refine ⟨fun z => absurd z (by omega), fun _ => ⟨by omega, ?_⟩⟩
    refine es_up (P := fun j => ∀ M4, (∀ c, c ≠ 70 → M4 c = M2 c) → (∀ v, v ≠ i → M4 70 v = M3 70 v) → ((0 ≤ M4 70 i ∧ M4 70 i < 1024) ∧ ∀ t : Nat, (M4 70 i).toNat.testBit t = (decide ((t : Int) < j) && (T 12 t).toNat.testBit i.toNat)) → G 52 [lr 67, li a, li (allF T), li i, li j] [] M4) (n := T 1 1) hv.1 ?_ ?_ _ (fun c hc => by rw [es_upd_o c hc]; exact a1 c hc) (fun v hv' => es_upd_j hv') ?_
    · intro M4 c1 c2 c3
      obtain ⟨d1, -, -, -⟩ := base M4 (fun c x1 x2 _ => by rw [c1 c x2, g1 c x1])
      apply k_Walks_tourAll_52 hG
      rw [(repP hR d1) 1 1 rfl, w32_1 (k := i) (by omega) (by omega)]
      refine ⟨fun _ => ih M4 c1 (fun v v0 v1 => ?_), fun z => absurd (Int.le_refl _) z⟩
      by_cases e : v = i
      · subst e; exact c3
      · rw [c2 v e]; exact a2 v v0 (by omega)
    · intro j j0 j1 ih2 M4 c1 c2 c3
      obtain ⟨d1, -, -, -⟩ := base M4 (fun c x1 x2 _ => by rw [c1 c x2, g1 c x1])
      have hR4 := repP hR d1
      have ah := hT.ah (v := j) j0 (by omega)
      have al := ah0 hT j0 (show j < 10 by omega)
      have c31 := c3.1
      have fin : ∀ y : Int, ((0 ≤ y ∧ y < 1024) ∧ ∀ t : Nat, y.toNat.testBit t = (decide ((t : Int) < j + 1) && (T 12 t).toNat.testBit i.toNat)) → G 52 [lr 67, li a, li (allF T), li i, li (j + 1)] [] (es_upd M4 70 i y) := fun y hy => ih2 _ (fun c hc => by rw [es_upd_o c hc]; exact c1 c hc) (fun v hv' => by rw [es_upd_j hv']; exact c2 v hv') (by rw [es_upd_s]; exact hy)
      apply k_Walks_tourAll_52 hG
      rw [hR4 1 1 rfl, hR4 12 _ rfl, w32_1 (k := j) (by omega) (by omega)]
      have o0 : es_or (M4 70 i) 0 = M4 70 i := ei_or0 c31.1 (by omega)
      have o1 : es_or (M4 70 i) (es_shl 1 j) = wth (M4 70 i) j := ei_or1 c31.1 (by omega) j0 (by omega)
      rw [o0, o1]
      refine ⟨fun z => absurd z (by omega), fun _ => ⟨by omega, by omega, s_has ah.2.1 (by omega) i0 (by omega) (fun b => es_t1 ⟨by omega, fin _ ⟨wth_r c31.1 c31.2 j0 (by omega), fun t => ?_⟩⟩) (fun b => es_t0 ⟨by omega, fin _ ⟨c31, fun t => ?_⟩⟩)⟩⟩
      · rw [wth_b, c3.2 t]
        by_cases e : j.toNat = t
        · rw [show ((t : Nat) : Int) = j by omega, decide_eq_true e, show (T 12 j).toNat.testBit i.toNat = true from b]
          simp; omega
        · rw [decide_eq_false e, Bool.or_false]
          have : decide ((t : Int) < j) = decide ((t : Int) < j + 1) := by
            by_cases q : (t : Int) < j
            · rw [decide_eq_true q, decide_eq_true (by omega)]
            · rw [decide_eq_false q, decide_eq_false (by omega)]
          rw [this]
      · rw [c3.2 t]
        by_cases e : j.toNat = t
        · have b' : (T 12 j).toNat.testBit i.toNat = false := by cases q : (T 12 j).toNat.testBit i.toNat; rfl; exact absurd q b
          rw [show ((t : Nat) : Int) = j by omega, b', Bool.and_false, Bool.and_false]
        · have : decide ((t : Int) < j) = decide ((t : Int) < j + 1) := by
            by_cases q : (t : Int) < j
            · rw [decide_eq_true q, decide_eq_true (by omega)]
            · rw [decide_eq_false q, decide_eq_false (by omega)]
          rw [this]
    · rw [es_upd_s]
      refine ⟨by decide, fun t => ?_⟩
      rw [decide_eq_false (by omega)]
      show (0 : Nat).testBit t = _
      rw [Nat.zero_testBit]; rfl
end
