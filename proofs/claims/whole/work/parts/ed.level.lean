/-! LEVEL (4): the class's search -/
theorem TI.gr {T : es_M} (h : TI T) : GR (2 * T 1 0).toNat (og T) (gl T) (ln T) (goes T) := by
  have hn := h.n
  refine ⟨by omega, fun p p0 p1 => ?_⟩
  obtain ⟨a, b, c, e, -⟩ := h.ps (p := p) p0 (by omega)
  refine ⟨a, b, c, fun z => ?_⟩
  rcases e with e | e
  · exact absurd e z.1
  · exact e
/-- how the class writes an arc -/
def ckF (k : Int) : Int := if k % 2 = 0 then k / 2 else k / 2 + 36
section
variable {d : Nat} {Q : Int → es_M → Prop} {T M : es_M}
theorem s_fill81 {v : Int} (h : ∀ M', (∀ c, c ≠ 81 → M' c = M c) → (∀ j, 0 ≤ j → j < 12 → M' 81 j = v) → Q 0 M') : es_Call (d + 1) 290 [.inr (.inr 81), .inl v] M Q := by
  apply m_Arrays_fill_0_81
  intro G hG
  apply k_Arrays_fill_0_81_0 hG
  refine es_up (P := fun k => ∀ M', (∀ c, c ≠ 81 → M' c = M c) → (∀ j, 0 ≤ j → j < k → M' 81 j = v) → G 5 [lr 81, li v, li k, li 12] [] M') (n := 12) (by decide) ?_ ?_ M (fun _ _ => rfl) (fun j j0 j1 => by omega)
  · intro M' f1 f2
    apply k_Arrays_fill_0_81_5 hG
    exact ⟨fun _ => h M' f1 f2, fun z => absurd (Int.le_refl _) z⟩
  · intro k k0 k1 ih M' f1 f2
    apply k_Arrays_fill_0_81_5 hG
    rw [w32_1 (by omega) (by omega)]
    refine ⟨fun z => absurd z (by omega), fun _ => ⟨by omega, ih _ (fun c hc => by rw [es_upd_o c hc, f1 c hc]) (fun j j0 j1 => ?_)⟩⟩
    rw [es_upd_c]
    by_cases e : j = k
    · rw [if_pos e]
    · rw [if_neg e]; exact f2 j j0 (by omega)
theorem s_nearer (hT : TI T) (hR : RepC T M) {p r : Int} (hp : isP T p) (hr : r = 0 ∨ r = 1) (hg : goes T p) (bd : ∀ x, 0 ≤ x → x < 12 → -1000000 ≤ M 81 x ∧ M 81 x ≤ 1000000)
    (k1 : M 81 (afr (og T) (gl T) (2 * p + r)) < 1000000 → M 81 (afr (og T) (gl T) (2 * p + r)) + awt (ln T) (2 * p + r) < M 81 (ato (og T) (gl T) (2 * p + r)) → Q 1 (es_upd (es_upd M 81 (ato (og T) (gl T) (2 * p + r)) (M 81 (afr (og T) (gl T) (2 * p + r)) + awt (ln T) (2 * p + r))) 82 (ato (og T) (gl T) (2 * p + r)) (p + 36 * r)))
    (k0 : ¬ (M 81 (afr (og T) (gl T) (2 * p + r)) < 1000000 ∧ M 81 (afr (og T) (gl T) (2 * p + r)) + awt (ln T) (2 * p + r) < M 81 (ato (og T) (gl T) (2 * p + r))) → Q 0 M) : es_Call (d + 2) 147 [.inr (.inr 79), .inl p, .inl (p + 36 * r)] M Q := by
  have hn := hT.n
  have hp36 : 0 ≤ p ∧ p < 36 := ⟨hp.1, by have := hp.2; omega⟩
  obtain ⟨oo, gg, -, ll, -⟩ := hT.ps hp.1 hp.2
  have lr : 1 ≤ ln T p ∧ ln T p ≤ 99 := by
    rcases ll with z | z
    · exact absurd z hg.1
    · exact z
  apply m_Level_comeNearer
  intro G hG
  apply k_Level_comeNearer_0 hG
  rcases hr with rfl | rfl
  · have e1 : afr (og T) (gl T) (2 * p + 0) = og T p := by unfold afr; rw [if_pos (by omega), show (2 * p + 0) / 2 = p by omega]
    have e2 : ato (og T) (gl T) (2 * p + 0) = gl T p := by unfold ato; rw [if_pos (by omega), show (2 * p + 0) / 2 = p by omega]
    have e3 : awt (ln T) (2 * p + 0) = ln T p := by unfold awt; rw [if_pos (by omega), show (2 * p + 0) / 2 = p by omega]
    rw [e1, e2, e3] at k1 k0
    have bo := bd (og T p) oo.1 oo.2
    have bg := bd (gl T p) gg.1 gg.2
    refine ⟨fun z => absurd z (by omega), fun _ => k_Level_comeNearer_11 hG (es_t1 (s_origin hR hp36.1 hp36.2 (k_Level_comeNearer_35 hG (es_t1 (s_goal hR hp36.1 hp36.2 (k_Level_comeNearer_60 hG ⟨oo, es_t1 (s_length hR hp36.1 hp36.2 (k_Level_comeNearer_93 hG ⟨oo, ?_⟩))⟩))))))⟩
    rw [w32_s (by omega) (by omega)]
    exact ⟨fun z => k_Level_comeNearer_120 hG ⟨es_b0, k0 (fun y => absurd y.1 (by omega))⟩, fun z => ⟨gg, fun z2 => ⟨gg, gg, es_b1, k1 (by omega) z2⟩, fun z2 => k_Level_comeNearer_120 hG ⟨es_b0, k0 (fun y => z2 y.2)⟩⟩⟩
  · have e1 : afr (og T) (gl T) (2 * p + 1) = gl T p := by unfold afr; rw [if_neg (by omega), show (2 * p + 1) / 2 = p by omega]
    have e2 : ato (og T) (gl T) (2 * p + 1) = og T p := by unfold ato; rw [if_neg (by omega), show (2 * p + 1) / 2 = p by omega]
    have e3 : awt (ln T) (2 * p + 1) = - ln T p := by unfold awt; rw [if_neg (by omega), show (2 * p + 1) / 2 = p by omega]
    rw [e1, e2, e3] at k1 k0
    have bo := bd (og T p) oo.1 oo.2
    have bg := bd (gl T p) gg.1 gg.2
    refine ⟨fun _ => k_Level_comeNearer_11 hG (es_t0 (s_goal hR hp36.1 hp36.2 (k_Level_comeNearer_35 hG (es_t0 (s_origin hR hp36.1 hp36.2 (k_Level_comeNearer_60 hG ⟨gg, es_t0 (s_length hR hp36.1 hp36.2 (k_Level_comeNearer_93 hG ⟨gg, ?_⟩))⟩)))))), fun z => absurd (by omega) z⟩
    rw [w32_s (k := - ln T p) (by omega) (by omega), w32_s (by omega) (by omega)]
    exact ⟨fun z => k_Level_comeNearer_120 hG ⟨es_b0, k0 (fun y => absurd y.1 (by omega))⟩, fun z => ⟨oo, fun z2 => ⟨oo, oo, es_b1, k1 (by omega) z2⟩, fun z2 => k_Level_comeNearer_120 hG ⟨es_b0, k0 (fun y => z2 y.2)⟩⟩⟩
def CBs (M : es_M) (b : Int → Int) : Prop := ∀ x, 0 ≤ x → x < 12 → 0 ≤ b x → M 82 x = ckF (b x)
def off8 (M M' : es_M) : Prop := ∀ c : Nat, c ≠ 81 → c ≠ 82 → M' c = M c
theorem off8.rep (hR : RepC T M) {M' : es_M} (h : off8 M M') : RepC T M' := by
  intro c j q
  have h1 : c ≠ 81 := fun z => by subst z; have : persC 81 j = false := rfl; rw [this] at q; cases q
  have h2 : c ≠ 82 := fun z => by subst z; have : persC 82 j = false := rfl; rw [this] at q; cases q
  rw [h c h1 h2]; exact hR c j q
theorem BIs.bd {n : Nat} {o g w : Int → Int} {go src : Int → Prop} {f dd b : Int → Int} {t : Nat} {tau : Int → Nat} (h : BIs n o g w go src f t dd b tau) (ht : t ≤ 1000) : ∀ x, 0 ≤ x → x < 12 → -1000000 ≤ dd x ∧ dd x ≤ 1000000 := by
  intro x x0 x1
  rcases (h x x0 x1).2.2 with q | ⟨q1, q2, -⟩
  · omega
  · omega
/-- what comes behind the first of two arcs -/
def aftG (G : Nat → es_L → List AV → es_M → Prop) (d : Nat) (bs c i p y4 : Int) (M4 : es_M) : Prop := ((0 ≤ bs + p ∧ bs + p < 396) ∧ ((M4 80 (bs + p) ≤ 0 → ((¬ c = 0 → G 37 [lr 79, none, li bs, li 1, li i, li (p + 1), none, none] [] M4) ∧ (c = 0 → ((¬ y4 = 0 → G 37 [lr 79, none, li bs, li 1, li i, li (p + 1), none, none] [] M4) ∧ (y4 = 0 → (((0 : Int) = 0 → G 37 [lr 79, none, li bs, li 0, li i, li (p + 1), none, none] [] M4) ∧ (¬ (0 : Int) = 0 → G 37 [lr 79, none, li bs, li 1, li i, li (p + 1), none, none] [] M4))))))) ∧ (¬ M4 80 (bs + p) ≤ 0 → es_Call (d + 2) 147 [.inr (.inr 79), .inl p, .inl (p + 36 * 1)] M4 (fun y6 M5 => ((y6 = 0 → ((¬ c = 0 → G 37 [lr 79, none, li bs, li 1, li i, li (p + 1), none, none] [] M5) ∧ (c = 0 → ((¬ y4 = 0 → G 37 [lr 79, none, li bs, li 1, li i, li (p + 1), none, none] [] M5) ∧ (y4 = 0 → (((0 : Int) = 0 → G 37 [lr 79, none, li bs, li 0, li i, li (p + 1), none, none] [] M5) ∧ (¬ (0 : Int) = 0 → G 37 [lr 79, none, li bs, li 1, li i, li (p + 1), none, none] [] M5))))))) ∧ (¬ y6 = 0 → ((¬ c = 0 → G 37 [lr 79, none, li bs, li 1, li i, li (p + 1), none, none] [] M5) ∧ (c = 0 → ((¬ y4 = 0 → G 37 [lr 79, none, li bs, li 1, li i, li (p + 1), none, none] [] M5) ∧ (y4 = 0 → (((1 : Int) = 0 → G 37 [lr 79, none, li bs, li 0, li i, li (p + 1), none, none] [] M5) ∧ (¬ (1 : Int) = 0 → G 37 [lr 79, none, li bs, li 1, li i, li (p + 1), none, none] [] M5))))))))))))
theorem s_search (hT : TI T) (hR : RepC T M) {s bs : Int} {f pi : Int → Int} (s0 : 0 ≤ s) (s1 : s < 12) (b0 : 0 ≤ bs) (b1 : bs + 36 ≤ 396) (hfl : ∀ p, 0 ≤ p → p < 36 → M 80 (bs + p) = f p) (hp : prc (2 * T 1 0).toNat (og T) (gl T) (ln T) (goes T) f pi)
    (k : ∀ M' b tau, off8 M M' → fxs (2 * T 1 0).toNat (og T) (gl T) (ln T) (goes T) f (M' 81) → BIs (2 * T 1 0).toNat (og T) (gl T) (ln T) (goes T) (fun x => x = s) f 864 (M' 81) b tau → CBs M' b → Q 0 M') : es_Call (d + 3) 146 [.inr (.inr 79), .inl s, .inl bs] M Q := by
  have hn := hT.n
  have H := hT.gr
  have n2 : ((2 * T 1 0).toNat : Int) = 2 * T 1 0 := by omega
  apply m_Level_searchFrom
  intro G hG
  apply k_Level_searchFrom_0 hG
  refine s_fill81 (fun M1 f1 f2 => ⟨⟨s0, s1⟩, ?_⟩)
  have mono : ∀ {t t' : Nat} {D b : Int → Int} {tau : Int → Nat}, t ≤ t' → BIs (2 * T 1 0).toNat (og T) (gl T) (ln T) (goes T) (fun x => x = s) f t D b tau → BIs (2 * T 1 0).toNat (og T) (gl T) (ln T) (goes T) (fun x => x = s) f t' D b tau := by
    intro t t' D b tau ht h x x0 x1
    obtain ⟨q1, qs, q2⟩ := h x x0 x1
    refine ⟨by omega, qs, ?_⟩
    rcases q2 with q | ⟨q3, q4, q5⟩
    · exact Or.inl q
    · exact Or.inr ⟨by omega, by omega, q5⟩
  have outer : ∀ (r : Nat) (i : Int) (ch : Int) (M2 : es_M) (t : Nat) (b : Int → Int) (tau : Int → Nat), 0 ≤ i → i + r = 12 → off8 M M2 → BIs (2 * T 1 0).toNat (og T) (gl T) (ln T) (goes T) (fun x => x = s) f t (M2 81) b tau → (t : Int) ≤ 72 * i → CBs M2 b → SPs (2 * T 1 0).toNat (og T) (gl T) (ln T) (goes T) f pi i (M2 81) → (ch = 0 → fxs (2 * T 1 0).toNat (og T) (gl T) (ln T) (goes T) f (M2 81)) → G 21 [lr 79, none, li bs, li ch, li i, none, none, none] [] M2 := by
    intro r
    induction r with
    | zero =>
      intro i ch M2 t b tau i0 ir o8 bi ti cb sp hc
      apply k_Level_searchFrom_21 hG
      refine ⟨fun _ => ?_, fun z => absurd (by omega) z⟩
      have e : i = 12 := by omega
      subst e
      exact k M2 b tau o8 (sp.full H) (mono (by omega) bi) cb
    | succ r ih =>
      intro i ch M2 t b tau i0 ir o8 bi ti cb sp hc
      apply k_Level_searchFrom_21 hG
      refine ⟨fun z => absurd z (by omega), fun _ => ⟨fun z => k M2 b tau o8 (hc z) (mono (by omega) bi) cb, fun z => ?_⟩⟩
      have inner : ∀ (r2 : Nat) (p : Int) (c : Int) (M3 : es_M) (t : Nat) (b : Int → Int) (tau : Int → Nat), 0 ≤ p → p + r2 = 2 * T 1 0 → off8 M M3 → BIs (2 * T 1 0).toNat (og T) (gl T) (ln T) (goes T) (fun x => x = s) f t (M3 81) b tau → (t : Int) ≤ 72 * i + 2 * p → CBs M3 b → SQs (2 * T 1 0).toNat (og T) (gl T) (ln T) (goes T) f pi i (2 * p) (M3 81) → (c = 0 → ∀ j, 0 ≤ j → j < 2 * p → ¬ nrr (og T) (gl T) (ln T) (goes T) f (M3 81) j) → G 37 [lr 79, none, li bs, li c, li i, li p, none, none] [] M3 := by
        intro r2
        induction r2 with
        | zero =>
          intro p c M3 t b tau p0 pr o8 bi ti cb sq hc
          apply k_Level_searchFrom_37 hG
          have e10 : M3 1 = M 1 := o8 1 (by decide) (by decide)
          have eT : M3 1 0 = T 1 0 := by rw [e10]; exact hR 1 0 rfl
          rw [eT, w32_s (k := 2 * T 1 0) (by omega) (by omega)]
          refine ⟨fun _ => ?_, fun z => absurd (by omega) z⟩
          have e : p = 2 * T 1 0 := by omega
          subst e
          rw [w32_1 (by omega) (by omega)]
          refine ih (i + 1) c M3 t b tau (by omega) (by omega) o8 bi (by omega) cb ?_ (fun y j j0 j1 => hc y j j0 (by omega))
          rw [show 2 * (2 * T 1 0) = 2 * ((2 * T 1 0).toNat : Int) by omega] at sq
          exact sq.fin
        | succ r2 ih2 =>
          intro p c M3 t b tau p0 pr o8 bi ti cb sq hc
          apply k_Level_searchFrom_37 hG
          have hR3 := off8.rep hR o8
          have eT : M3 1 0 = T 1 0 := hR3 1 0 rfl
          rw [eT, w32_s (k := 2 * T 1 0) (by omega) (by omega), w32_s (k := bs + p) (by omega) (by omega), w32_1 (k := p) (by omega) (by omega), show w32 (p + 36) = p + 36 * 1 by rw [w32_s (by omega) (by omega)]; omega]
          refine ⟨fun y => absurd y (by omega), fun _ => ?_⟩
          have hP : isP T p := ⟨p0, by omega⟩
          have k0 : (0 : Int) ≤ 2 * p := by omega
          have k1 : 2 * p < 2 * ((2 * T 1 0).toNat : Int) := by omega
          have k2 : (0 : Int) ≤ 2 * p + 1 := by omega
          have k3 : 2 * p + 1 < 2 * ((2 * T 1 0).toNat : Int) := by omega
          have d2 : 2 * p / 2 = p := by omega
          have d3 : (2 * p + 1) / 2 = p := by omega
          -- two arcs
          have two : ∀ (D1 B1 D2 B2 : Int → Int) (M5 : es_M) (c' : Int), RXs (og T) (gl T) (ln T) (goes T) f (M3 81) b D1 B1 (2 * p) → RXs (og T) (gl T) (ln T) (goes T) f D1 B1 D2 B2 (2 * p + 1) → M5 81 = D2 → CBs M5 B2 → off8 M M5 → (c' = 0 → c = 0 ∧ ¬ nrr (og T) (gl T) (ln T) (goes T) f (M3 81) (2 * p) ∧ ¬ nrr (og T) (gl T) (ln T) (goes T) f D1 (2 * p + 1)) → G 37 [lr 79, none, li bs, li c', li i, li (p + 1), none, none] [] M5 := by
            intro D1 B1 D2 B2 M5 c' r1 r2' eD hB ho hcc
            obtain ⟨tau1, bi1⟩ := bi.step H (by omega) k0 k1 r1
            obtain ⟨tau2, bi2⟩ := bi1.step H (by omega) k2 k3 r2'
            have sq1 := sq.step H hp k0 k1 r1
            have sq2 := sq1.step H hp k2 k3 r2'
            rw [← eD] at bi2 sq2
            refine ih2 (p + 1) c' M5 (t + 1 + 1) B2 tau2 (by omega) (by omega) ho bi2 (by omega) hB (by rw [show 2 * (p + 1) = 2 * p + 1 + 1 by omega]; exact sq2) (fun y j j0 j1 => ?_)
            obtain ⟨y1, y2, y3⟩ := hcc y
            have ed1 : D1 = M3 81 := by
              rcases r1 with ⟨q, -⟩ | ⟨-, q, -⟩
              · exact absurd q y2
              · exact funext q
            have ed2 : D2 = D1 := by
              rcases r2' with ⟨q, -⟩ | ⟨-, q, -⟩
              · exact absurd q y3
              · exact funext q
            rw [eD, ed2]
            by_cases j2 : j = 2 * p + 1
            · rw [j2]; exact y3
            · rw [ed1]
              by_cases j3 : j = 2 * p
              · rw [j3]; exact y2
              · exact hc y1 j j0 (by omega)
          refine s_goes hT hR3 p0 (by omega) (fun gp => es_t1 ?_) (fun gp => es_t0 ?_)
          · have bd := bi.bd (by omega)
            have e0 : p + 36 * 0 = p := by omega
            -- behind the first arc
            have after : ∀ (y4 : Int) (M4 : es_M) (D1 B1 : Int → Int), (y4 = 0 → ¬ nrr (og T) (gl T) (ln T) (goes T) f (M3 81) (2 * p)) → RXs (og T) (gl T) (ln T) (goes T) f (M3 81) b D1 B1 (2 * p) → M4 81 = D1 → CBs M4 B1 → off8 M M4 →
                aftG G d bs c i p y4 M4 := by
              intro y4 M4 D1 B1 hy r1 eD hB ho
              unfold aftG
              have e80 : M4 80 (bs + p) = f p := by rw [ho 80 (by decide) (by decide)]; exact hfl p p0 (by omega)
              rw [e80]
              refine ⟨by omega, fun z1 => ?_, fun z1 => ?_⟩
              · have na : ¬ nrr (og T) (gl T) (ln T) (goes T) f D1 (2 * p + 1) := fun q => by
                  rcases q.1.2 with q | q
                  · omega
                  · rw [d3] at q; omega
                have r2' : RXs (og T) (gl T) (ln T) (goes T) f D1 B1 D1 B1 (2 * p + 1) := Or.inr ⟨na, fun _ => rfl, fun _ => rfl⟩
                have one := two D1 B1 D1 B1 M4 1 r1 r2' eD hB ho (fun y => absurd y (by decide))
                exact ⟨fun _ => one, fun c0 => ⟨fun _ => one, fun y0 => ⟨fun _ => two D1 B1 D1 B1 M4 0 r1 r2' eD hB ho (fun _ => ⟨c0, hy y0, na⟩), fun _ => one⟩⟩⟩
              · obtain ⟨tau1, bi1⟩ := bi.step H (by omega) k0 k1 r1
                have bd1 := bi1.bd (by omega)
                rw [← eD] at bd1
                refine s_nearer hT (off8.rep hR ho) hP (Or.inr rfl) gp bd1 (fun q1 q2 => ?_) (fun q => ?_)
                · have ar := arc_r H k2 k3
                  have nr : nrr (og T) (gl T) (ln T) (goes T) f D1 (2 * p + 1) := ⟨⟨by rw [d3]; exact gp, Or.inr (by rw [d3]; omega)⟩, by rw [← eD]; exact q1, by rw [← eD]; exact q2⟩
                  have one := two D1 B1 _ _ (es_upd (es_upd M4 81 (ato (og T) (gl T) (2 * p + 1)) (M4 81 (afr (og T) (gl T) (2 * p + 1)) + awt (ln T) (2 * p + 1))) 82 (ato (og T) (gl T) (2 * p + 1)) (p + 36 * 1)) 1 r1 (Or.inl ⟨nr, fun _ => rfl, fun _ => rfl⟩) (by funext x; rw [es_upd_n (by decide), es_upd_c, eD]) (fun x x0 x1 xb => ?_) (fun c' a1 a2 => by rw [es_upd_o c' a2, es_upd_o c' a1]; exact ho c' a1 a2) (fun y => absurd y (by decide))
                  · exact ⟨fun z => absurd z (by decide), fun _ => ⟨fun _ => one, fun _ => ⟨fun _ => one, fun _ => ⟨fun z => absurd z (by decide), fun _ => one⟩⟩⟩⟩
                  · rw [es_upd_c]
                    by_cases e : x = ato (og T) (gl T) (2 * p + 1)
                    · rw [if_pos e, if_pos e]; unfold ckF; rw [if_neg (by omega), d3]; omega
                    · rw [if_neg e, if_neg e] at *
                      rw [es_upd_n (by decide)]; exact hB x x0 x1 xb
                · have na : ¬ nrr (og T) (gl T) (ln T) (goes T) f D1 (2 * p + 1) := fun y => q ⟨by rw [eD]; exact y.2.1, by rw [eD]; exact y.2.2⟩
                  have r2' : RXs (og T) (gl T) (ln T) (goes T) f D1 B1 D1 B1 (2 * p + 1) := Or.inr ⟨na, fun _ => rfl, fun _ => rfl⟩
                  have one := two D1 B1 D1 B1 M4 1 r1 r2' eD hB ho (fun y => absurd y (by decide))
                  exact ⟨fun _ => ⟨fun _ => one, fun c0 => ⟨fun _ => one, fun y0 => ⟨fun _ => two D1 B1 D1 B1 M4 0 r1 r2' eD hB ho (fun _ => ⟨c0, hy y0, na⟩), fun _ => one⟩⟩⟩, fun z => absurd rfl z⟩
            have nr0 := s_nearer (d := d) (Q := aftG G d bs c i p) hT hR3 (p := p) (r := 0) hP (Or.inl rfl) gp bd ?_ ?_
            · rw [e0] at nr0; exact nr0
            · intro q1 q2
              rw [show 2 * p + 0 = 2 * p by omega] at q1 q2 ⊢
              have nr : nrr (og T) (gl T) (ln T) (goes T) f (M3 81) (2 * p) := ⟨⟨by rw [d2]; exact gp, Or.inl (by omega)⟩, q1, q2⟩
              refine after 1 _ _ _ (fun y => absurd y (by decide)) (Or.inl ⟨nr, fun _ => rfl, fun _ => rfl⟩) (by funext x; rw [es_upd_n (by decide), es_upd_c]) (fun x x0 x1 xb => ?_) (fun c' a1 a2 => by rw [es_upd_o c' a2, es_upd_o c' a1]; exact o8 c' a1 a2)
              rw [es_upd_c]
              by_cases e : x = ato (og T) (gl T) (2 * p)
              · rw [if_pos e, if_pos e]; unfold ckF; rw [if_pos (by omega), d2]; omega
              · rw [if_neg e, if_neg e] at *
                rw [es_upd_n (by decide)]; exact cb x x0 x1 xb
            · intro q
              rw [show 2 * p + 0 = 2 * p by omega] at q
              have na : ¬ nrr (og T) (gl T) (ln T) (goes T) f (M3 81) (2 * p) := fun y => q y.2
              exact after 0 M3 (M3 81) b (fun _ => na) (Or.inr ⟨na, fun _ => rfl, fun _ => rfl⟩) rfl cb o8
          · have na : ¬ nrr (og T) (gl T) (ln T) (goes T) f (M3 81) (2 * p) := fun q => by have := q.1.1; rw [d2] at this; exact gp this
            have nb : ¬ nrr (og T) (gl T) (ln T) (goes T) f (M3 81) (2 * p + 1) := fun q => by have := q.1.1; rw [d3] at this; exact gp this
            exact two (M3 81) b (M3 81) b M3 c (Or.inr ⟨na, fun _ => rfl, fun _ => rfl⟩) (Or.inr ⟨nb, fun _ => rfl, fun _ => rfl⟩) rfl cb o8 (fun y => ⟨y, na, nb⟩)
      have hsq := sp.start H (fun x x0 x1 => (bi.bd (by omega) x x0 x1).2)
      exact inner (2 * T 1 0).toNat 0 0 M2 t b tau (by omega) (by omega) o8 bi (by omega) cb hsq (fun _ j j0 j1 => by omega)
  refine outer 12 0 1 _ 0 (fun _ => -1) (fun _ => 0) (by omega) (by omega) (fun c a1 a2 => by rw [es_upd_o c a1, f1 c a1]) (fun x x0 x1 => ⟨Nat.le_refl _, fun z => by rw [es_upd_c, if_pos z]; exact Int.le_refl _, ?_⟩) (by omega) (fun x _ _ xb => absurd xb (by show ¬ (0 : Int) ≤ -1; decide)) SPs.zero (fun z => absurd z (by decide))
  rw [es_upd_c]
  by_cases e : x = s
  · rw [if_pos e]; exact Or.inr ⟨by decide, by decide, Or.inl ⟨rfl, e, rfl⟩⟩
  · rw [if_neg e]; exact Or.inl (f2 x x0 x1)
end
