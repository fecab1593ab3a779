/-! LEVEL (10): the model spreads -/
def rvG (G : Nat → es_L → List AV → es_M → Prop) (a1 p y4 y6 : Int) (X : es_M) : Prop :=
  ((0 ≤ p ∧ p < 36) ∧ ((X 115 p ≤ 0 → G 53 [lr 91, li a1, li (w32 (p + 1)), none, none] [] X) ∧ (¬ X 115 p ≤ 0 → ((0 ≤ y6 ∧ y6 < 12) ∧ ((1000000 ≤ X 116 y6 → G 53 [lr 91, li a1, li (w32 (p + 1)), none, none] [] X) ∧ (¬ 1000000 ≤ X 116 y6 → ((0 ≤ y6 ∧ y6 < 12) ∧ ((0 ≤ p ∧ p < 72) ∧ ((0 ≤ y4 ∧ y4 < 12) ∧ ((X 116 y4 ≤ w32 (X 116 y6 - X 95 p) → G 53 [lr 91, li a1, li (w32 (p + 1)), none, none] [] X) ∧ (¬ X 116 y4 ≤ w32 (X 116 y6 - X 95 p) → ((0 ≤ y6 ∧ y6 < 12) ∧ ((0 ≤ p ∧ p < 72) ∧ ((0 ≤ y4 ∧ y4 < 12) ∧ ((0 ≤ y4 ∧ y4 < 12) ∧ G 53 [lr 91, li a1, li (w32 (p + 1)), none, none] [] (es_upd (es_upd X 116 y4 (w32 (X 116 y6 - X 95 p))) 117 y4 (w32 (w32 (2 * p) + 1))))))))))))))))))
def ofN (M M' : es_M) : Prop := ∀ c : Nat, c ≠ 116 → c ≠ 117 → M' c = M c
section
variable {d : Nat} {Q : Int → es_M → Prop} {T M : es_M}
theorem ofN.rep (hR : RepM T M) {M' : es_M} (h : ofN M M') : RepM T M' := by
  intro c j q
  have h1 : c ≠ 116 := fun z => by subst z; have : persM 116 j = false := rfl; rw [this] at q; cases q
  have h2 : c ≠ 117 := fun z => by subst z; have : persM 117 j = false := rfl; rw [this] at q; cases q
  rw [h c h1 h2]; exact hR c j q
theorem s_m_spreads (hT : TI T) (hR : RepM T M) {pi : Int → Int} (hp : prc (2 * T 1 0).toNat (og T) (gl T) (ln T) (goes T) (M 115) pi)
    (k : ∀ M' tau, ofN M M' → fxs (2 * T 1 0).toNat (og T) (gl T) (ln T) (goes T) (M 115) (M' 116) → BIs (2 * T 1 0).toNat (og T) (gl T) (ln T) (goes T) (fun x => 0 < M 114 x) (M 115) 864 (M' 116) (M' 117) tau → Q 0 M') : es_Call (d + 2) 223 [.inr (.inr 91)] M Q := by
  have hn := hT.n
  have H := hT.gr
  apply m_Model_spreads
  intro G hG
  apply k_Model_spreads_0 hG
  have mono : ∀ {t t' : Nat} {D b : Int → Int} {tau : Int → Nat}, t ≤ t' → BIs (2 * T 1 0).toNat (og T) (gl T) (ln T) (goes T) (fun x => 0 < M 114 x) (M 115) t D b tau → BIs (2 * T 1 0).toNat (og T) (gl T) (ln T) (goes T) (fun x => 0 < M 114 x) (M 115) t' D b tau := by
    intro t t' D b tau ht h x x0 x1
    obtain ⟨q1, qs, q2⟩ := h x x0 x1
    refine ⟨by omega, qs, ?_⟩
    rcases q2 with q | ⟨q3, q4, q5⟩
    · exact Or.inl q
    · exact Or.inr ⟨by omega, by omega, q5⟩
  have outer : ∀ (r : Nat) (i : Int) (M2 : es_M) (t : Nat) (tau : Int → Nat), 0 ≤ i → i + r = 12 → ofN M M2 → BIs (2 * T 1 0).toNat (og T) (gl T) (ln T) (goes T) (fun x => 0 < M 114 x) (M 115) t (M2 116) (M2 117) tau → (t : Int) ≤ 72 * i → SPs (2 * T 1 0).toNat (og T) (gl T) (ln T) (goes T) (M 115) pi i (M2 116) → G 45 [lr 91, li i, none, none, none] [] M2 := by
    intro r
    induction r with
    | zero =>
      intro i M2 t tau i0 ir o8 bi ti sp
      apply k_Model_spreads_45 hG
      refine ⟨fun _ => ?_, fun z => absurd (by omega) z⟩
      have e : i = 12 := by omega
      subst e
      exact k M2 tau o8 (sp.full H) (mono (by omega) bi)
    | succ r ih =>
      intro i M2 t tau i0 ir o8 bi ti sp
      apply k_Model_spreads_45 hG
      refine ⟨fun z => absurd z (by omega), fun _ => ?_⟩
      have inner : ∀ (r2 : Nat) (p : Int) (M3 : es_M) (t : Nat) (tau : Int → Nat), 0 ≤ p → p + r2 = 2 * T 1 0 → ofN M M3 → BIs (2 * T 1 0).toNat (og T) (gl T) (ln T) (goes T) (fun x => 0 < M 114 x) (M 115) t (M3 116) (M3 117) tau → (t : Int) ≤ 72 * i + 2 * p → SQs (2 * T 1 0).toNat (og T) (gl T) (ln T) (goes T) (M 115) pi i (2 * p) (M3 116) → G 53 [lr 91, li i, li p, none, none] [] M3 := by
        intro r2
        induction r2 with
        | zero =>
          intro p M3 t tau p0 pr o8 bi ti sq
          apply k_Model_spreads_53 hG
          rw [(ofN.rep hR o8) 91 3 rfl, hn.2.2, w32_s (k := 2 * T 1 0) (by omega) (by omega)]
          refine ⟨fun _ => ?_, fun z => absurd (by omega) z⟩
          have e : p = 2 * T 1 0 := by omega
          subst e
          rw [w32_1 (by omega) (by omega)]
          refine ih (i + 1) M3 t tau (by omega) (by omega) o8 bi (by omega) ?_
          rw [show 2 * (2 * T 1 0) = 2 * ((2 * T 1 0).toNat : Int) by omega] at sq
          exact sq.fin
        | succ r2 ih2 =>
          intro p M3 t tau p0 pr o8 bi ti sq
          apply k_Model_spreads_53 hG
          have hR3 := ofN.rep hR o8
          rw [hR3 91 3 rfl, hn.2.2, w32_s (k := 2 * T 1 0) (by omega) (by omega)]
          refine ⟨fun y => absurd y (by omega), fun _ => ?_⟩
          have hP : isP T p := ⟨p0, by omega⟩
          have k0 : (0 : Int) ≤ 2 * p := by omega
          have k1 : 2 * p < 2 * ((2 * T 1 0).toNat : Int) := by omega
          have k2 : (0 : Int) ≤ 2 * p + 1 := by omega
          have k3 : 2 * p + 1 < 2 * ((2 * T 1 0).toNat : Int) := by omega
          have d2 : 2 * p / 2 = p := by omega
          have d3 : (2 * p + 1) / 2 = p := by omega
          have wp : w32 (p + 1) = p + 1 := w32_1 (by omega) (by omega)
          have two : ∀ (D1 B1 : Int → Int) (M5 : es_M), RXs (og T) (gl T) (ln T) (goes T) (M 115) (M3 116) (M3 117) D1 B1 (2 * p) → RXs (og T) (gl T) (ln T) (goes T) (M 115) D1 B1 (M5 116) (M5 117) (2 * p + 1) → ofN M M5 → G 53 [lr 91, li i, li (w32 (p + 1)), none, none] [] M5 := by
            intro D1 B1 M5 r1 r2' ho
            obtain ⟨tau1, bi1⟩ := bi.step H (by omega) k0 k1 r1
            obtain ⟨tau2, bi2⟩ := bi1.step H (by omega) k2 k3 r2'
            have sq1 := sq.step H hp k0 k1 r1
            have sq2 := sq1.step H hp k2 k3 r2'
            rw [wp]
            exact ih2 (p + 1) M5 (t + 1 + 1) tau2 (by omega) (by omega) ho bi2 (by omega) (by rw [show 2 * (p + 1) = 2 * p + 1 + 1 by omega]; exact sq2)
          obtain ⟨oo, gg, ne, ll, l95⟩ := hT.ps p0 hP.2
          refine s_m_isPass hT hR3 p0 hP.2 (fun gp => es_f1 ?_) (fun gp => es_f0 ?_)
          · have lrn : 1 ≤ ln T p ∧ ln T p ≤ 99 := (H.2 p p0 (by omega)).2.2.2 gp
            have a1 : afr (og T) (gl T) (2 * p) = og T p := by unfold afr; rw [if_pos (by omega), d2]
            have a2 : ato (og T) (gl T) (2 * p) = gl T p := by unfold ato; rw [if_pos (by omega), d2]
            have a3 : awt (ln T) (2 * p) = ln T p := by unfold awt; rw [if_pos (by omega), d2]
            have c1 : afr (og T) (gl T) (2 * p + 1) = gl T p := by unfold afr; rw [if_neg (by omega), d3]
            have c2 : ato (og T) (gl T) (2 * p + 1) = og T p := by unfold ato; rw [if_neg (by omega), d3]
            have c3 : awt (ln T) (2 * p + 1) = - ln T p := by unfold awt; rw [if_neg (by omega), d3]
            have bd := bi.bd (by omega)
            -- behind the first arc
            have rev : ∀ X : es_M, RXs (og T) (gl T) (ln T) (goes T) (M 115) (M3 116) (M3 117) (X 116) (X 117) (2 * p) → ofN M X → rvG G i p (og T p) (gl T p) X := by
              intro X r1 ho
              obtain ⟨tau1, bi1⟩ := bi.step H (by omega) k0 k1 r1
              have bd1 := bi1.bd (by omega)
              have bo := bd1 (og T p) oo.1 oo.2
              have bg := bd1 (gl T p) gg.1 gg.2
              have e115 : X 115 = M 115 := ho 115 (by decide) (by decide)
              have e95 : X 95 p = ln T p := by rw [(ofN.rep hR ho) 95 p rfl, l95]
              unfold rvG
              rw [e115, e95, w32_s (k := X 116 (gl T p) - ln T p) (by omega) (by omega)]
              have stay : ¬ nrr (og T) (gl T) (ln T) (goes T) (M 115) (X 116) (2 * p + 1) → G 53 [lr 91, li i, li (w32 (p + 1)), none, none] [] X := fun na => two (X 116) (X 117) X r1 (Or.inr ⟨na, fun _ => rfl, fun _ => rfl⟩) ho
              refine ⟨⟨p0, by omega⟩, fun z => stay (fun q => ?_), fun z => ⟨gg, fun z1 => stay (fun q => ?_), fun z1 => ⟨gg, ⟨p0, by omega⟩, oo, fun z2 => stay (fun q => ?_), fun z2 => ⟨gg, ⟨p0, by omega⟩, oo, oo, ?_⟩⟩⟩⟩
              · rcases q.1.2 with q | q
                · omega
                · rw [d3] at q; omega
              · have := q.2.1; rw [c1] at this; omega
              · have := q.2.2; rw [c1, c2, c3] at this; omega
              · rw [w32_s (k := 2 * p) (by omega) (by omega), show w32 (2 * p + 1) = 2 * p + 1 by rw [w32_s (by omega) (by omega)]]
                refine two (X 116) (X 117) _ r1 (Or.inl ⟨⟨⟨by rw [d3]; exact gp, Or.inr (by rw [d3]; omega)⟩, by rw [c1]; omega, by rw [c1, c2, c3]; omega⟩, fun x => ?_, fun x => ?_⟩) (fun c a b => by rw [es_upd_o c b, es_upd_o c a]; exact ho c a b)
                · rw [es_upd_n (by decide), es_upd_c, c1, c2, c3]; rfl
                · rw [es_upd_c, es_upd_n (by decide), c2]
            refine s_m_begins hT hR3 p0 hP.2 (s_m_ends hT hR3 p0 hP.2 ?_)
            have bo := bd (og T p) oo.1 oo.2
            have bg := bd (gl T p) gg.1 gg.2
            have e95 : M3 95 p = ln T p := by rw [hR3 95 p rfl, l95]
            rw [e95, w32_s (k := M3 116 (og T p) + ln T p) (by omega) (by omega), w32_s (k := 2 * p) (by omega) (by omega)]
            have same : ¬ nrr (og T) (gl T) (ln T) (goes T) (M 115) (M3 116) (2 * p) → rvG G i p (og T p) (gl T p) M3 := fun na => rev M3 (Or.inr ⟨na, fun _ => rfl, fun _ => rfl⟩) o8
            have r3 : ¬ M3 116 (og T p) ≥ 1000000 → M3 116 (og T p) + ln T p < M3 116 (gl T p) → rvG G i p (og T p) (gl T p) (es_upd (es_upd M3 116 (gl T p) (M3 116 (og T p) + ln T p)) 117 (gl T p) (2 * p)) := by
              intro z1 z2
              refine rev _ (Or.inl ⟨⟨⟨by rw [d2]; exact gp, Or.inl (by omega)⟩, by rw [a1]; omega, by rw [a1, a2, a3]; exact z2⟩, fun x => ?_, fun x => ?_⟩) (fun c a b => by rw [es_upd_o c b, es_upd_o c a]; exact o8 c a b)
              · rw [es_upd_n (by decide), es_upd_c, a1, a2, a3]
              · rw [es_upd_c, es_upd_n (by decide), a2]
            have s1 : 1000000 ≤ M3 116 (og T p) → rvG G i p (og T p) (gl T p) M3 := fun z => same (fun q => by have := q.2.1; rw [a1] at this; omega)
            have s2 : M3 116 (gl T p) ≤ M3 116 (og T p) + ln T p → rvG G i p (og T p) (gl T p) M3 := fun z => same (fun q => by have := q.2.2; rw [a1, a2, a3] at this; omega)
            unfold rvG at s1 s2 r3
            rw [e95, w32_s (k := 2 * p) (by omega) (by omega)] at s1 s2
            rw [w32_s (k := 2 * p) (by omega) (by omega)] at r3
            refine ⟨oo, s1, fun z1 => ⟨oo, ⟨p0, by omega⟩, gg, s2, fun z2 => ⟨oo, ⟨p0, by omega⟩, gg, gg, r3 (by omega) (by omega)⟩⟩⟩
          · have na : ¬ nrr (og T) (gl T) (ln T) (goes T) (M 115) (M3 116) (2 * p) := fun q => by have := q.1.1; rw [d2] at this; exact gp this
            have nb : ¬ nrr (og T) (gl T) (ln T) (goes T) (M 115) (M3 116) (2 * p + 1) := fun q => by have := q.1.1; rw [d3] at this; exact gp this
            exact two (M3 116) (M3 117) M3 (Or.inr ⟨na, fun _ => rfl, fun _ => rfl⟩) (Or.inr ⟨nb, fun _ => rfl, fun _ => rfl⟩) o8
      have hsq := sp.start H (fun x x0 x1 => (bi.bd (by omega) x x0 x1).2)
      exact inner (2 * T 1 0).toNat 0 M2 t tau (by omega) (by omega) o8 bi (by omega) hsq
  refine es_up (P := fun k => ∀ M2, ofN M M2 → (∀ x, 0 ≤ x → x < k → M2 116 x = (if 0 < M 114 x then 0 else 1000000) ∧ M2 117 x = -1) → G 2 [lr 91, li k, none, none, none] [] M2) (n := 12) (by decide) ?_ ?_ M (fun _ _ _ => rfl) (fun x x0 x1 => by omega)
  · intro M2 o8 hi
    apply k_Model_spreads_2 hG
    refine ⟨fun _ => ?_, fun z => absurd (by decide) z⟩
    refine outer 12 0 M2 0 (fun _ => 0) (by omega) (by omega) o8 (fun x x0 x1 => ⟨Nat.le_refl _, fun z => by rw [(hi x x0 x1).1, if_pos z]; exact Int.le_refl _, ?_⟩) (by omega) SPs.zero
    rw [(hi x x0 x1).1, (hi x x0 x1).2]
    by_cases e : 0 < M 114 x
    · rw [if_pos e]; exact Or.inr ⟨by decide, by decide, Or.inl ⟨rfl, e, rfl⟩⟩
    · rw [if_neg e]; exact Or.inl rfl
  · intro k k0 k1 ih M2 o8 hi
    apply k_Model_spreads_2 hG
    rw [o8 114 (by decide) (by decide), w32_1 (by omega) (by omega)]
    have nx : ∀ v, v = (if 0 < M 114 k then 0 else 1000000) → G 2 [lr 91, li (k + 1), none, none, none] [] (es_upd (es_upd M2 116 k v) 117 k (-1)) := by
      intro v hv
      refine ih _ (fun c a b => by rw [es_upd_o c b, es_upd_o c a]; exact o8 c a b) (fun x x0 x1 => ?_)
      rw [es_upd_n (by decide), es_upd_c, es_upd_c, es_upd_n (by decide)]
      by_cases e : x = k
      · rw [if_pos e, if_pos e, hv, e]; exact ⟨rfl, rfl⟩
      · rw [if_neg e, if_neg e]; exact hi x x0 (by omega)
    exact ⟨fun z => absurd z (by omega), fun _ => ⟨⟨k0, k1⟩, fun z => ⟨⟨k0, k1⟩, ⟨k0, k1⟩, nx _ (by rw [if_neg (by omega)])⟩, fun z => ⟨⟨k0, k1⟩, ⟨k0, k1⟩, nx _ (by rw [if_pos (by omega)])⟩⟩⟩
end
