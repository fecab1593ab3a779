/-! LEAST WALKS (9): the model walks -/
section
variable {d : Nat} {Q : Int → es_M → Prop} {T M : es_M}
abbrev offV (M M' : es_M) : Prop := (∀ c, c ≠ 91 → c ≠ 92 → M' c = M c) ∧ ∀ j, j ≠ 1 → M' 91 j = M 91 j
theorem repV {M' : es_M} (hR : RepM T M) (h : offV M M') : RepM T M' := by
  intro c j q
  by_cases e : c = 91
  · subst e
    rw [h.2 j (by rintro rfl; cases q)]; exact hR _ _ q
  · rw [h.1 c e (by rintro rfl; cases q)]; exact hR _ _ q
theorem s_m_walks (hT : TI T) (hR : RepM T M) {c g W p dn : Int} (e38 : M 91 38 = W) (e39 : M 91 39 = g) (W0 : 0 ≤ W) (W1 : W < 1024) (hF : fOK T c g W (-1) M) (hp : isS T p) (d0 : 0 ≤ dn) (hd : sub dn W) (d1 : dn < 1024) (h0 : M 118 (dn * 37 + p) = rmF T c g W p dn) (r1 : rmF T c g W p dn < 1000000) (h : ∀ M', offV M M' → RwM (wkR T c g W 1000000 p dn (1, fun _ => cr T c p)) M' → Q 0 M') : es_Call (d + 5) 234 [.inr (.inr 91), .inl p, .inl dn, .inl c] M Q := by
  have hn := hT.n
  apply m_Model_walks
  intro G hG
  apply k_Model_walks_0 hG
  have r0 := rm_r hT (c := c) (g := g) (W := W) (d := dn) hp
  refine s_m_corner hT (hR.upd rfl) hp (s_m_enters' (by rw [es_upd_s]; decide) (by rw [es_upd_s]; decide) (fun M1 f1 f2 f3 f4 f5 => ?_))
  rw [es_upd_s] at f3 f4
  have R1 : RwM (1, fun _ => cr T c p) M1 := by
    refine ⟨⟨by rw [f3]; rfl, (by decide : (0 : Int) ≤ 1), (by decide : (1 : Int) ≤ 120)⟩, fun i i0 i1 => ?_⟩
    have : i = 0 := by have i1' : i < 1 := i1; omega
    rw [this]; exact f4
  have O1 : offV M M1 := ⟨fun c c1 c2 => by rw [f1 c c1 c2, es_upd_o c c1], fun j hj => by rw [f2 j hj, es_upd_j hj]⟩
  have key : ∀ (f : Nat) (p dn : Int) (r : RW) (M' : es_M), isS T p → 0 ≤ dn → sub dn W → dn < 1024 → M 118 (dn * 37 + p) = rmF T c g W p dn → rmF T c g W p dn ≤ f → rmF T c g W p dn < 1000000 → offV M M' → RwM r M' → (∀ M'', offV M M'' → RwM (wkR T c g W f p dn r) M'' → Q 0 M'') → G 22 [lr 91, none, none, li c, li p, li dn, none, none, none, none] [] M' := by
    intro f
    induction f with
    | zero =>
      intro p dn r M' hp d0 hd d1 h0 rf r1 o1 o2 fin
      have r0 := rm_r hT (c := c) (g := g) (W := W) (d := dn) hp
      have ac := rm_0 hT hp (show rmF T c g W p dn = 0 by omega)
      apply k_Model_walks_22 hG
      rw [o1.2 38 (by decide), e38]
      refine ⟨fun z => absurd ac.1 z, fun _ => s_m_corner hT (repV hR o1) hp ?_⟩
      rw [o1.2 39 (by decide), e39]
      exact ⟨fun _ => fin M' o1 o2, fun z => absurd ac.2 z⟩
    | succ f ih =>
      intro p dn r M' hp d0 hd d1 h0 rf r1 o1 o2 fin
      have hR' := repV hR o1
      have r0 := rm_r hT (c := c) (g := g) (W := W) (d := dn) hp
      have e38' : M' 91 38 = W := by rw [o1.2 38 (by decide), e38]
      have e118 : M' 118 = M 118 := o1.1 118 (by decide) (by decide)
      have step : ¬ (dn = W ∧ cr T c p = g) → G 51 [lr 91, none, none, li c, li p, li dn, li (-1), li 0, none, none] [] M' := by
        intro na
        have rp : ¬ rmF T c g W p dn ≤ 0 := fun z => na (rm_0 hT hp (by omega))
        obtain ⟨q0, q01, q02, q03⟩ := rm_x hT hp r1 na
        refine es_up (P := fun k => ∀ nx : Int, ((nx = -1 ∧ ∀ q, cand T c g W p dn q → k ≤ q) ∨ (cand T c g W p dn nx ∧ ∀ q, cand T c g W p dn q → q < k → gl T nx ≤ gl T q)) → G 51 [lr 91, none, none, li c, li p, li dn, li nx, li k, none, none] [] M') (n := 2 * T 1 0) (by omega) ?_ ?_ (-1) (Or.inl ⟨rfl, fun q hq => hq.1.1⟩)
        · intro nx hx
          have hN : isNx T c g W p dn nx := by
            rcases hx with ⟨-, z⟩ | z
            · have := z q0 ⟨q01, q02, q03.symm⟩
              have := q01.2
              omega
            · exact ⟨z.1, fun q' hq' => z.2 q' hq' hq'.1.2⟩
          have hq := hN.1
          have hqP := hq.1
          have q36 : nx < 36 := by have := hqP.2; omega
          have eq := nxF_eq hT hp hN
          have dr := dnF_r hT (p := nx) (done := dn) (aim := W) hqP.1 q36 d0 d1
          have sr := stp_r hT (c := c) hp hqP
          have qr := rm_r hT (c := c) (g := g) (W := W) (d := dnF T nx dn W) (Or.inr hqP)
          have hs := hq.2
          have sq : stt T nx := Or.inr ⟨hqP, stp_go hT hp hqP hs.1⟩
          have ew : wkR T c g W (f + 1) p dn r = wkR T c g W f nx (dnF T nx dn W) (apd r (gl T nx)) := by
            rw [show wkR T c g W (f + 1) p dn r = wkR T c g W f (nxF T c g W p dn) (dnF T (nxF T c g W p dn) dn W) (apd r (gl T (nxF T c g W p dn))) from if_neg rp, eq]
          have nxt : ∀ M2, offV M M2 → RwM (apd r (gl T nx)) M2 → G 22 [lr 91, none, none, li c, li nx, li (dnF T nx dn W), none, none, none, none] [] M2 := fun M2 a1 a2 => ih nx (dnF T nx dn W) (apd r (gl T nx)) M2 (Or.inr hqP) dr.1 (dn_in hd) dr.2 (hF _ (dn_in hd) dr.1 (by omega) nx sq) (by omega) (by omega) a1 a2 (fun M3 b1 b2 => fin M3 b1 (by rw [ew]; exact b2))
          apply k_Model_walks_51 hG
          rw [hR' 91 3 rfl, hn.2.2, w32_s (k := 2 * T 1 0) (by omega) (by omega), e38']
          refine ⟨fun _ => s_m_doneBehind hT hR' hqP.1 q36 d0 d1 W0 W1 ?_, fun w => absurd (Int.le_refl _) w⟩
          rw [o2.1.1]
          refine ⟨fun w => nxt M' o1 (by unfold apd; rw [if_neg (by omega)]; exact o2), fun w => s_m_ends hT hR' hqP.1 hqP.2 (s_m_enters' (by rw [o2.1.1]; exact o2.1.2.1) (by rw [o2.1.1]; have := o2.1.2.2; omega) (fun M2 a1 a2 a3 a4 a5 => nxt M2 ⟨fun c c1 c2 => by rw [a1 c c1 c2]; exact o1.1 c c1 c2, fun j hj => by rw [a2 j hj]; exact o1.2 j hj⟩ ?_))⟩
          unfold apd
          rw [if_pos (by omega)]
          have o21 := o2.1
          refine ⟨⟨by show M2 91 1 = r.1 + 1; omega, by show 0 ≤ r.1 + 1; omega, by show r.1 + 1 ≤ 120; omega⟩, fun i i0 i1 => ?_⟩
          show M2 92 i = if i = r.1 then gl T nx else r.2 i
          have i1' : i < r.1 + 1 := i1
          by_cases q : i = r.1
          · rw [if_pos q, q, ← o21.1]; exact a4
          · rw [if_neg q, a5 i (by omega)]; exact o2.2 i i0 (by omega)
        · intro k k0 k1 ih2 nx hx
          have hk : isP T k := ⟨k0, k1⟩
          have keep : ¬ cand T c g W p dn k → G 51 [lr 91, none, none, li c, li p, li dn, li nx, li (k + 1), none, none] [] M' := by
            intro nc
            refine ih2 nx ?_
            rcases hx with ⟨z1, z2⟩ | ⟨z1, z2⟩
            · refine Or.inl ⟨z1, fun q hq => ?_⟩
              have := z2 q hq
              by_cases e : q = k
              · subst e; exact absurd hq nc
              · omega
            · refine Or.inr ⟨z1, fun q hq h1 => ?_⟩
              by_cases e : q = k
              · subst e; exact absurd hq nc
              · exact z2 q hq (by omega)
          apply k_Model_walks_51 hG
          rw [hR' 91 3 rfl, hn.2.2, w32_s (k := 2 * T 1 0) (by omega) (by omega), w32_1 (k := k) (by omega) (by omega)]
          have dr := dnF_r hT (p := k) (done := dn) (aim := W) k0 (by omega) d0 d1
          have p37 : 0 ≤ p ∧ p < 37 := by
            rcases hp with z | z
            · omega
            · have := z.1; have := z.2; omega
          obtain ⟨x1, x2, x3⟩ := w37888 (a := dnF T k dn W) (b := k) dr (by omega)
          obtain ⟨y1, y2, y3⟩ := w37888 (a := dn) (b := p) ⟨d0, d1⟩ p37
          refine ⟨fun w => absurd w (by omega), fun _ => s_m_step hT hR' (c := c) hp hk ⟨fun w => ⟨fun _ => keep (fun z => by have := z.2.1; omega), fun w' => absurd rfl w'⟩, fun w => ?_⟩⟩
          have sk : stt T k := Or.inr ⟨hk, stp_go hT (c := c) hp hk (by omega)⟩
          have vk : M' 118 (dnF T k dn W * 37 + k) = rmF T c g W k (dnF T k dn W) := by rw [e118]; exact hF _ (dn_in hd) dr.1 (by omega) k sk
          have vp : M' 118 (dn * 37 + p) = rmF T c g W p dn := by rw [e118]; exact h0
          have sr := stp_r hT (c := c) hp hk
          have qr := rm_r hT (c := c) (g := g) (W := W) (d := dnF T k dn W) (Or.inr hk)
          rw [e38']
          refine s_m_doneBehind hT hR' k0 (by omega) d0 d1 W0 W1 (c_Model_remainOf ?_)
          rw [x1, vk]
          refine ⟨⟨x2, x3⟩, c_Model_remainOf ?_⟩
          rw [y1, vp, w32_s (by omega) (by omega)]
          refine ⟨⟨y2, y3⟩, fun z => ⟨fun _ => keep (fun q => z q.2.2), fun w' => absurd rfl w'⟩, fun z => ⟨fun w' => absurd w' (by decide), fun _ => ?_⟩⟩
          have ck : cand T c g W p dn k := ⟨hk, by omega, z⟩
          refine ⟨fun n0 => ih2 k (Or.inr ⟨ck, fun q hq h1 => ?_⟩), fun n0 => ?_⟩
          · rcases hx with ⟨z1, z2⟩ | ⟨z1, z2⟩
            · have := z2 q hq
              have : q = k := by omega
              rw [this]; exact Int.le_refl _
            · have := z1.1.1; omega
          · rcases hx with ⟨z1, z2⟩ | ⟨z1, z2⟩
            · omega
            · refine s_m_ends hT hR' hk.1 hk.2 (s_m_ends hT hR' z1.1.1 z1.1.2 ⟨fun y => ih2 nx (Or.inr ⟨z1, fun q hq h1 => ?_⟩), fun y => ih2 k (Or.inr ⟨ck, fun q hq h1 => ?_⟩)⟩)
              · by_cases e : q = k
                · subst e; exact y
                · exact z2 q hq (by omega)
              · by_cases e : q = k
                · subst e; exact Int.le_refl _
                · have := z2 q hq (by omega); omega
      apply k_Model_walks_22 hG
      rw [e38']
      refine ⟨fun z => step (fun w => z w.1), fun z => s_m_corner hT hR' hp ?_⟩
      rw [o1.2 39 (by decide), e39]
      refine ⟨fun w => fin M' o1 ?_, fun w => step (fun w' => w w'.2)⟩
      have : rmF T c g W p dn ≤ 0 := by rw [z, rm_a hT hp w]; exact Int.le_refl _
      rw [show wkR T c g W (f + 1) p dn r = r from if_pos this]
      exact o2
  exact key 1000000 p dn _ M1 hp d0 hd d1 h0 (by omega) r1 O1 R1 h
end
