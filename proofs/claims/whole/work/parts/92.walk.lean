/-! LEAST WALKS (6): the class tells -/
def lsF (p : Int) : Int := if p = 36 then -1 else p
/-- what the class asks of a step to q -/
noncomputable def mbF (T : es_M) (c g W p d q : Int) : Int := if stp T c p q < 1000000 then stp T c p q + rmF T c g W q (dnF T q d W) else 1000000
/-- ready to tell -/
def RD (T : es_M) (g W : Int) (M : es_M) : Prop := prepOK T g M ∧ M 67 7 = W ∧ tabOK T g W 0 M
theorem RD.off {T : es_M} {g W : Int} {M M' : es_M} (h : RD T g W M) (e : ∀ c, c ≠ 58 → c ≠ 59 → M' c = M c) : RD T g W M' := by
  obtain ⟨⟨a1, a2, a3, a4, a5⟩, b, c⟩ := h
  refine ⟨⟨by rw [e 67 (by decide) (by decide)]; exact a1, by rw [e 67 (by decide) (by decide)]; exact a2, by rw [e 68 (by decide) (by decide)]; exact a3, by rw [e 69 (by decide) (by decide)]; exact a4, by rw [e 61 (by decide) (by decide)]; exact a5⟩, by rw [e 67 (by decide) (by decide)]; exact b, ?_⟩
  unfold tabOK at c ⊢
  rw [e 66 (by decide) (by decide)]; exact c
section
variable {d : Nat} {Q : Int → es_M → Prop} {T M : es_M}
theorem s_stp (hT : TI T) (hR : RepC T M) {c p q : Int} (hp : isS T p) (hq : isP T q) (hc : p = 36 → og T q = c) (h : Q (stp T c p q) M) : es_Call (d + 3) 94 [.inr (.inr 60), .inl (lsF p), .inl q] M Q := by
  unfold lsF
  by_cases e : p = 36
  · rw [if_pos e]
    refine s_step0 hT hR hq ?_
    rw [← stp_36 (hc e), ← e]
    exact h
  · rw [if_neg e]
    exact s_step hT hR (hp.resolve_left e) hq h
theorem s_minutesBy (hT : TI T) (hR : RepC T M) {c g W p dn q : Int} (hD : RD T g W M) (W0 : 0 ≤ W) (W1 : W < 1024) (hp : isS T p) (hq : isP T q) (hc : p = 36 → og T q = c) (d0 : 0 ≤ dn) (hd : sub dn W) (d1 : dn < 1024) (h : Q (mbF T c g W p dn q) M) : es_Call (d + 4) 110 [.inr (.inr 67), .inl (lsF p), .inl q, .inl dn] M Q := by
  have hn := hT.n
  apply c_Walks_minutesBy
  refine s_stp hT hR hp hq hc ?_
  unfold mbF at h
  refine ⟨fun z => ?_, fun z => by rw [if_neg z] at h; exact h⟩
  rw [if_pos z] at h
  rw [hD.2.1]
  have q36 : q < 36 := by have := hq.2; omega
  have dr := dnF_r hT (p := q) (done := dn) (aim := W) hq.1 q36 d0 d1
  refine s_doneWith hT hR hq.1 q36 d0 d1 W0 W1 (s_minutesLeft hT hR hD.1 hD.2.1 W0 W1 hq dr.1 (dn_in hd) dr.2 (fun d' k s1 s2 s3 => hD.2.2 d' k s1 s2 (by omega)) ?_)
  have a := stp_r hT (c := c) hp hq
  have b := rm_r hT (c := c) (g := g) (W := W) (d := dnF T q dn W) (Or.inr hq)
  rw [rm_c hT (c := 0) (c' := c) hq, w32_s (by omega) (by omega)]
  exact h
theorem s_minutesFrom (hT : TI T) (hR : RepC T M) {c g W p dn : Int} (hD : RD T g W M) (W0 : 0 ≤ W) (W1 : W < 1024) (hp : isS T p) (d0 : 0 ≤ dn) (hd : sub dn W) (d1 : dn < 1024) (h : Q (rmF T c g W p dn) M) : es_Call (d + 5) 109 [.inr (.inr 67), .inl (cr T c p), .inl (lsF p), .inl dn] M Q := by
  have hn := hT.n
  apply m_Walks_minutesFrom
  intro G hG
  apply k_Walks_minutesFrom_0 hG
  rw [hD.1.1, hD.2.1]
  by_cases e : p = 36
  · have el : lsF p = -1 := if_pos e
    have ec : cr T c p = c := if_pos e
    rw [el, ec]
    have go : ¬ (dn = W ∧ cr T c p = g) → G 37 [lr 67, li c, none, li dn, li 1000000, li 0] [] M := by
      intro na
      rw [← nb_rm hT hp na] at h
      refine es_up (P := fun k => G 37 [lr 67, li c, none, li dn, li (nbN T c g W p dn k.toNat), li k] [] M) (n := 2 * T 1 0) (by omega) ?_ ?_
      · apply k_Walks_minutesFrom_37 hG
        rw [hR 1 0 rfl, w32_s (by omega) (by omega)]
        exact ⟨fun _ => h, fun z => absurd (Int.le_refl _) z⟩
      · intro k k0 k1 ih
        have hk : isP T k := ⟨k0, k1⟩
        rw [nbN_s k0] at ih
        have nr := nb_r hT (c := c) (g := g) (W := W) (d := dn) hp k.toNat (by omega)
        apply k_Walks_minutesFrom_37 hG
        rw [hR 1 0 rfl, w32_s (k := 2 * T 1 0) (by omega) (by omega), w32_1 (k := k) (by omega) (by omega)]
        refine ⟨fun z => absurd z (by omega), fun _ => s_origin hR k0 (by omega) ⟨fun z => ?_, fun z => ?_⟩⟩
        · have ns : ¬ stp T c p k < 1000000 := by
            rcases stp_r hT (c := c) hp hk with w | ⟨-, -, w, -⟩
            · omega
            · rw [ec] at w; exact absurd w z
          rw [if_neg ns] at ih; exact ih
        · have mb := s_minutesBy (d := d) (Q := fun y4 M3 => G 37 [lr 67, li c, none, li dn, li (min (nbN T c g W p dn k.toNat) y4), li (k + 1)] [] M3) hT hR hD W0 W1 hp hk (fun _ => z) d0 hd d1
          rw [el] at mb
          refine mb ?_
          unfold mbF
          by_cases s : stp T c p k < 1000000
          · rw [if_pos s] at ih ⊢; exact ih
          · rw [if_neg s] at ih ⊢
            rw [show min (nbN T c g W p dn k.toNat) 1000000 = nbN T c g W p dn k.toNat by omega]; exact ih
    refine ⟨fun _ => ⟨fun z => go (fun w => z (by rw [← ec]; exact w.2)), fun z => ⟨fun w => go (fun w' => w w'.1), fun w => ?_⟩⟩, fun z => absurd rfl z⟩
    rw [w, rm_a hT hp (by rw [ec]; exact z)] at h
    exact h
  · have hp' := hp.resolve_left e
    have el : lsF p = p := if_neg e
    rw [el]
    refine ⟨fun z => absurd z (by have := hp'.1; omega), fun _ => s_minutesLeft hT hR hD.1 hD.2.1 W0 W1 hp' d0 hd d1 (fun d' k s1 s2 s3 => hD.2.2 d' k s1 s2 (by omega)) ?_⟩
    rw [rm_c hT (c := 0) (c' := c) hp']
    exact h
theorem mbF_c {c g W p dn q : Int} (hq : isP T q) (hr : rmF T c g W p dn < 1000000) : mbF T c g W p dn q = rmF T c g W p dn ↔ cand T c g W p dn q := by
  unfold mbF cand
  by_cases s : stp T c p q < 1000000
  · rw [if_pos s]; exact ⟨fun z => ⟨hq, s, z⟩, fun z => z.2.2⟩
  · rw [if_neg s]; exact ⟨fun z => by omega, fun z => absurd z.2.1 s⟩
theorem s_firstNext (hT : TI T) (hR : RepC T M) {c g W p dn : Int} (hD : RD T g W M) (W0 : 0 ≤ W) (W1 : W < 1024) (hp : isS T p) (d0 : 0 ≤ dn) (hd : sub dn W) (d1 : dn < 1024) (r0 : 0 < rmF T c g W p dn) (r1 : rmF T c g W p dn < 1000000) (h : ∀ q, isNx T c g W p dn q → Q q M) : es_Call (d + 5) 111 [.inr (.inr 67), .inl (cr T c p), .inl (lsF p), .inl dn, .inl (rmF T c g W p dn)] M Q := by
  have hn := hT.n
  apply m_Walks_firstNext
  intro G hG
  apply k_Walks_firstNext_0 hG
  refine es_up (P := fun k => (∀ q, cand T c g W p dn q → k ≤ gl T q) → G 3 [lr 67, li (cr T c p), li (lsF p), li dn, li (rmF T c g W p dn), li k, none] [] M) (n := 12) (by decide) ?_ ?_ (fun q hq => (gl_r hT hq.1).1.1)
  · intro no
    exfalso
    obtain ⟨q, q1, q2, q3⟩ := rm_x hT hp r1 (fun z => by
      have := rm_a hT (c := c) (g := g) (d := dn) hp z.2
      rw [← z.1] at r0; omega)
    have := no q ⟨q1, q2, q3.symm⟩
    have := (gl_r hT q1).1
    omega
  · intro k k0 k1 ih no
    apply k_Walks_firstNext_3 hG
    rw [w32_1 (k := k) (by omega) (by omega)]
    refine ⟨fun z => absurd z (by omega), fun _ => s_passBetween hT hR ?_⟩
    have skip : (∀ q, cand T c g W p dn q → gl T q ≠ k) → G 3 [lr 67, li (cr T c p), li (lsF p), li dn, li (rmF T c g W p dn), li (k + 1), none] [] M := fun a => ih (fun q hq => by have := no q hq; have := a q hq; omega)
    refine ⟨fun z => skip (fun q hq e => ?_), fun z => ?_⟩
    · have := cand_pb hT hp hq
      rw [e, z] at this
      have := hq.1.1
      omega
    · obtain ⟨b1, b2, b3, b4⟩ := pbF_of hT z
      refine s_minutesBy hT hR hD W0 W1 hp b1 (fun e => by rw [b2]; exact if_pos e) d0 hd d1 ⟨fun w => skip (fun q hq e => w ((mbF_c b1 r1).mpr ?_)), fun w => h _ ⟨(mbF_c b1 r1).mp w, fun q' hq' => ?_⟩⟩
      · have := cand_pb hT hp hq
        rw [e] at this
        rw [this]; exact hq
      · rw [b3]; exact no q' hq'
theorem s_tell (hT : TI T) (hR : RepC T M) {c g W p dn : Int} (hD : RD T g W M) (W0 : 0 ≤ W) (W1 : W < 1024) (hp : isS T p) (d0 : 0 ≤ dn) (hd : sub dn W) (d1 : dn < 1024) (hno : ¬ rmF T c g W p dn < 1000000 → Q (-2) M) (hyes : rmF T c g W p dn < 1000000 → ∀ M', (∀ c, c ≠ 58 → c ≠ 59 → M' c = M c) → (∀ j, j ≠ 1 → M' 58 j = M 58 j) → RwC (wkR T c g W 1000000 p dn (1, fun _ => cr T c p)) M' → Q (rmF T c g W p dn) M') : es_Call (d + 6) 108 [.inr (.inr 67), .inl (cr T c p), .inl (lsF p), .inl dn, .inr (.inr 58)] M Q := by
  have hn := hT.n
  apply m_Walks_tell
  intro G hG
  apply k_Walks_tell_0 hG
  refine s_minutesFrom hT hR hD W0 W1 hp d0 hd d1 ⟨fun z => c_Row_clear ?_, hno⟩
  have rr := rm_r hT (c := c) (g := g) (W := W) (d := dn) hp
  have hy := hyes z
  refine s_put' (by rw [es_upd_s]; decide) (by rw [es_upd_s]; decide) (fun M1 f1 f2 f3 f4 f5 => ?_)
  rw [es_upd_s] at f3 f4
  have R1 : RwC (1, fun _ => cr T c p) M1 := by
    refine ⟨⟨by rw [f3]; rfl, (by decide : (0 : Int) ≤ 1), (by decide : (1 : Int) ≤ 120)⟩, fun i i0 i1 => ?_⟩
    have : i = 0 := by have i1' : i < 1 := i1; omega
    rw [this]; exact f4
  have F1 : ∀ c, c ≠ 58 → c ≠ 59 → M1 c = M c := fun c c1 c2 => by rw [f1 c c1 c2, es_upd_o c c1]
  have F2 : ∀ j, j ≠ 1 → M1 58 j = M 58 j := fun j hj => by rw [f2 j hj, es_upd_j hj]
  have key : ∀ (f : Nat) (p' dn' steps : Int) (r : RW) (M' : es_M), isS T p' → 0 ≤ dn' → sub dn' W → dn' < 1024 → rmF T c g W p' dn' ≤ f → rmF T c g W p' dn' < 1000000 → 0 ≤ steps → steps + rmF T c g W p' dn' < 1000000 → (∀ c, c ≠ 58 → c ≠ 59 → M' c = M c) → (∀ j, j ≠ 1 → M' 58 j = M 58 j) → RwC r M' → (∀ M'', (∀ c, c ≠ 58 → c ≠ 59 → M'' c = M c) → (∀ j, j ≠ 1 → M'' 58 j = M 58 j) → RwC (wkR T c g W f p' dn' r) M'' → Q (rmF T c g W p dn) M'') → G 46 [lr 67, none, none, none, lr 58, li (rmF T c g W p dn), li (cr T c p'), li (lsF p'), li dn', li (rmF T c g W p' dn'), li steps, none] [] M' := by
    intro f
    induction f with
    | zero =>
      intro p' dn' steps r M' hp' d0' hd' d1' rf r1 s0 s1 e1 e2 e3 fin
      have r0 := rm_r hT (c := c) (g := g) (W := W) (d := dn') hp'
      apply k_Walks_tell_46 hG
      exact ⟨fun w => absurd w (by omega), fun _ => ⟨fun _ => fin M' e1 e2 e3, fun w => absurd (show rmF T c g W p' dn' ≤ 0 by omega) w⟩⟩
    | succ f ih =>
      intro p' dn' steps r M' hp' d0' hd' d1' rf r1 s0 s1 e1 e2 e3 fin
      have r0 := rm_r hT (c := c) (g := g) (W := W) (d := dn') hp'
      have hR' : RepC T M' := by
        intro c j q
        rw [e1 c (by rintro rfl; cases q) (by rintro rfl; cases q)]; exact hR _ _ q
      have hD' := hD.off e1
      apply k_Walks_tell_46 hG
      refine ⟨fun w => absurd w (by omega), fun _ => ⟨fun w => fin M' e1 e2 (by rw [show wkR T c g W (f + 1) p' dn' r = r from if_pos w]; exact e3), fun w => ?_⟩⟩
      refine s_firstNext hT hR' hD' W0 W1 hp' d0' hd' d1' (by omega) r1 (fun q hq => ?_)
      have hqP := hq.1.1
      have q36 : q < 36 := by have := hqP.2; omega
      have eq := nxF_eq hT hp' hq
      have sr := stp_r hT (c := c) hp' hqP
      have qr := rm_r hT (c := c) (g := g) (W := W) (d := dnF T q dn' W) (Or.inr hqP)
      have hs := hq.1.2
      have dr := dnF_r hT (p := q) (done := dn') (aim := W) hqP.1 q36 d0' d1'
      have oq : p' = 36 → og T q = c := fun e => by
        rcases sr with z | ⟨-, -, z, -⟩
        · omega
        · rw [z]; exact if_pos e
      refine ⟨fun _ => s_stp hT hR' hp' hqP oq ?_, fun z => absurd z (by have := hqP.1; omega)⟩
      rw [hD'.2.1]
      refine s_doneWith hT hR' hqP.1 q36 d0' d1' W0 W1 (s_goal hR' hqP.1 q36 (s_putR e3 (fun M2 g1 g2 g3 => ?_)))
      rw [w32_s (by omega) (by omega), w32_1 (by omega) (by omega), show rmF T c g W p' dn' - stp T c p' q = rmF T c g W q (dnF T q dn' W) by omega]
      have := ih q (dnF T q dn' W) (steps + 1) (apd r (gl T q)) M2 (Or.inr hqP) dr.1 (dn_in hd') dr.2 (by omega) (by omega) (by omega) (by omega) (fun c c1 c2 => by rw [g1 c c1 c2]; exact e1 c c1 c2) (fun j hj => by rw [g2 j hj]; exact e2 j hj) g3 (fun M3 a1 a2 a3 => fin M3 a1 a2 (by
        rw [show wkR T c g W (f + 1) p' dn' r = wkR T c g W f (nxF T c g W p' dn') (dnF T (nxF T c g W p' dn') dn' W) (apd r (gl T (nxF T c g W p' dn'))) from if_neg w, eq]
        exact a3))
      rw [cr_c hT hqP, show lsF q = q from if_neg (isP36 hT hqP)] at this
      exact this
  exact key 1000000 p dn 0 _ M1 hp d0 hd d1 (by omega) z (by omega) (by omega) F1 F2 R1 hy
end
