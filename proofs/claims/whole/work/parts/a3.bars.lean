/-! PAIRS OF CALLS: bars (10) -/
section
variable {d : Nat} {Q : Int → es_M → Prop} {T M : es_M}
theorem s_comingTo (hT : TI T) (hR : RepC T M) {f a : Int} (hs : srcOK T (Tg T f) M) (h : ∀ x, lb x (fun p => ∃ r, (isP T r ∧ goes T r ∧ gl T r = a) ∧ (p = r ∨ (isP T p ∧ lkF (Tg T f) p r))) → Q x M) : es_Call (d + 3) 102 [.inr (.inr 60), .inl a] M Q := by
  have hn := hT.n
  apply m_Ways_comingTo
  intro G hG
  apply k_Ways_comingTo_0 hG
  refine es_up (P := fun n => ∀ x, lb x (fun p => ∃ r, ((isP T r ∧ goes T r ∧ gl T r = a) ∧ (p = r ∨ (isP T p ∧ lkF (Tg T f) p r))) ∧ r < n) → G 5 [lr 60, li a, ll x, none, li n] [] M) (n := 2 * T 1 0) (by omega) ?_ ?_ 0 (lb_0 (fun p ⟨r, h1, h2⟩ => by have := h1.1.1.1; omega))
  · intro x hx
    apply k_Ways_comingTo_5 hG
    rw [hR 1 0 rfl, w32_s (by omega) (by omega)]
    exact ⟨fun _ => h x (hx.iff (fun p => ⟨fun ⟨r, h1, _⟩ => ⟨r, h1⟩, fun ⟨r, h1⟩ => ⟨r, h1, h1.1.1.2⟩⟩)), fun z => absurd (Int.le_refl _) z⟩
  · intro n n0 n1 ih x hx
    have hp : isP T n := ⟨n0, n1⟩
    have n36 : n < 36 := by omega
    apply k_Ways_comingTo_5 hG
    rw [hR 1 0 rfl, w32_s (by omega) (by omega), w32_1 (k := n) (by omega) (by omega)]
    have no : ¬ (goes T n ∧ gl T n = a) → G 5 [lr 60, li a, ll x, none, li (n + 1)] [] M := fun z => ih x (hx.iff (fun p => by
      constructor
      · rintro ⟨r, h1, h2⟩; exact ⟨r, h1, by omega⟩
      · rintro ⟨r, h1, h2⟩
        refine ⟨r, h1, ?_⟩
        by_cases e : r = n
        · subst e; exact absurd h1.1.2 z
        · omega))
    refine ⟨fun z => absurd z (by omega), fun _ => s_goes hT hR n0 n36 (fun g => es_t1 (s_goal hR n0 n36 ⟨fun z => no (fun w => z w.2), fun z => ⟨⟨n0, n36⟩, ih _ ((lb_or hx (lb_or (hs n hp) (lb_1 n0 n36))).iff (fun p => ?_))⟩⟩)) (fun g => es_t0 (no (fun w => g w.1)))⟩
    constructor
    · rintro (⟨r, h1, h2⟩ | h1 | h1)
      · exact ⟨r, h1, by omega⟩
      · exact ⟨n, ⟨⟨hp, g, z⟩, Or.inr h1⟩, by omega⟩
      · exact ⟨n, ⟨⟨hp, g, z⟩, Or.inl h1⟩, by omega⟩
    · rintro ⟨r, h1, h2⟩
      by_cases e : r = n
      · subst e
        rcases h1.2 with w | w
        · exact Or.inr (Or.inr w)
        · exact Or.inr (Or.inl w)
      · exact Or.inl ⟨r, h1, by omega⟩
/-- is there a round? by the last passes -/
theorem rnd_last {X : es_M} (hX : TI X) {a : Int} (h0 : 0 < allF X) : rnd X a ↔ ∃ p, hRc X a (allF X) p ∧ ∃ r, (isP X r ∧ goes X r ∧ gl X r = a) ∧ (p = r ∨ (isP X p ∧ lkF X p r)) := by
  rw [rnd_iff hX h0]
  constructor
  · rintro ⟨l, l1, l2⟩
    have hr : hRc X a (allF X) (pl X 36 l) := ⟨l, l1, rfl⟩
    have hp := hR_P hX hr h0
    refine ⟨_, hr, ?_⟩
    rcases l2 with l2 | ⟨r, r1, r2, r3⟩
    · exact ⟨_, ⟨hp.1, hp.2, l2⟩, Or.inl rfl⟩
    · obtain ⟨m, m1, m2, m3⟩ := r3
      have gr : goes X r := by
        obtain ⟨t, k, e⟩ := li_snoc m1
        subst e
        rw [wok_app] at m2
        rw [wlast_app] at m3
        have e3 : k = r := m3
        subst e3
        have hs : isS X (wlast (pl X 36 l) t) := by
          cases t with
          | nil => exact Or.inr hp.1
          | cons x t => exact Or.inr (wok_mem _ _ m2.1 _ (by
              have : ∀ (t : List Int) (p x : Int), wlast p (x :: t) ∈ x :: t := by
                intro t
                induction t with
                | nil => intro p x; exact List.mem_cons_self
                | cons y t ih => intro p x; exact List.mem_cons_of_mem _ (ih x y)
              exact this t _ x))
        exact stp_go hX hs m2.2.1.1 m2.2.1.2
      exact ⟨r, ⟨r1, gr, r2⟩, Or.inr ⟨hp.1, (lk_wy hX hp.1 r1).mpr ⟨hp.2, m, m1, m2, m3⟩⟩⟩
  · rintro ⟨p, ⟨l, l1, rfl⟩, r, ⟨r1, r2, r3⟩, h⟩
    refine ⟨l, l1, ?_⟩
    rcases h with h | ⟨h1, h2⟩
    · exact Or.inl (by rw [h]; exact r3)
    · exact Or.inr ⟨r, r1, r3, ((lk_wy hX h1 r1).mp h2).2⟩
theorem s_hasRound (hT : TI T) (hR : RepC T M) {f a : Int} (f0 : f = -1 ∨ (0 ≤ f ∧ f < 12)) (h1 : rnd (Tg T f) a → ∀ M', (∀ c, c ≠ 64 → c ≠ 65 → M' c = M c) → Q 1 M') (h0 : ¬ rnd (Tg T f) a → ∀ M', (∀ c, c ≠ 64 → c ≠ 65 → M' c = M c) → Q 0 M') : es_Call (d + 6) 98 [.inr (.inr 60), .inl a, .inl f] M Q := by
  have hn := hT.n
  have hv := hT.v
  have ha := hT.all
  have hX := Tg_TI hT (f := f)
  have eA : allF (Tg T f) = allF T := Tg_all
  apply m_Ways_hasRound
  intro G hG
  apply k_Ways_hasRound_0 hG
  refine s_allServices hT hR ⟨fun z => ?_, fun z => ⟨es_b1, h1 ?_ M (fun _ _ _ => rfl)⟩⟩
  rotate_left
  · unfold rnd
    rw [eA, z, rm_a hX (c := a) (g := a) (Or.inl rfl) (if_pos rfl)]
    decide
  have A0 : 0 < allF T := by omega
  rw [w32_1 (k := allF T) (by omega) (by omega)]
  refine s_link hT hR f0 (fun M1 l1 l2 => s_fill65 (by omega) (by omega) (fun M2 g1 g2 => ?_))
  have hs : ∀ M', off5 M2 M' → srcOK T (Tg T f) M' := fun M' o q hq => by rw [o 64 (by decide), g1 64 (by decide)]; exact l2 q hq
  have hR' : ∀ M', off5 M2 M' → RepC T M' := fun M' o => rep65 (rep65 (rep64 hR l1) g1) o
  have fin : ∀ M', off5 M2 M' → ∀ c, c ≠ 64 → c ≠ 65 → M' c = M c := fun M' o c c1 c2 => by rw [o c c2, g1 c c2, l1 c c1]
  -- what is done last
  have S3 : ∀ M', off5 M2 M' → tb5 T M' (hSn (Tg T f) a 1) → G 193 [lr 60, li a, none, li (allF T), none, none, li 1, none, none] [] M' := by
    refine es_upl (P := fun D => ∀ M', off5 M2 M' → tb5 T M' (hSn (Tg T f) a D) → G 193 [lr 60, li a, none, li (allF T), none, none, li D, none, none] [] M') (lo := 1) (n := allF T) (by omega) ?_ ?_
    · intro M' o t
      apply k_Ways_hasRound_193 hG
      refine ⟨fun _ => ⟨by omega, s_comingTo hT (hR' M' o) (hs M' o) (fun x hx => ?_)⟩, fun z => absurd (Int.le_refl _) z⟩
      have key := lb_and (t (allF T) (by omega) (Int.le_refl _)) hx
      have rl := rnd_last hX (a := a) (by rw [eA]; exact A0)
      rw [eA] at rl
      have kk : ¬ es_lcmp (es_land (M' 65 (allF T)) x) 0 = 0 ↔ rnd (Tg T f) a := by
        rw [key, rl]
        constructor
        · intro w
          obtain ⟨p, hp⟩ := Classical.not_forall.mp w
          obtain ⟨p1, r, ⟨r1, r2, r3⟩, r4⟩ := Classical.not_not.mp hp
          exact ⟨p, (hR_S A0).mpr p1, r, ⟨Tg_isP.mpr r1, Tg_goes.mpr r2, by rw [Tg_gl]; exact r3⟩, r4.imp id (fun y => ⟨Tg_isP.mpr y.1, y.2⟩)⟩
        · rintro ⟨p, p1, r, ⟨r1, r2, r3⟩, r4⟩ w
          have pp := hR_P hX p1 A0
          have p0 := pp.1.1
          have := w p.toNat
          rw [toNI p0] at this
          rw [Tg_gl] at r3
          exact this ⟨(hR_S A0).mp p1, r, ⟨Tg_isP.mp r1, Tg_goes.mp r2, r3⟩, r4.imp id (fun y => ⟨Tg_isP.mp y.1, y.2⟩)⟩
      exact ⟨fun z => ⟨es_b0, h0 (fun w => kk.mpr w z) M' (fin M' o)⟩, fun z => ⟨es_b1, h1 (kk.mp z) M' (fin M' o)⟩⟩
    · intro D D0 D1 ih M' o t
      apply k_Ways_hasRound_193 hG
      rw [w32_1 (k := D) (by omega) (by omega)]
      refine ⟨fun z => absurd z (by omega), fun _ => ⟨by omega, fun z => ih M' o (tb5_n t (fun E q => ?_)), fun z => s_spread hT (hR' M' o) (by omega) D1 (hs M' o) t (fun M'' o2 t2 => ih M'' (fun c hc => by rw [o2 c hc, o c hc]) t2)⟩⟩
      constructor
      · rintro ⟨D', p, k, w1, w2⟩; exact ⟨D', p, k, ⟨w1.1, by omega⟩, w2⟩
      · rintro ⟨D', p, k, w1, w2⟩
        refine ⟨D', p, k, ⟨w1.1, ?_⟩, w2⟩
        by_cases e : D' = D
        · exfalso
          subst e
          have lbD := t D' (by omega) (by omega)
          have hr := (hR_S (by omega)).mp w2.1
          have pp := hR_P hX w2.1 (by omega)
          have p0 := pp.1.1
          have bit := (lbD.2 p.toNat).mpr (by rw [toNI p0]; exact hr)
          rw [el_0] at z
          rw [z, show (0 : Int).toNat = 0 from rfl, Nat.zero_testBit] at bit
          cases bit
        · omega
  -- what is done first
  have S2 : ∀ x, lb x (fun p => isP T p ∧ goes T p ∧ og T p = a) → G 91 [lr 60, li a, none, li (allF T), ll x, none, li 0, none, none] [] M2 := by
    intro x hx
    refine es_up (P := fun k => ∀ M', off5 M2 M' → tb5 T M' (hSk (Tg T f) a 0 k) → G 91 [lr 60, li a, none, li (allF T), ll x, none, li k, none, none] [] M') (n := 2 * T 1 1) (by omega) ?_ ?_ M2 (fun _ _ => rfl) ?_
    · intro M' o t
      apply k_Ways_hasRound_91 hG
      rw [hR' M' o 1 1 rfl, w32_s (by omega) (by omega)]
      refine ⟨fun _ => S3 M' o (tb5_n t (fun E q => ?_)), fun z => absurd (Int.le_refl _) z⟩
      have := hSk_e (X := Tg T f) (a := a) (E := E) (q := q) (Int.le_refl 0)
      rw [Tg_o (k := 1) (by decide) (by decide)] at this
      exact this
    · intro k k0 k1 ih M' o t
      have hk : isK T k := ⟨k0, k1⟩
      have hXk : isK (Tg T f) k := Tg_isK.mpr hk
      have kp := poF_r hT k0 k1
      have hp : isP T (poF T k) := ⟨kp.1, kp.2.1⟩
      have hpX : isP (Tg T f) (poF T k) := Tg_isP.mpr hp
      have sh : es_shr k 1 = k / 2 := ei_shr1 k0 (by omega)
      have v0 : 0 ≤ k / 2 := by omega
      have v1 : k / 2 < 10 := by omega
      have v2 : k / 2 < T 1 1 := by omega
      have sl := shl_v v0 (by omega)
      have wr := wth_all hT (D := 0) (v := k / 2) (Int.le_refl _) (by omega) v0 v2
      have w0 := wth_nn (d := 0) (v := k / 2)
      have dueE : (∃ p, hRc (Tg T f) a 0 p ∧ hst (Tg T f) a 0 p k) ↔ (((canDo T k ∧ goes T (poF T k)) ∧ T 12 (k / 2) = 0) ∧ wyE (Tg T f) a 36 (poF T k)) := by
        have z12 : free T (k / 2) (allF T) 0 ↔ T 12 (k / 2) = 0 := by
          rw [free_all hT v0 v1]
          have ah := hT.ah v0 v1
          constructor
          · intro w; exact sub.eq ah.2.1 (Int.le_refl _) w (fun i hi => by rw [show (0 : Int).toNat = 0 from rfl, Nat.zero_testBit] at hi; cases hi)
          · intro w; rw [w]; exact sub.rf 0
        constructor
        · rintro ⟨p, p1, p2⟩
          rw [hR_0] at p1
          subst p1
          unfold hst at p2
          rw [Tg_po, Tg_due, eA] at p2
          exact ⟨⟨p2.1.2.1, z12.mp p2.1.2.2.2⟩, p2.2⟩
        · rintro ⟨⟨p1, p2⟩, p3⟩
          refine ⟨36, hR_0.mpr rfl, ?_⟩
          unfold hst
          rw [Tg_po, Tg_due, eA]
          exact ⟨⟨hXk, p1, ⟨ebit_all hT v0 v2, fun w => by unfold ebit at w; rw [show (0 : Int).toNat = 0 from rfl, Nat.zero_testBit] at w; cases w⟩, z12.mpr p2⟩, p3⟩
      have cm : ¬ es_lcmp (es_land x (es_lor (M' 64 (poF T k)) (es_lshl 1 (poF T k)))) 0 = 0 ↔ wyE (Tg T f) a 36 (poF T k) := by
        rw [lb_and hx (lb_or (hs M' o _ hp) (lb_1 kp.1 kp.2.2.1)), wy_36 hX hpX]
        constructor
        · intro w
          obtain ⟨p, hp⟩ := Classical.not_forall.mp w
          obtain ⟨⟨p1, p2, p3⟩, p4⟩ := Classical.not_not.mp hp
          refine ⟨p, ⟨Tg_isP.mpr p1, Tg_goes.mpr p2, by rw [Tg_og]; exact p3⟩, ?_⟩
          rcases p4 with p4 | p4
          · exact Or.inr p4.2
          · exact Or.inl p4
        · rintro ⟨p, ⟨p1, p2, p3⟩, p4⟩ w
          have p0 := p1.1
          have := w p.toNat
          rw [toNI p0] at this
          rw [Tg_og] at p3
          refine this ⟨⟨Tg_isP.mp p1, Tg_goes.mp p2, p3⟩, ?_⟩
          rcases p4 with p4 | p4
          · exact Or.inr p4
          · exact Or.inl ⟨Tg_isP.mp p1, p4⟩
      have no : (¬ ∃ p, hRc (Tg T f) a 0 p ∧ hst (Tg T f) a 0 p k) → G 91 [lr 60, li a, none, li (allF T), ll x, none, li (k + 1), none, none] [] M' := fun z => ih M' o (tb5_n t (fun E q => by rw [hSk_s]; exact ⟨Or.inl, fun y => y.elim id (fun x => absurd x.1 z)⟩))
      rw [dueE] at no
      apply k_Ways_hasRound_91 hG
      rw [hR' M' o 1 1 rfl, w32_s (by omega) (by omega), w32_1 (k := k) (by omega) (by omega), sh, sl]
      refine ⟨fun z => absurd z (by omega), fun _ => s_doer hT (hR' M' o) k0 k1 (fun c1 c2 => ⟨fun z => absurd z (by omega), fun _ => ⟨⟨kp.1, kp.2.2.1⟩, fun z => ⟨fun _ => no (fun w => cm.mpr w.2 z), fun y => absurd rfl y⟩, fun z => es_t1 ⟨⟨v0, v1⟩, ?_⟩⟩⟩) (fun c => ⟨fun _ => ⟨fun _ => no (fun w => c w.1.1), fun y => absurd rfl y⟩, fun z => absurd rfl z⟩)⟩
      rw [hR' M' o 12 _ rfl]
      refine ⟨fun y => no (fun w => y w.1.2), fun y => ⟨by omega, by omega, ?_⟩⟩
      refine ih _ (fun c hc => by rw [es_upd_o c hc]; exact o c hc) (tb5_u t w0 wr kp.1 kp.2.2.1 (fun E q => ?_))
      rw [hSk_s, Tg_po, dueE]
      exact ⟨fun z => z.elim Or.inl (fun w => Or.inr w.2), fun x => x.elim Or.inl (fun w => Or.inr ⟨⟨⟨⟨c1, c2⟩, y⟩, cm.mp z⟩, w⟩)⟩
    · intro E E0 E1
      rw [g2 E E0 (by omega)]
      refine lb_0 (fun p w => ?_)
      rw [hSk_0] at w
      obtain ⟨D, p', k, w1, -⟩ := w
      omega
  refine es_up (P := fun n => ∀ x, lb x (fun p => (isP T p ∧ goes T p ∧ og T p = a) ∧ p < n) → G 37 [lr 60, li a, none, li (allF T), ll x, none, li n, none, none] [] M2) (n := 2 * T 1 0) (by omega) ?_ ?_ 0 (lb_0 (fun p w => by have := w.1.1.1; omega))
  · intro x hx
    apply k_Ways_hasRound_37 hG
    rw [hR' M2 (fun _ _ => rfl) 1 0 rfl, w32_s (by omega) (by omega)]
    exact ⟨fun _ => S2 x (hx.iff (fun p => ⟨fun w => w.1, fun w => ⟨w, w.1.2⟩⟩)), fun z => absurd (Int.le_refl _) z⟩
  · intro n n0 n1 ih x hx
    have hp : isP T n := ⟨n0, n1⟩
    have n36 : n < 36 := by omega
    have hR2 := hR' M2 (fun _ _ => rfl)
    apply k_Ways_hasRound_37 hG
    rw [hR2 1 0 rfl, w32_s (by omega) (by omega), w32_1 (k := n) (by omega) (by omega)]
    have no : ¬ (goes T n ∧ og T n = a) → G 37 [lr 60, li a, none, li (allF T), ll x, none, li (n + 1), none, none] [] M2 := fun z => ih x (hx.iff (fun p => by
      constructor
      · rintro ⟨w1, w2⟩; exact ⟨w1, by omega⟩
      · rintro ⟨w1, w2⟩
        refine ⟨w1, ?_⟩
        by_cases e : (p : Int) = n
        · rw [e] at w1; exact absurd w1.2 z
        · omega))
    refine ⟨fun z => absurd z (by omega), fun _ => s_goes hT hR2 n0 n36 (fun g => es_t1 (s_origin hR2 n0 n36 ⟨fun z => no (fun w => z w.2), fun z => ih _ ((lb_or hx (lb_1 n0 n36)).iff (fun p => ?_))⟩)) (fun g => es_t0 (no (fun w => g w.1)))⟩
    constructor
    · rintro (⟨w1, w2⟩ | w)
      · exact ⟨w1, by omega⟩
      · rw [w]; exact ⟨⟨hp, g, z⟩, by omega⟩
    · rintro ⟨w1, w2⟩
      by_cases e : (p : Int) = n
      · exact Or.inr e
      · exact Or.inl ⟨w1, by omega⟩
end
