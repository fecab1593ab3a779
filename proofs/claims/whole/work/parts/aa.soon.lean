/-! PAIRS OF CALLS: soonest (6). The class's round, closed -/
section
variable {d : Nat} {Q : Int → es_M → Prop} {T M : es_M}
abbrev offY (M M' : es_M) : Prop := ∀ c, c ≠ 60 → c ≠ 61 → c ≠ 62 → c ≠ 63 → c ≠ 66 → c ≠ 89 → M' c = M c
theorem tb36 {q : Int} : tb T 36 q = 0 := if_pos rfl
theorem tr_ge (hT : TI T) {a m p e t : Int} (m0 : 0 ≤ m ∧ m < 1440) (h : trR T a m p e t) : m ≤ t := by
  refine (h (fun p e t => trR T a m p e t ∧ m ≤ t) ⟨tr_1, Int.le_refl _⟩ ?_).2
  rintro p e t q ⟨i1, i2⟩ h1 h2
  have r := tr_r hT m0 i1
  have sr := tst_r hT r.1 h1
  have se := (se_r hT h1.1 sr.1.2 (r := t + tb T p q) (by omega)).2 h2
  exact ⟨tr_s i1 h1 h2, by omega⟩
theorem s_soonestRound (hT : TI T) (hR : RepC T M) (hC : CacheOK T M) {a m : Int} (m0 : 0 ≤ m ∧ m < 1440) (h : ∀ y M', offY M M' → (∀ j, j ≠ 5 → M' 60 j = M 60 j) → CacheOK T M' → isMin (soS T a m) y → Q y M') : es_Call (d + 6) 162 [.inr (.inr 88), .inl a, .inl m] M Q := by
  have hn := hT.n
  have hv := hT.v
  have ha := hT.all
  apply m_Clock_soonestRound
  intro G hG
  apply k_Clock_soonestRound_0 hG
  refine s_allServices hT hR ⟨fun nz => ?_, fun z => h m M (fun _ _ _ _ _ _ _ => rfl) (fun _ _ => rfl) hC ⟨by omega, fun c hc => ?_, fun _ => ⟨36, by rw [z]; exact tr_1, if_pos rfl⟩⟩⟩
  rotate_left
  · obtain ⟨p, p1, -⟩ := hc
    exact tr_ge hT m0 p1
  refine s_refresh hT hR hC (fun M1 r1 r2 r3 r4 r5 => ?_)
  have wN : w32 (w32 (allF T + 1) * 20) = (allF T + 1) * 20 := by rw [w32_1 (by omega) (by omega), w32_s (by omega) (by omega)]
  rw [wN]
  refine s_fill66 (by omega) (by omega) (fun M2 g1 g2 => s_fill89 (fun M3 k1 k2 => ?_))
  have off3 : ∀ M', offZ M3 M' → offY M M' := fun M' o c c1 c2 c3 c4 c5 c6 => by rw [o c c5 c6, k1 c c6, g1 c c5, r1 c c1 c2 c3 c4]
  have rep3 : ∀ M', offZ M3 M' → RepC T M' := fun M' o c j q => by
    rw [off3 M' o c (by rintro rfl; cases q) (by rintro rfl; cases q) (by rintro rfl; cases q) (by rintro rfl; cases q) (by rintro rfl; cases q) (by rintro rfl; cases q)]
    exact hR _ _ q
  have c3 : ∀ c, c = 60 ∨ c = 61 ∨ c = 62 ∨ c = 63 → ∀ M', offZ M3 M' → M' c = M1 c := fun c hc M' o => by
    have c66 : c ≠ 66 := by omega
    have c89 : c ≠ 89 := by omega
    rw [o c c66 c89, k1 c c89, g1 c c66]
  have nx3 : ∀ M', offZ M3 M' → nextsOK T M' := fun M' o => by
    have := r5
    unfold nextsOK at this ⊢
    rw [c3 62 (by decide) M' o, c3 63 (by decide) M' o]
    exact this
  have fin : ∀ y M', offZ M3 M' → isMin (soS T a m) y → Q y M' := fun y M' o hy => by
    refine h y M' (off3 M' o) (fun j hj => by rw [c3 60 (by decide) M' o]; exact r2 j hj) ⟨Or.inl (by rw [c3 60 (by decide) M' o]; exact r3), fun _ => ⟨leastOK.of hT (fun p q hp hq => by rw [c3 61 (by decide) M' o]; exact r4 p q hp hq), nx3 M' o⟩⟩ hy
  have ok3 : okR T a m 0 M3 := ⟨fun p hp => by rw [k2 p hp.1 (by have := hp.2; omega)]; exact okV_N, fun w k w0 w1 k0 kl => by
    rw [k1 66 (by decide), g2 (w * 20 + k) (by omega) (by omega)]
    exact ⟨okV_N, fun z => absurd z (by decide)⟩⟩
  clear k2 g2 wN
  refine es_up (P := fun k => ∀ M', offZ M3 M' → okR T a m 0 M' → (∀ q, q < k → tst T a 36 q → sltF T 0 q M' ≤ seF T q (m + tb T 36 q)) → G 49 [lr 88, li a, li m, li (allF T), li k] [] M') (n := 2 * T 1 0) (by omega) ?_ ?_ M3 (fun _ _ _ => rfl) ok3 (fun q z ht => absurd ht.1.1 (by omega))
  · intro M4 f1 f2 f3
    apply k_Clock_soonestRound_49 hG
    rw [rep3 M4 f1 1 0 rfl, w32_s (by omega) (by omega)]
    refine ⟨fun _ => s_settle hT (rep3 M4 f1) (nx3 M4 f1) m0 (by decide) ha.1 f2 (fun M5 o1 o2 o3 o4 => ?_), fun z => absurd (Int.le_refl _) z⟩
    have o35 : offZ M3 M5 := fun c x1 x2 => by rw [o1 c x1 x2]; exact f1 c x1 x2
    have st : ∀ q, tst T a 36 q → sltF T 0 q M5 ≤ seF T q (m + tb T 36 q) := fun q ht => Int.le_trans (slt_dec o2) (f3 q ht.1.2 ht)
    have l0 : lay T a m 0 M5 := lay_of hT m0 o3 o4 (fun p e q hp e0 e1 ht hd hc lt => by
      have dl := dn_le hT (q := q) e0 e1
      rw [hd] at dl
      have ee : e = 0 := by omega
      subst ee
      have hp36 : p = 36 := hc.elim id (fun z => absurd rfl z)
      subst hp36
      have tr := (sf_min hT (a := a) (p := 36) (d := 0) m0).2.2 lt
      have r := (tr_r hT m0 tr).2.2.2 rfl
      have := st q ht
      unfold sltF at this
      rw [if_pos hd] at this
      rw [r.2]; exact this)
    have cp0 : cplt T a m 0 M5 := cplt_of hT m0 (by decide) l0 o4 (fun _ => st) (fun p e q _ e0 e1 => by omega)
    refine es_up (P := fun k => ∀ M', offZ M3 M' → okR T a m k M' → lay T a m k M' → cplt T a m k M' → G 116 [lr 88, li a, none, li (allF T), li (k + 1)] [] M') (n := allF T) ha.1 ?_ ?_ M5 o35 o3 l0 cp0
    · intro M' y1 y2 y3 y4
      apply k_Clock_soonestRound_116 hG
      refine ⟨fun _ => s_soonestAt hT (rep3 M' y1) (fun y a1 a2 a3 => fin y M' y1 ⟨a1, fun c hc => ?_, fun lt => ?_⟩), fun z => absurd (by omega) z⟩
      · obtain ⟨p, p1, p2⟩ := hc
        have r := tr_r hT m0 p1
        rcases r.1 with z | hp
        · exact absurd (r.2.2.2 z).1 nz
        · rw [cr_c hT hp] at p2
          have := a2 p hp p2
          rw [y3 p hp] at this
          exact Int.le_trans this (sf_le hT m0 p1).1
      · rcases a3 with z | ⟨p, hp, p2, p3⟩
        · omega
        · refine ⟨p, ?_, by rw [cr_c hT hp]; exact p2⟩
          have := (y2.1 p hp).2 (by omega)
          rw [← p3] at this
          exact this
    · intro k k0 kl ih M' y1 y2 y3 y4
      apply k_Clock_soonestRound_116 hG
      rw [w32_1 (k := k + 1) (by omega) (by omega)]
      refine ⟨fun z => absurd z (by omega), fun _ => s_takeUp hT (rep3 M' y1) (a := a) (m := m) (by omega) (by omega) y2.2 (fun b M6 b1 t1 t2 t3 t4 => ?_)⟩
      have o36 : offZ M3 M6 := fun c x1 x2 => by rw [t1 c x2]; exact y1 c x1 x2
      have nxt : ∀ M7, offZ M3 M7 → okR T a m (k + 1) M7 → (∀ p, isP T p → M7 89 p < 1000000 → clsd T a (k + 1) p M7) → decR M6 M7 → G 116 [lr 88, li a, none, li (allF T), li (k + 1 + 1)] [] M7 := by
        intro M7 z1 z2 z3 z4
        have d66 : ∀ j, M7 66 j ≤ M' 66 j := fun j => by have := z4.2 j; rw [t1 66 (by decide)] at this; exact this
        have l : lay T a m (k + 1) M7 := lay_of hT m0 z2 z3 (fun p e q hp e0 e1 ht hd hc lt => by
          have dl := dn_le hT (q := q) e0 e1
          have tr := (sf_min hT (a := a) (p := p) (d := e) m0).2.2 lt
          have r := tr_r hT m0 tr
          have el : e ≤ k := by
            rw [hd] at dl
            rcases hc with z | z
            · have := (r.2.2.2 z).1; omega
            · omega
          have ne : ¬ dnF T q e (allF T) = e := by rw [hd]; omega
          have sr := tst_r hT hp ht
          have cd := cd_of hT ht.1 sr.1.1 ne
          have c := y4 p e q hp e0 el lt ht ne
          have t := t3 (cdF T q) cd.2.1.1 cd.2.1.2 (by rw [cd.2.2.1, cd.2.2.2])
          rw [cd.2.2.1] at t
          rw [hd] at c
          exact Int.le_trans (z4.1 q) (Int.le_trans t c))
        exact ih M7 z1 z2 l (cplt_of hT m0 (by omega) l z3 (fun z => by omega) (fun p e q hp e0 e1 lt ht hd => Int.le_trans (d66 _) (y4 p e q hp e0 (by omega) lt ht hd)))
      rcases b1 with b1 | b1
      · subst b1
        exact es_t0 (nxt M6 o36 t2 (fun p hp z => by rw [t4 rfl p hp] at z; omega) decR.rf)
      · subst b1
        exact es_t1 (s_settle hT (rep3 M6 o36) (nx3 M6 o36) m0 (by omega) (by omega) t2 (fun M7 z1 z2 z3 z4 => nxt M7 (fun c x1 x2 => by rw [z1 c x1 x2]; exact o36 c x1 x2) z3 z4 z2))
  · intro k k0 kl ih M' f1 f2 f3
    have hk : isP T k := ⟨k0, kl⟩
    apply k_Clock_soonestRound_49 hG
    rw [rep3 M' f1 1 0 rfl, w32_s (by omega) (by omega), w32_1 (k := k) (by omega) (by omega)]
    have no : ¬ tst T a 36 k → G 49 [lr 88, li a, li m, li (allF T), li (k + 1)] [] M' := fun z => ih M' f1 f2 (fun q ql ht => by
      by_cases e : q = k
      · subst e; exact absurd ht z
      · exact f3 q (by omega) ht)
    have tz : tst T a 36 k → goes T k ∧ og T k = a := fun ht => by
      have sr := tst_r hT (Or.inl rfl) ht
      exact ⟨sr.1.1, sr.2.2.2⟩
    refine ⟨fun z => absurd z (by omega), fun _ => s_goes hT (rep3 M' f1) k0 (by omega) (fun g => es_t1 (s_origin (rep3 M' f1) k0 (by omega) ⟨fun z => no (fun t => z (tz t).2), fun z => ?_⟩)) (fun g => es_t0 (no (fun t => g (tz t).1)))⟩
    have ht : tst T a 36 k := ⟨hk, by rw [stp36 z g]; have := ln_r hT hk; omega⟩
    have hl := goes_ln g
    have se := se_r hT hk hl (r := m) m0.1
    refine s_soonestEnd hT (rep3 M' f1) hk hl m0.1 (by omega) (s_arrive hT (rep3 M' f1) hk g (by decide) ha.1 f2 ⟨se.1, fun w => ?_⟩ (fun M5 g1 g2 g3 g4 _ => ih M5 (fun c x1 x2 => by rw [g1 c x1 x2]; exact f1 c x1 x2) g3 (fun q ql hq => ?_)))
    · have := tr_s (tr_1 (T := T) (a := a) (m := m)) ht (by rw [tb36, Int.add_zero]; exact w)
      rw [tb36, Int.add_zero] at this
      exact this
    · by_cases e : q = k
      · subst e; rw [tb36, Int.add_zero]; exact g4
      · exact Int.le_trans (slt_dec g2) (f3 q (by omega) hq)
end
