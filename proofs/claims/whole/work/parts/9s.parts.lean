/-! PAIRS OF CALLS: parts (5). The model: whether a set hangs together -/
section
variable {d : Nat} {Q : Int → es_M → Prop} {T M : es_M}
theorem sub0_eq {e : Int} (e0 : 0 ≤ e) (h : sub e 0) : e = 0 := sub.eq e0 (Int.le_refl 0) h (s0W e)
theorem s_m_hangs (hT : TI T) (hR : RepM T M) {S : Int} (S0 : 0 ≤ S) (S1 : S ≤ allF T) (hy : (S = 0 ∨ (whs T S ∧ hng T S (T 10 (ntzN S.toNat : Nat)))) → Q 1 M) (hn : ¬ (S = 0 ∨ (whs T S ∧ hng T S (T 10 (ntzN S.toNat : Nat)))) → Q 0 M) : es_Call (d + 2) 272 [.inr (.inr 91), .inl S] M Q := by
  have hv := hT.v
  have ha := hT.all
  have hnn := hT.n
  have S1024 : S < 1024 := by omega
  have S31 : S < 2147483648 := by omega
  have low := fun (t : Int) (h0 : 0 < S) => low_st hT (t := t) h0 S1
  have s0z : 0 < S → inZ T S (T 10 (ntzN S.toNat : Nat)) ∧ 0 ≤ T 10 (ntzN S.toNat : Nat) := fun h0 => by
    obtain ⟨n1, n2, -⟩ := ntz_sp (x := S.toNat) (by omega) (by omega)
    have nT : ((ntzN S.toNat : Nat) : Int) < T 1 1 := by
      have := (sub_all hT S0).mpr S1 _ n2
      rw [all_bit hT, decide_eq_true_eq] at this
      clear ha S1
      omega
    exact ⟨⟨_, ⟨Int.natCast_nonneg _, nT⟩, by unfold ebit; rw [Int.toNat_natCast]; exact n2, rfl⟩, (hT.sr (Int.natCast_nonneg _) nT).1.1⟩
  clear ha S1
  generalize T 10 ((ntzN S.toNat : Nat) : Int) = s0 at low s0z hy hn
  apply m_Model_hangs
  intro G hG
  apply k_Model_hangs_0 hG
  -- rounds
  have L3 : ∀ z, zOK T S z → whs T S → G 88 [lr 91, none, li z, li 0, li 0, li 0, none, none] [] M := by
    intro z hz hw
    have z31 : z < 2147483648 := Int.lt_trans hz.1.2 (by decide)
    have eb : ∀ e : Int, sub e z → (pcN 18 e.toNat : Int) ≤ T 1 0 := fun e he => by
      have := pcN_bd (x := e.toNat) (n := (T 1 0).toNat) (fun i hi => by
        cases q : e.toNat.testBit i
        · rfl
        · have := hz.r hT (he i q); omega) 18
      omega
    have r0 : mgI T S s0 z 0 0 := ⟨by decide, ⟨Int.le_refl 0, s0W z⟩, fun k _ _ b => (by unfold ebit at b; rw [show (0 : Int).toNat = 0 from rfl, Nat.zero_testBit] at b; cases b), fun s _ _ b => (by unfold ebit at b; rw [show (0 : Int).toNat = 0 from rfl, Nat.zero_testBit] at b; cases b), fun w => absurd rfl w⟩
    refine es_up (P := fun r => ∀ c e, mgI T S s0 z c e → (mgC T z c e ∨ r ≤ (pcN 18 e.toNat : Int)) → G 88 [lr 91, none, li z, li c, li e, li r, none, none] [] M) (n := T 1 0 + 1) (by omega) ?_ ?_ 0 0 r0 (Or.inr (Int.natCast_nonneg _))
    · intro c e hI hp
      have hC : mgC T z c e := by
        rcases hp with w | w
        · exact w
        · have := eb e hI.2.1.2; omega
      apply k_Model_hangs_88 hG
      rw [hR 91 3 rfl, hnn.2.2]
      refine ⟨fun _ => ⟨fun w => ⟨es_b0, hn (fun q => ?_)⟩, fun w => ⟨es_b1, hy ?_⟩⟩, fun w => absurd (by omega) w⟩
      · rcases q with q | q
        · have zz : z = 0 := sub0_eq hz.1.1 (fun i hi => by
            obtain ⟨v, v0, v1, v2⟩ := (hz.2 i).mp hi
            unfold ebit at v1; rw [q, show (0 : Int).toNat = 0 from rfl, Nat.zero_testBit] at v1; cases v1)
          rw [zz] at hI w
          exact w (sub0_eq hI.2.1.1 hI.2.1.2)
        · by_cases sp : 0 < S
          · exact w ((mg_end hT hz hI hC (s0z sp).1 (s0z sp).2).mpr q.2)
          · have zz : z = 0 := sub0_eq hz.1.1 (fun i hi => by
              obtain ⟨v, v0, v1, v2⟩ := (hz.2 i).mp hi
              unfold ebit at v1; rw [show S = 0 by omega, show (0 : Int).toNat = 0 from rfl, Nat.zero_testBit] at v1; cases v1)
            rw [zz] at hI w
            exact w (sub0_eq hI.2.1.1 hI.2.1.2)
      · by_cases sp : 0 < S
        · exact Or.inr ⟨hw, (mg_end hT hz hI hC (s0z sp).1 (s0z sp).2).mp w⟩
        · exact Or.inl (by omega)
    · intro r r0' r1 ih c e hI hp
      apply k_Model_hangs_88 hG
      rw [hR 91 3 rfl, hnn.2.2]
      refine ⟨fun w => absurd w (by omega), fun _ => ?_⟩
      have wr : w32 (r + 1) = r + 1 := w32_1 (by omega) (by omega)
      refine es_up (P := fun t => ∀ c' e', mgI T S s0 z c' e' → ((c' = c ∧ e' = e ∧ ∀ u, 0 ≤ u → u < t → ebit z u → ¬ ebit e u → ¬ tcM T c e u) ∨ (pcN 18 e.toNat < pcN 18 e'.toNat ∧ ¬ mgC T z c e ∧ e' ≠ 0)) → G 100 [lr 91, none, li z, li c', li e', li r, li t, none] [] M) (n := T 1 0) hnn.1 ?_ ?_ c e hI (Or.inl ⟨rfl, rfl, fun u x y => absurd y (by omega)⟩)
      · intro c' e' hI' hp'
        apply k_Model_hangs_100 hG
        rw [hR 91 3 rfl, hnn.2.2, wr]
        refine ⟨fun _ => ih c' e' hI' ?_, fun w => absurd (Int.le_refl _) w⟩
        rcases hp' with ⟨e1, e2, e3⟩ | ⟨e1, e2, -⟩
        · rw [e1, e2]; exact Or.inl e3
        · rcases hp with w | w
          · exact absurd w e2
          · exact Or.inr (by omega)
      · intro t t0 t1 ih2 c' e' hI' hp'
        obtain ⟨b1, b2, -, -, -, m1, m2, -⟩ := hT.st t0 t1
        have ei := wth_4096 (wth_4096 (c := 0) (by decide) b1.1 b1.2) b2.1 b2.2
        have w1 := wth_4096 (c := 0) (by decide) b1.1 b1.2
        have t18 : t < 18 := by clear ei w1; omega
        have t36 : 0 ≤ t ∧ t < 36 := by clear ei w1; omega
        have nle : ¬ T 1 0 ≤ t := by clear ei w1; omega
        have wt : w32 (t + 1) = t + 1 := w32_1 (by clear ei w1; omega) (by clear ei w1; omega)
        have e31 : e' < 2147483648 := by
          have := sub_le hI'.2.1.1 hI'.2.1.2
          have := hz.1
          clear ei w1
          omega
        have keep : (ebit z t → ¬ ebit e' t → ¬ tcM T c' e' t) → G 100 [lr 91, none, li z, li c', li e', li r, li (t + 1), none] [] M := fun no => ih2 c' e' hI' (by
          rcases hp' with ⟨e1, e2, e3⟩ | w
          · refine Or.inl ⟨e1, e2, fun u x y bz be => ?_⟩
            by_cases q : u = t
            · rw [q] at bz be ⊢
              rw [← e2] at be ⊢
              rw [← e1]; exact no bz be
            · exact e3 u x (by clear ei w1; omega) bz be
          · exact Or.inr w)
        have take : ebit z t → ¬ ebit e' t → tcM T c' e' t → G 100 [lr 91, none, li z, li (orI c' (wth (wth 0 (T 2 t)) (T 3 t))), li (wth e' t), li r, li (t + 1), none] [] M := fun bz be tc => by
          have iz : inZ T S t := by
            have := (hz.2 t.toNat).mp bz
            rw [toNI t0] at this
            exact this
          have Sp : 0 < S := by
            obtain ⟨v, v0, v1, v2⟩ := iz
            by_cases q : S = 0
            · unfold ebit at v1; rw [q, show (0 : Int).toNat = 0 from rfl, Nat.zero_testBit] at v1; cases v1
            · clear ei w1; omega
          have first : e' = 0 → t = s0 := fun q => by
            refine low t Sp iz (fun u hu izu => ?_)
            rcases hp' with ⟨e1, e2, e3⟩ | ⟨-, -, w⟩
            · obtain ⟨v, v0, v1, v2⟩ := izu
              have ru := (hT.sr v0.1 v0.2).1
              rw [v2] at ru
              refine e3 u ru.1 hu ?_ (fun b => ?_) (Or.inl (by rw [← e2]; exact q))
              · unfold ebit; rw [hz.2, toNI ru.1]; exact ⟨v, v0, v1, v2⟩
              · rw [← e2, q] at b
                unfold ebit at b; rw [show (0 : Int).toNat = 0 from rfl, Nat.zero_testBit] at b; cases b
            · exact w q
          have ri : rch T S s0 t := by
            rcases tc with q | q | q
            · rw [first q]; exact fun X h0 _ => h0
            · obtain ⟨s, x1, x2, x3⟩ := hI'.2.2.1 _ b1.1 b1.2 q
              refine rch_s x1 x2 iz ?_
              rcases x3 with x3 | x3
              · exact Or.inl x3
              · exact Or.inr (Or.inr (Or.inl x3))
            · obtain ⟨s, x1, x2, x3⟩ := hI'.2.2.1 _ b2.1 b2.2 q
              refine rch_s x1 x2 iz ?_
              rcases x3 with x3 | x3
              · exact Or.inr (Or.inl x3)
              · exact Or.inr (Or.inr (Or.inr x3))
          have pw := pc_wth' t0 t18 be
          refine ih2 _ _ (mg_step hT hz hI' t0 t1 bz ri first) (Or.inr ⟨?_, ?_, ?_⟩)
          · rcases hp' with ⟨e1, e2, e3⟩ | ⟨w, -, -⟩
            · rw [pw, e2]; exact Nat.lt_succ_self _
            · rw [pw]; exact Nat.lt_succ_of_lt w
          · rcases hp' with ⟨e1, e2, e3⟩ | ⟨-, w, -⟩
            · rw [e1, e2] at tc; rw [e2] at be; exact fun w => w t t0 t1 bz be tc
            · exact w
          · intro q
            have : ebit (wth e' t) t := wth_in
            rw [q] at this
            unfold ebit at this; rw [show (0 : Int).toNat = 0 from rfl, Nat.zero_testBit] at this; cases this
        have z1 : es_shl 1 (T 2 t) = wth 0 (T 2 t) := shl_v b1.1 (Int.lt_trans b1.2 (by decide))
        have z2 : es_or (wth 0 (T 2 t)) (es_shl 1 (T 3 t)) = wth (wth 0 (T 2 t)) (T 3 t) := ei_or1 w1.1 (Int.lt_trans w1.2 (by decide)) b2.1 (Int.lt_trans b2.2 (by decide))
        have z3 : es_or c' (wth (wth 0 (T 2 t)) (T 3 t)) = orI c' (wth (wth 0 (T 2 t)) (T 3 t)) := ei_or hI'.1.1 (Int.lt_trans hI'.1.2 (by decide)) ei.1 (Int.lt_trans ei.2 (by decide))
        have z4 : es_or e' (es_shl 1 t) = wth e' t := ei_or1 hI'.2.1.1 e31 t0 (Int.lt_trans t18 (by decide))
        have t32 : t < 32 := Int.lt_trans t18 (by decide)
        have c31 : c' < 2147483648 := Int.lt_trans hI'.1.2 (by decide)
        have m93 : M 93 t = T 2 t := by rw [hR 93 _ rfl, m1]
        have m94 : M 94 t = T 3 t := by rw [hR 94 _ rfl, m2]
        -- the marks asked, the touch known
        have ask : tcM T c' e' t → es_Call (d + 1) 197 [.inl z, .inl t] M (fun y2 M1 => ((y2 = 0 → G 100 [lr 91, none, li z, li c', li e', li r, li (t + 1), none] [] M1) ∧ (¬ y2 = 0 → es_Call (d + 1) 197 [.inl e', .inl t] M1 (fun y4 M3 => ((¬ y4 = 0 → G 100 [lr 91, none, li z, li c', li e', li r, li (t + 1), none] [] M3) ∧ (y4 = 0 → (((1 : Int) = 0 → G 100 [lr 91, none, li z, li c', li e', li r, li (t + 1), none] [] M3) ∧ (¬ (1 : Int) = 0 → ((0 ≤ t ∧ t < 36) ∧ ((0 ≤ t ∧ t < 36) ∧ G 100 [lr 91, none, li z, li (es_or c' (es_or (es_shl 1 (M3 93 t)) (es_shl 1 (M3 94 t)))), li (es_or e' (es_shl 1 t)), li r, li (t + 1), none] [] M3)))))))))) := fun tc =>
          s_m_has hz.1.1 z31 t0 t32 (fun bz => es_t1 (s_m_has hI'.2.1.1 e31 t0 t32 (fun be => es_f1 (keep (fun _ w => absurd be w))) (fun be => es_f0 ⟨fun w => absurd w (by decide), fun _ => ⟨t36, t36, by rw [m93, m94, z1, z2, z3, z4]; exact take bz be tc⟩⟩))) (fun bz => es_t0 (keep (fun w => absurd w bz)))
        apply k_Model_hangs_100 hG
        rw [hR 91 3 rfl, hnn.2.2, wt, m93]
        refine ⟨fun w => absurd w nle, fun _ => ⟨fun q => ask (Or.inl q), fun q => ⟨t36, s_m_has hI'.1.1 c31 b1.1 (Int.lt_trans b1.2 (by decide)) (fun q1 => es_f1 (ask (Or.inr (Or.inl q1)))) (fun q1 => es_f0 ⟨t36, ?_⟩)⟩⟩⟩
        rw [m94]
        refine s_m_has hI'.1.1 c31 b2.1 (Int.lt_trans b2.2 (by decide)) (fun q2 => es_t1 (ask (Or.inr (Or.inr q2)))) (fun q2 => es_t0 ?_)
        have ntc : ¬ tcM T c' e' t := fun w => w.elim q (fun w' => w'.elim q1 q2)
        exact s_m_has hz.1.1 z31 t0 t32 (fun bz => es_t1 (s_m_has hI'.2.1.1 e31 t0 t32 (fun be => es_f1 (keep (fun _ _ => ntc))) (fun be => es_f0 ⟨fun _ => keep (fun _ _ => ntc), fun w => absurd rfl w⟩))) (fun bz => es_t0 (keep (fun w => absurd w bz)))
  -- whole streets
  have L2 : ∀ z, zOK T S z → G 43 [lr 91, li S, li z, li 0, none, none, none, none] [] M := by
    intro z hz
    have z31 : z < 2147483648 := Int.lt_trans hz.1.2 (by decide)
    refine es_up (P := fun k => (∀ v, 0 ≤ v → v < k → ebit z (T 10 v) → ebit S v) → G 43 [lr 91, li S, li z, li k, none, none, none, none] [] M) (n := T 1 1) hv.1 ?_ ?_ (fun v x y => absurd y (by omega))
    · intro al
      apply k_Model_hangs_43 hG
      rw [hR 91 23 rfl, hv.2.2]
      refine ⟨fun _ => L3 z hz (fun v w v0 v1 w0 w1 e => ?_), fun q => absurd (Int.le_refl _) q⟩
      have up : ∀ a b : Int, 0 ≤ a → a < T 1 1 → 0 ≤ b → b < T 1 1 → T 10 a = T 10 b → ebit S a → ebit S b := fun a b a0 a1 b0 b1 e ha => al b b0 b1 (by
        unfold ebit
        rw [hz.2, toNI (hT.sr b0 b1).1.1]
        exact ⟨a, ⟨a0, a1⟩, ha, e⟩)
      exact ⟨up v w v0 v1 w0 w1 e, up w v w0 w1 v0 v1 e.symm⟩
    · intro k k0 k1 ih al
      have sr := (hT.sr k0 k1).1
      apply k_Model_hangs_43 hG
      rw [hR 91 23 rfl, hv.2.2, hR 106 _ rfl, (hT.mv k0 k1).1, w32_1 (k := k) (by omega) (by omega)]
      have nx : (ebit z (T 10 k) → ebit S k) → G 43 [lr 91, li S, li z, li (k + 1), none, none, none, none] [] M := fun hk => ih (fun v x y b => by
        by_cases q : v = k
        · rw [q] at b ⊢; exact hk b
        · exact al v x (by omega) b)
      refine ⟨fun w => absurd w (by omega), fun _ => ⟨by omega, s_m_has hz.1.1 z31 sr.1 (by omega) (fun bz => es_t1 (s_m_has S0 S31 k0 (by omega) (fun bs => es_f1 (nx (fun _ => bs))) (fun bs => es_f0 ⟨es_b0, hn (fun q => ?_)⟩))) (fun bz => es_t0 (nx (fun w => absurd w bz)))⟩⟩
      have iz := (hz.2 (T 10 k).toNat).mp bz
      rw [toNI sr.1] at iz
      obtain ⟨v, v0, v1, v2⟩ := iz
      rcases q with q | q
      · unfold ebit at v1; rw [q, show (0 : Int).toNat = 0 from rfl, Nat.zero_testBit] at v1; cases v1
      · exact bs ((q.1 v k v0.1 v0.2 k0 k1 v2).mp v1)
  refine es_up (P := fun k => ∀ z, (0 ≤ z ∧ z < 262144) → (∀ s : Nat, z.toNat.testBit s = true ↔ ∃ v, (0 ≤ v ∧ v < k) ∧ ebit S v ∧ T 10 v = s) → G 4 [lr 91, li S, li z, li k, none, none, none, none] [] M) (n := T 1 1) hv.1 ?_ ?_ 0 (by decide) (fun s => ⟨fun b => (by rw [show (0 : Int).toNat = 0 from rfl, Nat.zero_testBit] at b; cases b), fun ⟨v, v0, _⟩ => absurd v0 (by omega)⟩)
  · intro z z1 z2
    apply k_Model_hangs_4 hG
    rw [hR 91 23 rfl, hv.2.2]
    exact ⟨fun _ => L2 z ⟨z1, z2⟩, fun q => absurd (Int.le_refl _) q⟩
  · intro k k0 k1 ih z z1 z2
    have sr := (hT.sr k0 k1).1
    apply k_Model_hangs_4 hG
    have o0 : es_or z 0 = z := ei_or0 z1.1 (by omega)
    have o1 : es_or z (es_shl 1 (T 10 k)) = wth z (T 10 k) := ei_or1 z1.1 (by omega) sr.1 (by omega)
    rw [hR 91 23 rfl, hv.2.2, w32_1 (k := k) (by omega) (by omega), o0]
    clear o0
    have o2 : es_or z (es_shl 1 (M 106 k)) = wth z (T 10 k) := by rw [hR 106 _ rfl, (hT.mv k0 k1).1]; exact o1
    clear o1
    have k10 : 0 ≤ k ∧ k < 10 := by clear o2; omega
    have nle : ¬ T 1 1 ≤ k := by clear o2; omega
    refine ⟨fun w => absurd w nle, fun _ => s_m_has S0 S31 k0 (Int.lt_trans k10.2 (by decide)) (fun b => es_t1 ⟨k10, ?_⟩) (fun b => es_t0 (ih z z1 (fun s => (z2 s).trans ⟨fun ⟨v, v0, v1⟩ => ⟨v, ⟨v0.1, Int.lt_trans v0.2 (Int.lt_succ k)⟩, v1⟩, fun ⟨v, v0, v1, v2⟩ => ⟨v, ⟨v0.1, ?_⟩, v1, v2⟩⟩)))⟩
    · rw [o2]
      clear o2
      refine ih _ ?_ (fun s => ?_)
      · unfold wth
        have := Nat.or_lt_two_pow (n := 18) (x := z.toNat) (y := 2 ^ (T 10 k).toNat) (by omega) (Nat.pow_lt_pow_right (by decide) (by omega))
        omega
      · rw [wth_b, Bool.or_eq_true, decide_eq_true_eq, z2 s]
        constructor
        · rintro (⟨v, v0, v1⟩ | e)
          · exact ⟨v, ⟨v0.1, by omega⟩, v1⟩
          · exact ⟨k, ⟨k0, by omega⟩, b, by omega⟩
        · rintro ⟨v, v0, v1, v2⟩
          by_cases q : v = k
          · right; rw [← q, v2]; exact Int.toNat_natCast s
          · left; exact ⟨v, ⟨v0.1, by omega⟩, v1, v2⟩
    · by_cases q : v = k
      · rw [q] at v1; exact absurd v1 b
      · exact Int.lt_iff_le_and_ne.mpr ⟨Int.le_of_lt_add_one v0.2, q⟩
end
