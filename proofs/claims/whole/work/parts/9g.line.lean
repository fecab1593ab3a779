/-! PAIRS OF CALLS: line (3) -/
def lvN (T : es_M) : Nat → Int
  | 0 => 12
  | k + 1 => min (lvN T k) (min (T 2 (T 10 k)) (T 3 (T 10 k)))
theorem lvN_s {T : es_M} {k : Int} (k0 : 0 ≤ k) : lvN T (k + 1).toNat = min (lvN T k.toNat) (min (T 2 (T 10 k)) (T 3 (T 10 k))) := by
  rw [toN1 k0]
  show min (lvN T k.toNat) (min (T 2 (T 10 (k.toNat : Nat))) (T 3 (T 10 (k.toNat : Nat)))) = _
  rw [toNI k0]
theorem lvN_r {T : es_M} (hT : TI T) : ∀ k : Nat, (k : Int) ≤ T 1 1 → 0 ≤ lvN T k ∧ (0 < k → lvN T k < 12) := by
  intro k
  induction k with
  | zero => intro _; exact ⟨(by decide : (0 : Int) ≤ 12), fun z => absurd z (by decide)⟩
  | succ k ih =>
    intro hk
    have i := ih (by omega)
    obtain ⟨s0, s1⟩ := (hT.sr (v := (k : Int)) (by omega) (by omega)).1
    obtain ⟨a1, a2, -⟩ := hT.st s0 s1
    show 0 ≤ min (lvN T k) (min (T 2 (T 10 k)) (T 3 (T 10 k))) ∧ (0 < k + 1 → min (lvN T k) (min (T 2 (T 10 k)) (T 3 (T 10 k))) < 12)
    refine ⟨by omega, fun _ => by omega⟩
def odR (T : es_M) : Nat → RW
  | 0 => (0, fun _ => 0)
  | c + 1 => if ebit (T 1 3) c then apd (odR T c) c else odR T c
theorem odR_s {T : es_M} {c : Int} (c0 : 0 ≤ c) : odR T (c + 1).toNat = if ebit (T 1 3) c then apd (odR T c.toNat) c else odR T c.toNat := by
  rw [toN1 c0]
  show (if ebit (T 1 3) (c.toNat : Nat) then apd (odR T c.toNat) (c.toNat : Nat) else odR T c.toNat) = _
  rw [toNI c0]
theorem odR_r {T : es_M} : ∀ c : Nat, 0 ≤ (odR T c).1 ∧ (odR T c).1 ≤ c := by
  intro c
  induction c with
  | zero => exact ⟨Int.le_refl _, Int.le_refl _⟩
  | succ c ih =>
    show 0 ≤ (if ebit (T 1 3) c then apd (odR T c) c else odR T c).1 ∧ (if ebit (T 1 3) c then apd (odR T c) c else odR T c).1 ≤ ((c + 1 : Nat) : Int)
    split
    · unfold apd
      split
      · show 0 ≤ (odR T c).1 + 1 ∧ (odR T c).1 + 1 ≤ _
        omega
      · omega
    · omega
theorem lnR_sp {T : es_M} {s : Int} : ∀ (m : Nat) (u c : Int) (r : RW), r.1 + m ≤ 120 → (lnR T s m u c r).1 = r.1 + m ∧ (∀ j, j < r.1 → (lnR T s m u c r).2 j = r.2 j) ∧ ∀ i : Nat, 1 ≤ i → i ≤ m → (lnR T s m u c r).2 (r.1 + i - 1) = lnC T s i u c := by
  intro m
  induction m with
  | zero => intro u c r _; exact ⟨by show r.1 = r.1 + ((0 : Nat) : Int); omega, fun _ _ => rfl, fun i h1 h2 => by omega⟩
  | succ m ih =>
    intro u c r hr
    have ea : apd r (gl T (poF T (fhF T s u c))) = (r.1 + 1, fun i => if i = r.1 then gl T (poF T (fhF T s u c)) else r.2 i) := by unfold apd; rw [if_pos (by omega)]
    obtain ⟨i1, i2, i3⟩ := ih (wth u (fhF T s u c / 2)) (gl T (poF T (fhF T s u c))) (apd r (gl T (poF T (fhF T s u c)))) (by rw [ea]; show r.1 + 1 + (m : Int) ≤ 120; omega)
    rw [ea] at i1 i2 i3
    have e : lnR T s (m + 1) u c r = lnR T s m (wth u (fhF T s u c / 2)) (gl T (poF T (fhF T s u c))) (r.1 + 1, fun i => if i = r.1 then gl T (poF T (fhF T s u c)) else r.2 i) := by rw [← ea]; rfl
    rw [e]
    refine ⟨by rw [i1]; show r.1 + 1 + (m : Int) = r.1 + ((m + 1 : Nat) : Int); omega, fun j hj => ?_, fun i h1 h2 => ?_⟩
    · rw [i2 j (by show j < r.1 + 1; omega)]
      show (if j = r.1 then _ else r.2 j) = r.2 j
      rw [if_neg (by omega)]
    · by_cases q : i = 1
      · subst q
        rw [i2 _ (by show r.1 + ((1 : Nat) : Int) - 1 < r.1 + 1; omega)]
        show (if r.1 + ((1 : Nat) : Int) - 1 = r.1 then gl T (poF T (fhF T s u c)) else _) = _
        rw [if_pos (by omega)]; rfl
      · obtain ⟨j, rfl⟩ : ∃ j, i = j + 1 := ⟨i - 1, by omega⟩
        have := i3 j (by omega) (by omega)
        rw [show r.1 + ((j + 1 : Nat) : Int) - 1 = (r.1 + 1) + (j : Int) - 1 by omega]
        exact this
section
variable {d : Nat} {Q : Int → es_M → Prop} {T M : es_M}
theorem s_leastServed (hT : TI T) (hR : RepC T M) (h : Q (lvN T (T 1 1).toNat) M) : es_Call (d + 1) 126 [.inr (.inr 75)] M Q := by
  have hv := hT.v
  have hn := hT.n
  apply m_Bounds_leastServed
  intro G hG
  apply k_Bounds_leastServed_0 hG
  refine es_up (P := fun k => G 5 [lr 75, li (lvN T k.toNat), li k, none] [] M) (n := T 1 1) hv.1 ?_ ?_
  · apply k_Bounds_leastServed_5 hG
    rw [hR 1 1 rfl]
    exact ⟨fun _ => h, fun z => absurd (Int.le_refl _) z⟩
  · intro k k0 k1 ih
    rw [lvN_s k0] at ih
    have sr := (hT.sr k0 k1).1
    apply k_Bounds_leastServed_5 hG
    rw [hR 1 1 rfl, hR 10 _ rfl, hR 2 _ rfl, hR 3 _ rfl, w32_1 (k := k) (by omega) (by omega)]
    exact ⟨fun z => absurd z (by omega), fun _ => ⟨by omega, by omega, by omega, ih⟩⟩
theorem rep58 {M' : es_M} (hR : RepC T M) (h : ∀ c, c ≠ 58 → c ≠ 59 → c ≠ 78 → M' c = M c) : RepC T M' := by
  intro c j q
  rw [h c (by rintro rfl; cases q) (by rintro rfl; cases q) (by rintro rfl; cases q)]; exact hR _ _ q
theorem s_tellOdd (hT : TI T) (hR : RepC T M) (hr : RwC (odR T 0) M) (h : ∀ M', (∀ c, c ≠ 58 → c ≠ 59 → M' c = M c) → RwC (odR T 12) M' → Q 0 M') : es_Call (d + 2) 129 [.inr (.inr 75), .inr (.inr 58)] M Q := by
  have o4 := hT.or4
  apply m_Bounds_tellOdd
  intro G hG
  apply k_Bounds_tellOdd_0 hG
  refine es_up (P := fun c => ∀ M', (∀ c, c ≠ 58 → c ≠ 59 → M' c = M c) → RwC (odR T c.toNat) M' → G 2 [lr 75, lr 58, li c] [] M') (n := 12) (by decide) ?_ ?_ M (fun _ _ _ => rfl) hr
  · intro M' f1 f2
    apply k_Bounds_tellOdd_2 hG
    exact ⟨fun _ => h M' f1 f2, fun z => absurd (Int.le_refl _) z⟩
  · intro c c0 c1 ih M' f1 f2
    have hR' : RepC T M' := rep58 hR (fun c x1 x2 _ => f1 c x1 x2)
    rw [odR_s c0] at ih
    apply k_Bounds_tellOdd_2 hG
    rw [hR' 1 3 rfl, w32_1 (k := c) (by omega) (by omega)]
    refine ⟨fun z => absurd z (by omega), fun _ => s_has o4.1 (by omega) c0 (by omega) (fun b => es_t1 (s_putR f2 (fun M2 g1 _ g3 => ?_))) (fun b => es_t0 ?_)⟩
    · rw [if_pos b] at ih; exact ih M2 (fun c x1 x2 => by rw [g1 c x1 x2]; exact f1 c x1 x2) g3
    · rw [if_neg b] at ih; exact ih M' f1 f2
theorem s_tellLine (hT : TI T) (hR : RepC T M) (hv1 : 0 < T 1 1) (hno : ¬ home T (lvN T (T 1 1).toNat) 0 (lvN T (T 1 1).toNat) → ∀ M', (∀ c, c ≠ 58 → c ≠ 59 → c ≠ 78 → M' c = M c) → RwC (odR T 12) M' → Q (-2) M') (hyes : home T (lvN T (T 1 1).toNat) 0 (lvN T (T 1 1).toNat) → ∀ M', (∀ c, c ≠ 58 → c ≠ 59 → c ≠ 78 → M' c = M c) → RwC (lnR T (lvN T (T 1 1).toNat) (T 1 1).toNat 0 (lvN T (T 1 1).toNat) (1, fun _ => lvN T (T 1 1).toNat)) M' → Q (T 1 1) M') : es_Call (d + 5) 125 [.inr (.inr 75), .inr (.inr 58)] M Q := by
  have hv := hT.v
  have ha := hT.all
  have apos : ¬ allF T = 0 := by
    have h2 : (2 : Int) ^ 1 ≤ 2 ^ (T 1 1).toNat := pow_le (by omega)
    unfold allF
    omega
  have sr := lvN_r hT (T 1 1).toNat (by omega)
  have s12 : lvN T (T 1 1).toNat < 12 := sr.2 (by omega)
  generalize hs : lvN T (T 1 1).toNat = s at *
  apply m_Bounds_tellLine
  intro G hG
  apply k_Bounds_tellLine_0 hG
  refine s_allServices hT hR ⟨fun _ => s_leastServed hT hR ?_, fun z => absurd z apos⟩
  rw [hs, w32_m (by omega) (by omega), shl_v sr.1 (by omega)]
  refine ⟨by omega, ?_⟩
  -- the walk along the line
  have L2 : ∀ M', (∀ c, c ≠ 58 → c ≠ 59 → c ≠ 78 → M' c = M c) → hwOK T s 0 M' → home T s 0 s → RwC (1, fun _ => s) M' → G 96 [lr 75, lr 58, none, none, li 0, li s, li 0, none] [] M' := by
    intro M' f1 f2 f3 f4
    have key : ∀ (m : Nat) (u c i : Int) (r : RW) (N : es_M), i + m = T 1 1 → 0 ≤ i → 0 ≤ u → u ≤ allF T → (pcN 18 u.toNat : Int) = i → home T s u c → (∀ c, c ≠ 58 → c ≠ 59 → N c = M' c) → RwC r N → (∀ N', (∀ c, c ≠ 58 → c ≠ 59 → N' c = M' c) → RwC (lnR T s m u c r) N' → Q (T 1 1) N') → G 96 [lr 75, lr 58, none, none, li u, li c, li i, none] [] N := by
      intro m
      induction m with
      | zero =>
        intro u c i r N im i0 u0 u1 pu hh n1 n2 fin
        have hRN : RepC T N := rep58 hR (fun c x1 x2 x3 => by rw [n1 c x1 x2]; exact f1 c x1 x2 x3)
        apply k_Bounds_tellLine_96 hG
        rw [hRN 1 1 rfl]
        exact ⟨fun _ => fin N n1 n2, fun z => absurd (by omega) z⟩
      | succ m ih =>
        intro u c i r N im i0 u0 u1 pu hh n1 n2 fin
        have hRN : RepC T N := rep58 hR (fun c x1 x2 x3 => by rw [n1 c x1 x2]; exact f1 c x1 x2 x3)
        have nu : u ≠ allF T := fun z => by
          have := (pc_eq hT u0 u1).mp z
          omega
        have u1024 : u < 2147483648 := by omega
        have i1 : w32 (i + 1) = i + 1 := w32_1 (by omega) (by omega)
        have hW : hwOK T s (u + 1) N := fun w w1 w2 w3 => by
          rw [n1 78 (by decide) (by decide)]
          exact f2 w w2 w2 w3
        have il : ¬ T 1 1 ≤ i := by omega
        have im' : i + 1 + (m : Int) = T 1 1 := by omega
        clear ha
        apply k_Bounds_tellLine_96 hG
        rw [hRN 1 1 rfl, i1]
        refine ⟨fun z => absurd z il, fun _ => s_firstHomeward hT hRN u0 u1 hW ((home_s nu).mp hh) (fun k hk => ?_)⟩
        have hkK := hk.1.1.1
        have kp := poF_r hT hkK.1 hkK.2
        have ef := fhF_eq hT hk
        have v10 : 0 ≤ k / 2 ∧ k / 2 < 10 := by have := hkK.1; have := hkK.2; clear u1; omega
        have v11 : k / 2 < T 1 1 := by have := hkK.2; clear u1; omega
        have sh : es_shr k 1 = k / 2 := ei_shr1 hkK.1 (by have := hkK.2; clear u1; omega)
        have so : es_or u (es_shl 1 (k / 2)) = wth u (k / 2) := ei_or1 u0 u1024 v10.1 (Int.lt_trans v10.2 (by decide))
        have wa := wth_all (D := u) (v := k / 2) hT u0 u1 v10.1 v11
        have pw := pc_wth v10.1 v10.2 hk.1.1.2.2.1
        have pw2 : (pcN 18 (wth u (k / 2)).toNat : Int) = i + 1 := by clear wa u1; omega
        rw [sh, so]
        refine ⟨fun _ => s_passOf hT hRN hkK.1 hkK.2 (s_goal hRN kp.1 kp.2.2.1 (s_putR n2 (fun N2 g1 _ g3 => ?_))), fun z => absurd z (by have := hkK.1; clear u1 wa; omega)⟩
        refine ih (wth u (k / 2)) (gl T (poF T k)) (i + 1) (apd r (gl T (poF T k))) N2 im' (Int.le_trans i0 (Int.le_of_lt (Int.lt_succ i))) wth_nn wa pw2 hk.1.1.2.2.2 (fun c x1 x2 => by rw [g1 c x1 x2]; exact n1 c x1 x2) g3 (fun N' a1 a2 => fin N' a1 ?_)
        show RwC (lnR T s m (wth u (fhF T s u c / 2)) (gl T (poF T (fhF T s u c))) (apd r (gl T (poF T (fhF T s u c))))) N'
        rw [ef]; exact a2
    refine key (T 1 1).toNat 0 s 0 _ M' (by omega) (by decide) (by decide) ha.1 ?_ f3 (fun _ _ _ => rfl) f4 (fun N' a1 a2 => hyes f3 N' (fun c x1 x2 x3 => by rw [a1 c x1 x2]; exact f1 c x1 x2 x3) a2)
    rw [show (0 : Int).toNat = 0 from rfl]
    have : ∀ m, pcN m 0 = 0 := by
      intro m
      induction m with
      | zero => rfl
      | succ m ih => show pcN m 0 + (if (0 : Nat).testBit m then 1 else 0) = 0; rw [ih, Nat.zero_testBit]; rfl
    rw [this]; rfl
  -- the rows of corners
  have L1 : ∀ (n : Nat) (u : Int), u + 1 = n → u < allF T → ∀ M', (∀ c, c ≠ 58 → c ≠ 59 → c ≠ 78 → M' c = M c) → hwOK T s (u + 1) M' → G 33 [lr 75, lr 58, none, li s, li u, none, none, none] [] M' := by
    intro n
    induction n with
    | zero =>
      intro u hu _ M' f1 f2
      have hR' := rep58 hR f1
      have u1 : u = -1 := by omega
      rw [u1, show (-1 : Int) + 1 = 0 from rfl] at f2
      obtain ⟨b1, b2⟩ := f2 0 (Int.le_refl _) (Int.le_refl _) ha.1
      have b3 := b2 s sr.1 s12
      apply k_Bounds_tellLine_33 hG
      refine ⟨fun _ => c_Row_clear ⟨by decide, ?_⟩, fun z => absurd (by omega) z⟩
      rw [es_upd_n (by decide)]
      have F : ∀ c, c ≠ 58 → c ≠ 59 → c ≠ 78 → es_upd M' 58 1 0 c = M c := fun c x1 x2 x3 => by rw [es_upd_o c x1]; exact f1 c x1 x2 x3
      refine s_has b1.1 (by omega) sr.1 (by omega) (fun q => es_f1 ?_) (fun q => es_f0 ?_)
      · refine s_put' (by rw [es_upd_s]; decide) (by rw [es_upd_s]; decide) (fun M1 g1 g2 g3 g4 g5 => ?_)
        rw [es_upd_s] at g3 g4
        refine L2 M1 (fun c x1 x2 x3 => by rw [g1 c x1 x2]; exact F c x1 x2 x3) ?_ (b3.mp q) ⟨⟨by rw [g3]; rfl, (by decide : (0 : Int) ≤ 1), (by decide : (1 : Int) ≤ 120)⟩, fun i i0 i1 => ?_⟩
        · unfold hwOK
          rw [g1 78 (by decide) (by decide), es_upd_o 78 (by decide)]; exact f2
        · have : i = 0 := by have i1' : i < 1 := i1; omega
          rw [this]; exact g4
      · refine s_tellOdd hT (rep58 hR F) ⟨⟨es_upd_s, (by decide : (0 : Int) ≤ 0), (by decide : (0 : Int) ≤ 120)⟩, fun i i0 i1 => absurd (show i < 0 from i1) (by omega)⟩ (fun M1 g1 g2 => hno (fun w => q (b3.mpr w)) M1 (fun c x1 x2 x3 => by rw [g1 c x1 x2]; exact F c x1 x2 x3) g2)
    | succ n ih =>
      intro u hu u1 M' f1 f2
      have hR' := rep58 hR f1
      have u0 : 0 ≤ u := by omega
      have nu : u ≠ allF T := by omega
      apply k_Bounds_tellLine_33 hG
      rw [show w32 (u + -1) = u - 1 by rw [show u + -1 = u - 1 by omega]; exact w32_m (by omega) (by omega)]
      refine ⟨fun z => absurd z (by omega), fun _ => s_homewardFrom hT hR' u0 (by omega) f2 (fun b b1 b2 => ⟨by omega, ih (u - 1) (by omega) (by omega) _ (fun c x1 x2 x3 => by rw [es_upd_o c x3]; exact f1 c x1 x2 x3) (fun w w1 w2 w3 => ?_)⟩)⟩
      rw [es_upd_c]
      by_cases e : w = u
      · rw [if_pos e, e]
        exact ⟨b1, fun c c0 c1 => (b2 c c0 c1).trans (home_s nu).symm⟩
      · rw [if_neg e]; exact f2 w (by omega) w2 w3
  refine L1 (allF T).toNat (allF T - 1) (by omega) (by omega) _ (fun c x1 x2 x3 => es_upd_o c x3) (fun w w1 w2 w3 => ?_)
  have ew : w = allF T := by omega
  rw [ew, es_upd_s]
  refine ⟨⟨wth_nn, ?_⟩, fun c c0 c1 => ?_⟩
  · have := Nat.pow_lt_pow_right (a := 2) (m := s.toNat) (n := 12) (by decide) (by omega)
    unfold wth
    rw [show (0 : Int).toNat = 0 from rfl, Nat.zero_or]
    clear apos ha
    omega
  · rw [home_all hT]
    unfold ebit
    rw [wth_b, show (0 : Int).toNat = 0 from rfl, Nat.zero_testBit, Bool.false_or, decide_eq_true_eq]
    clear ha apos
    omega
end
