/-! PAIRS OF CALLS: bars (9). The class's round -/
section
variable {d : Nat} {Q : Int → es_M → Prop} {T M : es_M}
abbrev off5 (M M' : es_M) : Prop := ∀ c, c ≠ 65 → M' c = M c
theorem rep65 {M' : es_M} (hR : RepC T M) (h : off5 M M') : RepC T M' := by
  intro c j q
  rw [h c (by rintro rfl; cases q)]; exact hR _ _ q
def srcOK (T : es_M) (X : es_M) (M : es_M) : Prop := ∀ q, isP T q → lb (M 64 q) (fun p => isP T p ∧ lkF X p q)
def tb5 (T : es_M) (M : es_M) (S : Int → Int → Prop) : Prop := ∀ E, 0 ≤ E → E ≤ allF T → lb (M 65 E) (S E)
theorem tb5_n {S S' : Int → Int → Prop} (h : tb5 T M S) (e : ∀ E (q : Int), S E q ↔ S' E q) : tb5 T M S' := fun E E0 E1 => (h E E0 E1).iff (fun p => e E p)
theorem tb5_u {S S' : Int → Int → Prop} {D q : Int} (h : tb5 T M S) (D0 : 0 ≤ D) (D1 : D ≤ allF T) (q0 : 0 ≤ q) (q1 : q < 36) (e : ∀ E (p : Int), S' E p ↔ S E p ∨ (E = D ∧ p = q)) : tb5 T (es_upd M 65 D (es_lor (M 65 D) (es_lshl 1 q))) S' := by
  intro E E0 E1
  rw [es_upd_c]
  by_cases w : E = D
  · rw [if_pos w]
    subst w
    exact (lb_or (h E D0 D1) (lb_1 q0 q1)).iff (fun p => by rw [e]; exact ⟨fun z => z.elim Or.inl (fun y => Or.inr ⟨rfl, y⟩), fun z => z.elim Or.inl (fun y => Or.inr y.2)⟩)
  · rw [if_neg w]
    exact (h E E0 E1).iff (fun p => by rw [e]; exact ⟨Or.inl, fun z => z.elim id (fun y => absurd y.1 w)⟩)
theorem s_fill65 {n v : Int} (n0 : 0 ≤ n) (n1 : n ≤ 1024) (h : ∀ M', off5 M M' → (∀ j, 0 ≤ j → j < n → M' 65 j = v) → Q 0 M') : es_Call (d + 2) 293 [.inr (.inr 65), .inl 0, .inl n, .inr (.inl v)] M Q := by
  apply m_Arrays_fill_2
  intro G hG
  apply k_Arrays_fill_2_0 hG
  apply c_Arrays_rangeCheck
  refine ⟨fun _ => ⟨fun _ => ⟨fun _ => ?_, fun z => absurd n1 z⟩, fun z => absurd (by decide) z⟩, fun z => absurd n0 z⟩
  refine es_up (P := fun k => ∀ M', off5 M M' → (∀ j, 0 ≤ j → j < k → M' 65 j = v) → G 10 [lr 65, none, li n, ll v, none, li k] [] M') (n := n) n0 ?_ ?_ M (fun _ _ => rfl) (fun j j0 j1 => by omega)
  · intro M' f1 f2
    apply k_Arrays_fill_2_10 hG
    exact ⟨fun _ => h M' f1 f2, fun z => absurd (Int.le_refl _) z⟩
  · intro k k0 k1 ih M' f1 f2
    apply k_Arrays_fill_2_10 hG
    rw [w32_1 (by omega) (by omega)]
    refine ⟨fun z => absurd z (by omega), fun _ => ⟨by omega, ih _ (fun c hc => by rw [es_upd_o c hc, f1 c hc]) (fun j j0 j1 => ?_)⟩⟩
    rw [es_upd_c]
    by_cases e : j = k
    · rw [if_pos e]
    · rw [if_neg e]; exact f2 j j0 (by omega)
theorem ah_lt (hT : TI T) {v : Int} (v0 : 0 ≤ v) (v1 : v < 10) : T 12 v < 1024 := by
  have ah := (hT.ah v0 v1).2.2.1
  have hv := hT.v
  have : (2 : Nat) ^ (T 1 1).toNat ≤ 2 ^ 10 := Nat.pow_le_pow_right (by decide) (by omega)
  have e : ((2 : Nat) ^ (T 1 1).toNat : Nat) = ((2 : Int) ^ (T 1 1).toNat) := by simp
  omega
/-- a link from what can be last -/
theorem lk_any (hT : TI T) {f a D k : Int} (D0 : 0 < D) {x y : Int} (hx : lb x (hSn (Tg T f) a D D)) (hk : isK T k) (hy : lb y (fun p => isP T p ∧ lkF (Tg T f) p (poF T k))) : ¬ es_lcmp (es_land x y) 0 = 0 ↔ ∃ p, hRc (Tg T f) a D p ∧ wyE (Tg T f) a p (poF T k) := by
  have kp := poF_r hT hk.1 hk.2
  have hq : isP (Tg T f) (poF T k) := Tg_isP.mpr ⟨kp.1, kp.2.1⟩
  rw [lb_and hx hy]
  constructor
  · intro h
    obtain ⟨p, hp⟩ := Classical.not_forall.mp h
    have := Classical.not_not.mp hp
    have r := (hR_S D0).mpr this.1
    have rp := hR_P (Tg_TI hT) r D0
    exact ⟨p, r, ((lk_wy (Tg_TI hT) rp.1 hq).mp this.2.2).2⟩
  · rintro ⟨p, h1, h2⟩ h
    have rp := hR_P (Tg_TI hT) h1 D0
    have p0 := rp.1.1
    have := h p.toNat
    rw [toNI p0] at this
    exact this ⟨(hR_S D0).mp h1, Tg_isP.mp rp.1, (lk_wy (Tg_TI hT) rp.1 hq).mpr ⟨rp.2, h2⟩⟩
theorem s_spread (hT : TI T) (hR : RepC T M) {f a D : Int} (D0 : 0 < D) (D1 : D < allF T) (hs : srcOK T (Tg T f) M) (ht : tb5 T M (hSn (Tg T f) a D)) (h : ∀ M', off5 M M' → tb5 T M' (hSn (Tg T f) a (D + 1)) → Q 0 M') : es_Call (d + 4) 101 [.inr (.inr 60), .inl D] M Q := by
  have hv := hT.v
  have ha := hT.all
  apply m_Ways_spread
  intro G hG
  apply k_Ways_spread_0 hG
  refine es_up (P := fun k => ∀ M', off5 M M' → tb5 T M' (hSk (Tg T f) a D k) → G 2 [lr 60, li D, li k, none, none, none] [] M') (n := 2 * T 1 1) (by omega) ?_ ?_ M (fun _ _ => rfl) (tb5_n ht (fun E q => hSk_0.symm))
  · intro M' f1 f2
    apply k_Ways_spread_2 hG
    rw [rep65 hR f1 1 1 rfl, w32_s (by omega) (by omega)]
    refine ⟨fun _ => h M' f1 (tb5_n f2 (fun E q => ?_)), fun z => absurd (Int.le_refl _) z⟩
    have := hSk_e (X := Tg T f) (a := a) (E := E) (q := q) (Int.le_of_lt D0)
    rw [Tg_o (k := 1) (by decide) (by decide)] at this
    exact this
  · intro k k0 k1 ih M' f1 f2
    have hk : isK T k := ⟨k0, k1⟩
    have hR' := rep65 hR f1
    have kp := poF_r hT k0 k1
    have hp : isP T (poF T k) := ⟨kp.1, kp.2.1⟩
    have hXk : isK (Tg T f) k := Tg_isK.mpr hk
    have sh : es_shr k 1 = k / 2 := ei_shr1 k0 (by omega)
    have v0 : 0 ≤ k / 2 := by omega
    have v1 : k / 2 < 10 := by omega
    have v2 : k / 2 < T 1 1 := by omega
    have so : es_or D (es_shl 1 (k / 2)) = wth D (k / 2) := ei_or1 (Int.le_of_lt D0) (by omega) v0 (by omega)
    have wr := wth_all hT (D := D) (v := k / 2) (Int.le_of_lt D0) (Int.le_of_lt D1) v0 v2
    have w0 := wth_nn (d := D) (v := k / 2)
    have ah := hT.ah v0 v1
    have ah31 : T 12 (k / 2) < 2147483648 := by
      have := ah_lt hT v0 v1
      omega
    have dif := sub_dif (a := T 12 (k / 2)) (b := D) ah.2.1 ah31 (Int.le_of_lt D0) (by omega)
    rw [← free_all hT v0 v1] at dif
    have x65 : lb (M' 65 D) (hSn (Tg T f) a D D) := (f2 D (Int.le_of_lt D0) (Int.le_of_lt D1)).iff (fun p => by
      constructor
      · rintro (z | ⟨p', j, z1, z2, z3, z4, z5⟩)
        · exact z
        · have := wth_gt (v := j / 2) (Int.le_of_lt D0) z3.1.2.2.1.2
          rw [z4] at this
          exact absurd this (Int.lt_irrefl _)
      · exact Or.inl)
    have any := lk_any (y := M' 64 (poF T k)) hT D0 x65 hk (by rw [f1 64 (by decide)]; exact hs _ hp)
    have no : (¬ ∃ p, hRc (Tg T f) a D p ∧ hst (Tg T f) a D p k) → G 2 [lr 60, li D, li (k + 1), none, none, none] [] M' := fun z => ih M' f1 (tb5_n f2 (fun E q => by rw [hSk_s]; exact ⟨Or.inl, fun y => y.elim id (fun x => absurd x.1 z)⟩))
    have dueE : ∀ p, hst (Tg T f) a D p k ↔ (((canDo T k ∧ goes T (poF T k)) ∧ ¬ ebit D (k / 2) ∧ free T (k / 2) (allF T) D) ∧ wyE (Tg T f) a p (poF T k)) := fun p => by
      unfold hst
      rw [Tg_po, Tg_due, Tg_all]
      constructor
      · rintro ⟨⟨z1, z2, z3, z4⟩, z5⟩; exact ⟨⟨z2, z3.2, z4⟩, z5⟩
      · rintro ⟨⟨z2, z3, z4⟩, z5⟩; exact ⟨⟨hXk, z2, ⟨ebit_all hT v0 v2, z3⟩, z4⟩, z5⟩
    apply k_Ways_spread_2 hG
    rw [hR' 1 1 rfl, w32_s (by omega) (by omega), w32_1 (k := k) (by omega) (by omega), sh, so]
    refine ⟨fun z => absurd z (by omega), fun _ => s_doer hT hR' k0 k1 (fun c1 c2 => s_has (Int.le_of_lt D0) (by omega) v0 (by omega) (fun b => ⟨fun _ => ⟨fun _ => no ?_, fun _ => ⟨fun _ => no ?_, fun z => absurd rfl z⟩⟩, fun z => absurd z (by decide)⟩) (fun b => ⟨fun z => absurd rfl z, fun _ => ⟨⟨v0, v1⟩, ?_⟩⟩)) (fun c => s_has (Int.le_of_lt D0) (by omega) v0 (by omega) (fun b => ⟨fun _ => ⟨fun _ => no ?_, fun z => absurd rfl z⟩, fun z => absurd z (by decide)⟩) (fun b => ⟨fun z => absurd rfl z, fun _ => ⟨⟨v0, v1⟩, fun _ => ⟨fun _ => no ?_, fun z => absurd rfl z⟩, fun _ => ⟨fun _ => no ?_, fun z => absurd rfl z⟩⟩⟩))⟩
    · rintro ⟨p, -, z⟩; exact ((dueE p).mp z).1.2.1 b
    · rintro ⟨p, -, z⟩; exact ((dueE p).mp z).1.2.1 b
    · rw [hR' 12 _ rfl, dif]
      refine ⟨fun z => ⟨fun _ => no ?_, fun _ => ⟨fun _ => no ?_, fun y => absurd rfl y⟩⟩, fun z => ⟨fun y => absurd y (by omega), fun _ => es_t1 ⟨by omega, by omega, fun y => no ?_, fun y => ⟨by omega, by omega, ?_⟩⟩⟩⟩
      · rintro ⟨p, -, y⟩; exact z ((dueE p).mp y).1.2.2
      · rintro ⟨p, -, y⟩; exact z ((dueE p).mp y).1.2.2
      · rintro ⟨p, y1, y2⟩; exact any.mpr ⟨p, y1, ((dueE p).mp y2).2⟩ y
      · obtain ⟨p, p1, p2⟩ := any.mp y
        refine ih _ (fun c hc => by rw [es_upd_o c hc]; exact f1 c hc) (tb5_u f2 w0 wr kp.1 kp.2.2.1 (fun E q => ?_))
        rw [hSk_s, Tg_po]
        exact ⟨fun z => z.elim Or.inl (fun w => Or.inr w.2), fun x => x.elim Or.inl (fun w => Or.inr ⟨⟨p, p1, (dueE p).mpr ⟨⟨⟨c1, c2⟩, b, z⟩, p2⟩⟩, w⟩)⟩
    · rintro ⟨p, -, z⟩; exact c ((dueE p).mp z).1.1
    · rintro ⟨p, -, z⟩; exact c ((dueE p).mp z).1.1
    · rintro ⟨p, -, z⟩; exact c ((dueE p).mp z).1.1
end
