/-! PAIRS OF CALLS: bars (6). The class links -/
section
variable {d : Nat} {Q : Int → es_M → Prop} {T M : es_M}
/-- the bits of a long are those of a set of passes -/
def lb (x : Int) (P : Int → Prop) : Prop := (0 ≤ x ∧ x < 68719476736) ∧ ∀ p : Nat, x.toNat.testBit p = true ↔ P p
theorem lb_0 {P : Int → Prop} (h : ∀ p : Nat, ¬ P p) : lb 0 P := ⟨by decide, fun p => ⟨fun b => (by rw [show (0 : Int).toNat = 0 from rfl, Nat.zero_testBit] at b; cases b), fun w => absurd w (h p)⟩⟩
theorem lb_or {x y : Int} {P R : Int → Prop} (hx : lb x P) (hy : lb y R) : lb (es_lor x y) (fun p => P p ∨ R p) := by
  obtain ⟨a, ha⟩ := Int.eq_ofNat_of_zero_le hx.1.1
  obtain ⟨b, hb⟩ := Int.eq_ofNat_of_zero_le hy.1.1
  have a1 : a < 68719476736 := by have := hx.1.2; omega
  have b1 : b < 68719476736 := by have := hy.1.2; omega
  have lt := Nat.or_lt_two_pow (n := 36) (x := a) (y := b) a1 b1
  have hx2 := hx.2
  have hy2 := hy.2
  rw [ha, Int.toNat_natCast] at hx2
  rw [hb, Int.toNat_natCast] at hy2
  rw [ha, hb, el_or (by omega) (by omega)]
  refine ⟨⟨Int.natCast_nonneg _, by omega⟩, fun p => ?_⟩
  rw [Int.toNat_natCast, Nat.testBit_or, Bool.or_eq_true, hx2, hy2]
theorem lb_1 {v : Int} (v0 : 0 ≤ v) (v1 : v < 36) : lb (es_lshl 1 v) (fun p => p = v) := by
  obtain ⟨a, ha⟩ := Int.eq_ofNat_of_zero_le v0
  have lt := Nat.pow_lt_pow_right (a := 2) (m := a) (n := 36) (by decide) (by omega)
  rw [ha, el_shl a (by omega)]
  refine ⟨⟨Int.natCast_nonneg _, by omega⟩, fun p => ?_⟩
  rw [Int.toNat_natCast, Nat.testBit_two_pow, decide_eq_true_eq]
  omega
theorem lb.iff {x : Int} {P R : Int → Prop} (h : lb x P) (e : ∀ p : Nat, P p ↔ R p) : lb x R := ⟨h.1, fun p => (h.2 p).trans (e p)⟩
theorem lb_bit {x v : Int} {P : Int → Prop} (h : lb x P) (v0 : 0 ≤ v) (v1 : v < 36) : es_lcmp (es_land (es_lshr x v) 1) 1 = 0 ↔ P v := by
  obtain ⟨a, ha⟩ := Int.eq_ofNat_of_zero_le h.1.1
  obtain ⟨b, hb⟩ := Int.eq_ofNat_of_zero_le v0
  have h2 := h.2 b
  have a1 := h.1.2
  rw [ha, Int.toNat_natCast] at h2
  rw [ha, hb, el_bit (by omega) (by omega)]
  exact h2
theorem lb_and {x y : Int} {P R : Int → Prop} (hx : lb x P) (hy : lb y R) : es_lcmp (es_land x y) 0 = 0 ↔ ∀ p : Nat, ¬ (P p ∧ R p) := by
  obtain ⟨a, ha⟩ := Int.eq_ofNat_of_zero_le hx.1.1
  obtain ⟨b, hb⟩ := Int.eq_ofNat_of_zero_le hy.1.1
  have a1 := hx.1.2
  have hx2 := hx.2
  have hy2 := hy.2
  rw [ha, Int.toNat_natCast] at hx2
  rw [hb, Int.toNat_natCast] at hy2
  rw [el_0, ha, hb, el_and (by omega)]
  constructor
  · intro z p w
    have : (a &&& b).testBit p = true := by rw [Nat.testBit_and, (hx2 p).mpr w.1, (hy2 p).mpr w.2]; rfl
    rw [show a &&& b = 0 by omega, Nat.zero_testBit] at this; cases this
  · intro z
    have : a &&& b = 0 := by
      apply Nat.eq_of_testBit_eq
      intro p
      rw [Nat.testBit_and, Nat.zero_testBit]
      cases q : a.testBit p
      · rfl
      · cases r : b.testBit p
        · rfl
        · exact absurd ⟨(hx2 p).mp q, (hy2 p).mp r⟩ (z p)
    omega
theorem rep64 {M' : es_M} (hR : RepC T M) (h : ∀ c, c ≠ 64 → M' c = M c) : RepC T M' := by
  intro c j q
  rw [h c (by rintro rfl; cases q)]; exact hR _ _ q
theorem s_link (hT : TI T) (hR : RepC T M) {f : Int} (f0 : f = -1 ∨ (0 ≤ f ∧ f < 12)) (h : ∀ M', (∀ c, c ≠ 64 → M' c = M c) → (∀ q, isP T q → lb (M' 64 q) (fun p => isP T p ∧ lkF (Tg T f) p q)) → Q 0 M') : es_Call (d + 5) 99 [.inr (.inr 60), .inl f] M Q := by
  have hn := hT.n
  have e10 : Tg T f 1 = T 1 := Tg_o (by decide) (by decide)
  apply m_Ways_link
  intro G hG
  apply k_Ways_link_0 hG
  rw [hR 1 0 rfl, w32_s (by omega) (by omega)]
  have L2 : ∀ M', (∀ c, c ≠ 64 → M' c = M c) → (∀ q, isP T q → lb (M' 64 q) (fun p => isP T p ∧ lkN (Tg T f) 0 p q)) → G 71 [lr 60, none, li (2 * T 1 0), li 0, none, none, none] [] M' := by
    refine es_up (P := fun y => ∀ M', (∀ c, c ≠ 64 → M' c = M c) → (∀ q, isP T q → lb (M' 64 q) (fun p => isP T p ∧ lkN (Tg T f) y.toNat p q)) → G 71 [lr 60, none, li (2 * T 1 0), li y, none, none, none] [] M') (n := 2 * T 1 0) (by omega) ?_ ?_
    · intro M' g1 g2
      apply k_Ways_link_71 hG
      refine ⟨fun _ => h M' g1 (fun q hq => ?_), fun z => absurd (Int.le_refl _) z⟩
      unfold lkF
      rw [e10]
      exact g2 q hq
    · intro y y0 y1 ih M' g1 g2
      have hy : isP T y := ⟨y0, y1⟩
      have y36 : y < 36 := by omega
      have yn : ((y.toNat : Nat) : Int) = y := toNI y0
      apply k_Ways_link_71 hG
      refine ⟨fun z => absurd z (by omega), fun _ => ?_⟩
      have wy : w32 (y + 1) = y + 1 := w32_1 (by omega) (by omega)
      rw [toN1 y0] at ih
      refine es_up (P := fun b => ∀ X : es_M, (∀ c, c ≠ 64 → X c = M c) → (∀ q, isP T q → (q < b → lb (X 64 q) (fun p => isP T p ∧ lkN (Tg T f) (y.toNat + 1) p q)) ∧ (b ≤ q → lb (X 64 q) (fun p => isP T p ∧ lkN (Tg T f) y.toNat p q))) → G 79 [lr 60, none, li (2 * T 1 0), li y, li b, none, none] [] X) (n := 2 * T 1 0) (by omega) ?_ ?_ M' g1 (fun q hq => ⟨fun w => absurd w (by have := hq.1; omega), fun _ => g2 q hq⟩)
      · intro X x1 x2
        apply k_Ways_link_79 hG
        rw [wy]
        exact ⟨fun _ => ih X x1 (fun q hq => (x2 q hq).1 hq.2), fun z => absurd (Int.le_refl _) z⟩
      · intro b b0 b1 ih2 X x1 x2
        have hb : isP T b := ⟨b0, b1⟩
        have xb := (x2 b hb).2 (Int.le_refl _)
        have xy : lb (X 64 y) (fun p => isP T p ∧ lkN (Tg T f) y.toNat p y) := by
          by_cases q : y < b
          · refine ((x2 y hy).1 q).iff (fun p => ?_)
            have := lkN_col (T := Tg T f) (k := y.toNat) (p := (p : Int))
            rw [yn] at this
            rw [this]
          · exact (x2 y hy).2 (by omega)
        have bit := lb_bit xb y0 y36
        have nx : ∀ v, lb v (fun p => isP T p ∧ lkN (Tg T f) (y.toNat + 1) p b) → ∀ Y : es_M, (∀ c, c ≠ 64 → Y c = M c) → Y 64 b = v → (∀ j, j ≠ b → Y 64 j = X 64 j) → G 79 [lr 60, none, li (2 * T 1 0), li y, li (b + 1), none, none] [] Y := fun v hv Y z1 z2 z3 => ih2 Y z1 (fun q hq => by
          by_cases e : q = b
          · rw [e, z2]; exact ⟨fun _ => hv, fun w => absurd w (by omega)⟩
          · rw [z3 q e]; exact ⟨fun w => (x2 q hq).1 (by omega), fun w => (x2 q hq).2 (by omega)⟩)
        apply k_Ways_link_79 hG
        rw [w32_1 (k := b) (by omega) (by omega)]
        refine ⟨fun z => absurd z (by omega), fun _ => ⟨by omega, fun z => nx _ (xb.iff (fun p => ?_)) X x1 rfl (fun _ _ => rfl), fun z => ⟨by omega, by omega, by omega, nx _ ((lb_or xb xy).iff (fun p => ?_)) _ (fun c hc => by rw [es_upd_o c hc]; exact x1 c hc) es_upd_s (fun j hj => es_upd_j hj)⟩⟩⟩
        · have nb : ¬ lkN (Tg T f) y.toNat y b := fun w => z (bit.mpr ⟨hy, w⟩)
          constructor
          · rintro ⟨a1, a2⟩; exact ⟨a1, Or.inl a2⟩
          · rintro ⟨a1, a2 | ⟨a2, a3⟩⟩
            · exact ⟨a1, a2⟩
            · rw [yn] at a3; exact absurd a3 nb
        · have yb := (bit.mp z).2
          constructor
          · rintro (⟨a1, a2⟩ | ⟨a1, a2⟩)
            · exact ⟨a1, Or.inl a2⟩
            · exact ⟨a1, Or.inr ⟨by rw [yn]; exact a2, by rw [yn]; exact yb⟩⟩
          · rintro ⟨a1, a2 | ⟨a2, a3⟩⟩
            · exact Or.inl ⟨a1, a2⟩
            · rw [yn] at a2; exact Or.inr ⟨a1, a2⟩
  refine es_up (P := fun q => ∀ M', (∀ c, c ≠ 64 → M' c = M c) → (∀ r, isP T r → r < q → lb (M' 64 r) (fun p => isP T p ∧ lkN (Tg T f) 0 p r)) → G 12 [lr 60, li f, li (2 * T 1 0), li q, none, none, none] [] M') (n := 2 * T 1 0) (by omega) ?_ ?_ M (fun _ _ => rfl) (fun r hr w => absurd w (by have := hr.1; omega))
  · intro M' g1 g2
    apply k_Ways_link_12 hG
    exact ⟨fun _ => L2 M' g1 (fun q hq => g2 q hq hq.2), fun z => absurd (Int.le_refl _) z⟩
  · intro q q0 q1 ih M' g1 g2
    have hq : isP T q := ⟨q0, q1⟩
    have wq : w32 (q + 1) = q + 1 := w32_1 (by omega) (by omega)
    apply k_Ways_link_12 hG
    refine ⟨fun z => absurd z (by omega), fun _ => ?_⟩
    refine es_up (P := fun p => ∀ x, lb x (fun r => (0 ≤ r ∧ r < p) ∧ lkN (Tg T f) 0 r q) → G 23 [lr 60, li f, li (2 * T 1 0), li q, ll x, none, li p] [] M') (n := 2 * T 1 0) (by omega) ?_ ?_ 0 (lb_0 (fun p w => by have := w.1; omega))
    · intro x hx
      apply k_Ways_link_23 hG
      rw [wq]
      refine ⟨fun _ => ⟨by omega, ih _ (fun c hc => by rw [es_upd_o c hc]; exact g1 c hc) (fun r hr w => ?_)⟩, fun z => absurd (Int.le_refl _) z⟩
      rw [es_upd_c]
      by_cases e : r = q
      · rw [if_pos e, e]; exact hx
      · rw [if_neg e]; exact g2 r hr (by omega)
    · intro p p0 p1 ih2 x hx
      have hp : isP T p := ⟨p0, p1⟩
      apply k_Ways_link_23 hG
      rw [w32_1 (k := p) (by omega) (by omega)]
      have gg : lkN (Tg T f) 0 p q ↔ goes T p ∧ stp (Tg T f) 0 p q < 1000000 := by
        show goes (Tg T f) p ∧ stp (Tg T f) 0 p q < 1000000 ↔ _
        rw [Tg_goes]
      refine ⟨fun z => absurd z (by omega), fun _ => s_canStep hT (rep64 hR g1) f0 hp hq (fun y => es_t1 (ih2 _ ((lb_or hx (lb_1 p0 (by omega))).iff (fun r => ?_)))) (fun y => es_t0 (ih2 x (hx.iff (fun r => ?_))))⟩
      · constructor
        · rintro (⟨a1, a2⟩ | a)
          · exact ⟨⟨a1.1, by omega⟩, a2⟩
          · rw [a]; exact ⟨⟨p0, by omega⟩, gg.mpr y⟩
        · rintro ⟨a1, a2⟩
          by_cases e : (r : Int) = p
          · exact Or.inr e
          · exact Or.inl ⟨⟨a1.1, by omega⟩, a2⟩
      · constructor
        · rintro ⟨a1, a2⟩; exact ⟨⟨a1.1, by omega⟩, a2⟩
        · rintro ⟨a1, a2⟩
          by_cases e : (r : Int) = p
          · rw [e] at a2; exact absurd (gg.mp a2) y
          · exact ⟨⟨a1.1, by omega⟩, a2⟩
end
