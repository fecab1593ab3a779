/-! LEAST WALKS (7): the model's table -/
def stt (T : es_M) (p : Int) : Prop := p = 36 ∨ (isP T p ∧ goes T p)
theorem stt.s {T : es_M} {p : Int} (h : stt T p) : isS T p := h.elim Or.inl (fun z => Or.inr z.1)
def fOK (T : es_M) (c g W D : Int) (M : es_M) : Prop := ∀ d, sub d W → 0 ≤ d → D < d → ∀ p, stt T p → M 118 (d * 37 + p) = rmF T c g W p d
theorem w37888 {a b : Int} (ha : 0 ≤ a ∧ a < 1024) (hb : 0 ≤ b ∧ b < 37) : w32 (w32 (a * 37) + b) = a * 37 + b ∧ 0 ≤ a * 37 + b ∧ a * 37 + b < 37888 := by
  refine ⟨by unfold w32; omega, by omega, by omega⟩
def smN (f : Int → Int) : Nat → Int
  | 0 => 0
  | k + 1 => smN f k + f k
theorem smN_r {f : Int → Int} : ∀ n : Nat, (∀ k, 0 ≤ k → k < (n : Int) → 0 ≤ f k ∧ f k ≤ 1000000) → 0 ≤ smN f n ∧ smN f n ≤ 1000000 * n := by
  intro n
  induction n with
  | zero => intro _; exact ⟨Int.le_refl _, Int.le_refl _⟩
  | succ n ih =>
    intro h
    have a := ih (fun k k0 k1 => h k k0 (by omega))
    have b := h n (by omega) (by omega)
    show 0 ≤ smN f n + f n ∧ smN f n + f n ≤ _
    omega
theorem smN_u {f g : Int → Int} {k : Int} (k0 : 0 ≤ k) (e : ∀ i, i ≠ k → g i = f i) : ∀ n : Nat, smN g n = smN f n + if k < n then g k - f k else 0 := by
  intro n
  induction n with
  | zero => rw [if_neg (by omega)]; rfl
  | succ n ih =>
    show smN g n + g n = smN f n + f n + _
    rw [ih]
    by_cases q : (n : Int) = k
    · rw [if_neg (by omega), if_pos (by omega), q]; omega
    · rw [e n q]
      by_cases q2 : k < n
      · rw [if_pos q2, if_pos (by omega)]; omega
      · rw [if_neg q2, if_neg (by omega)]; omega
section
variable {d : Nat} {Q : Int → es_M → Prop} {T M : es_M}
theorem s_m_byNext (hT : TI T) (hR : RepM T M) {c W p dn : Int} (hW : M 91 38 = W) (W0 : 0 ≤ W) (W1 : W < 1024) (hp : isS T p) (d0 : 0 ≤ dn) (d1 : dn < 1024) (hr : ∀ q, isP T q → stp T c p q < 1000000 → 0 ≤ M 118 (dnF T q dn W * 37 + q) ∧ M 118 (dnF T q dn W * 37 + q) ≤ 1000000) (h : ∀ m, 0 ≤ m → m ≤ 1000000 → (∀ q, isP T q → stp T c p q < 1000000 → m ≤ stp T c p q + M 118 (dnF T q dn W * 37 + q)) → (m = 1000000 ∨ ∃ q, isP T q ∧ stp T c p q < 1000000 ∧ m = stp T c p q + M 118 (dnF T q dn W * 37 + q)) → Q m M) : es_Call (d + 5) 229 [.inr (.inr 91), .inl p, .inl dn, .inl c] M Q := by
  have hn := hT.n
  apply m_Model_byNext
  intro G hG
  apply k_Model_byNext_0 hG
  refine es_up (P := fun k => ∀ m, 0 ≤ m → m ≤ 1000000 → (∀ q, isP T q → q < k → stp T c p q < 1000000 → m ≤ stp T c p q + M 118 (dnF T q dn W * 37 + q)) → (m = 1000000 ∨ ∃ q, isP T q ∧ stp T c p q < 1000000 ∧ m = stp T c p q + M 118 (dnF T q dn W * 37 + q)) → G 8 [lr 91, li p, li dn, li c, li m, li k, none] [] M) (n := 2 * T 1 0) (by omega) ?_ ?_ 1000000 (by decide) (by decide) (fun q hq h1 => absurd h1 (by have := hq.1; omega)) (Or.inl rfl)
  · intro m m0 m1 f1 f2
    apply k_Model_byNext_8 hG
    rw [hR 91 3 rfl, hn.2.2, w32_s (by omega) (by omega)]
    exact ⟨fun _ => h m m0 m1 (fun q hq => f1 q hq hq.2) f2, fun z => absurd (Int.le_refl _) z⟩
  · intro k k0 k1 ih m m0 m1 f1 f2
    have hk : isP T k := ⟨k0, k1⟩
    apply k_Model_byNext_8 hG
    rw [hR 91 3 rfl, hn.2.2, w32_s (k := 2 * T 1 0) (by omega) (by omega), w32_1 (k := k) (by omega) (by omega)]
    refine ⟨fun z => absurd z (by omega), fun _ => s_m_step hT hR hp hk ⟨fun w => ih m m0 m1 (fun q hq h1 hs => ?_) f2, fun w => ?_⟩⟩
    · by_cases e : q = k
      · subst e; omega
      · exact f1 q hq (by omega) hs
    · rw [hW]
      have dr := dnF_r hT (p := k) (done := dn) (aim := W) k0 (by omega) d0 d1
      obtain ⟨x1, x2, x3⟩ := w37888 (a := dnF T k dn W) (b := k) dr (by omega)
      refine s_m_doneBehind hT hR k0 (by omega) d0 d1 W0 W1 (c_Model_remainOf ?_)
      have sr := stp_r hT (c := c) hp hk
      have vr := hr k hk (by omega)
      rw [x1, w32_s (by omega) (by omega)]
      refine ⟨⟨x2, x3⟩, ih _ (by omega) (by omega) (fun q hq h1 hs => ?_) ?_⟩
      · by_cases e : q = k
        · subst e; omega
        · have := f1 q hq (by omega) hs; omega
      · by_cases e : m ≤ stp T c p k + M 118 (dnF T k dn W * 37 + k)
        · rw [show min m (stp T c p k + M 118 (dnF T k dn W * 37 + k)) = m by omega]; exact f2
        · exact Or.inr ⟨k, hk, by omega, by omega⟩
/-- what stands in the row of the set that is looked at -/
def rowOK (T : es_M) (c g W D : Int) (f : Int → Int) : Prop := (∀ p, 0 ≤ p → p < 37 → 0 ≤ f p ∧ f p ≤ 1000000) ∧ (∀ p, stt T p → rmF T c g W p D ≤ f p) ∧ ∀ p, stt T p → D = W ∧ cr T c p = g → f p = 0
theorem row_fix (hT : TI T) {c g W D : Int} {f : Int → Int} (hF : fOK T c g W D M) (h : rowOK T c g W D f) (D0 : 0 ≤ D) (hD : sub D W) (ef : ∀ p, f p = M 118 (D * 37 + p)) (hx : ∀ p q, stt T p → isP T q → stp T c p q < 1000000 → f p ≤ stp T c p q + M 118 (dnF T q D W * 37 + q)) : ∀ p, stt T p → M 118 (D * 37 + p) = rmF T c g W p D := by
  have low : ∀ (l : List Int) (p : Int), stt T p → acc T c g W p D l → f p ≤ wcost T c p l := by
    intro l
    induction l with
    | nil => intro p hp a; rw [h.2.2 p hp ⟨a.2.1, a.2.2⟩]; exact Int.le_refl _
    | cons q l ih =>
      intro p hp a
      have hq := a.1.1.1
      have hs := a.1.1.2
      have gq : goes T q := by
        rcases stp_r hT (c := c) hp.s hq with z | ⟨-, z, -⟩
        · omega
        · exact z
      have sq : stt T q := Or.inr ⟨hq, gq⟩
      have x := hx p q hp hq hs
      have a2 : acc T c g W q (dnF T q D W) l := ⟨a.1.2, a.2.1, a.2.2⟩
      show f p ≤ stp T c p q + wcost T c q l
      by_cases e : dnF T q D W = D
      · rw [e] at a2 x
        have := ih q sq a2
        rw [ef q] at this
        omega
      · have lt : D < dnF T q D W := by
          have s := dn_sub (T := T) (q := q) (d := D) (W := W)
          have nn := dn_nn (T := T) (q := q) (W := W) D0
          have : D.toNat ≤ (dnF T q D W).toNat := by
            have e2 : D.toNat = D.toNat &&& (dnF T q D W).toNat := by
              apply Nat.eq_of_testBit_eq
              intro i
              rw [Nat.testBit_and]
              cases z : D.toNat.testBit i
              · rfl
              · rw [s i z]; rfl
            rw [e2]; exact Nat.and_le_right
          omega
        have v := hF (dnF T q D W) (dn_in hD) (dn_nn D0) lt q sq
        have := (rm_min hT (c := c) (g := g) (W := W) (d := dnF T q D W) (Or.inr hq)).2.1 _ ⟨l, a2, rfl⟩
        omega
  intro p hp
  have m := rm_min hT (c := c) (g := g) (W := W) (d := D) hp.s
  have a := h.2.1 p hp
  have b := ef p
  have r : 0 ≤ f p ∧ f p ≤ 1000000 := by
    rcases hp with z | z
    · subst z; exact h.1 36 (by decide) (by decide)
    · have hn := hT.n; have := z.1.1; have := z.1.2; exact h.1 p (by omega) (by omega)
  by_cases z : rmF T c g W p D < 1000000
  · obtain ⟨l, l1, l2⟩ := m.2.2 z
    have := low l p hp l1
    omega
  · omega
end
