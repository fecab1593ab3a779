/-! THE TOWN'S TEXT (4): the model's reading -/
def MX (t : Int → Int) (L p : Int) (M : es_M) : Prop := (∀ i, 0 ≤ i → i < L → M 103 i = t i) ∧ M 91 18 = L ∧ M 91 17 = p ∧ (0 ≤ p ∧ p ≤ L) ∧ TX t L
def EqM (M M' : es_M) : Prop := ∀ (c : Nat) (j : Int), ¬ (c = 91 ∧ j = 17) → M' c j = M c j
theorem EqM.rf {M : es_M} : EqM M M := fun _ _ _ => rfl
theorem EqM.tr {M M' M'' : es_M} (h : EqM M M') (h' : EqM M' M'') : EqM M M'' := fun c j q => (h' c j q).trans (h c j q)
theorem EqM.cell {M M' : es_M} (h : EqM M M') (c : Nat) (hc : c ≠ 91) : M' c = M c := funext fun j => h c j (fun z => hc z.1)
def FM (M M' : es_M) : Prop := ∀ (c : Nat) (j : Int), c ≠ 104 → c ≠ 105 → ¬ (c = 91 ∧ j = 17) → M' c j = M c j
theorem EqM.f {M M' : es_M} (h : EqM M M') : FM M M' := fun c j _ _ q => h c j q
theorem FM.tr {M M' M'' : es_M} (h : FM M M') (h' : FM M' M'') : FM M M'' := fun c j a b q => (h' c j a b q).trans (h c j a b q)
def mI (it : It) : Int := if it.2.2.2.2.1 = -1 then -2 else it.2.2.2.2.1
def MT (M M' : es_M) (it : It) : Prop := (∀ (c : Nat) (j : Int), c ≠ 104 → c ≠ 105 → ¬ (c = 91 ∧ (j = 17 ∨ j = 20)) → M' c j = M c j) ∧ M' 91 20 = M 91 20 + 1 ∧ (∀ j, j < M 91 20 → M' 104 j = M 104 j ∧ M' 105 j = M 105 j) ∧ M' 104 (M 91 20) = plI it ∧ M' 105 (M 91 20) = mI it
def MS (M M' : es_M) (it : It) : Prop := (∀ (c : Nat) (j : Int), ¬ (93 ≤ c ∧ c ≤ 97) → ¬ (c = 91 ∧ (j = 17 ∨ j = 19)) → M' c j = M c j) ∧ M' 91 19 = M 91 19 + 1 ∧ (∀ j, M' 93 j = if j = M 91 19 then it.2.1 else M 93 j) ∧ (∀ j, M' 94 j = if j = M 91 19 then it.2.2.1 else M 94 j) ∧ (∀ j, M' 95 j = if j = 2 * M 91 19 + 1 then it.2.2.2.2.1 else if j = 2 * M 91 19 then it.2.2.2.1 else M 95 j) ∧ (∀ j, M' 96 j = if j = M 91 19 then it.2.2.2.2.2.1 else M 96 j) ∧ (∀ j, M' 97 j = if j = M 91 19 then it.2.2.2.2.2.2 else M 97 j)
def GM (M M' : es_M) (it : It) : Prop := (it.1 = 1 ∧ MT M M' it) ∨ (it.1 = 0 ∧ MS M M' it)
def ItM (r : Int ⊕ (Int × It)) (t : Int → Int) (L : Int) (M : es_M) (Q : Int → es_M → Prop) : Prop := match r with
  | .inl q => ∀ M', MX t L q M' → FM M M' → Q 0 M'
  | .inr (q, it) => ∀ M', MX t L q M' → GM M M' it → Q 1 M'
theorem MT.eq {M M1 M' : es_M} {it : It} (e : EqM M M1) (h : MT M1 M' it) : MT M M' it := by
  obtain ⟨a, b, c, f, g⟩ := h
  have e20 : M1 91 20 = M 91 20 := e 91 20 (fun z => absurd z.2 (by decide))
  rw [e20] at b c f g
  refine ⟨fun c j x y z => (a c j x y z).trans (e c j (fun w => z ⟨w.1, Or.inl w.2⟩)), b, fun j hj => ?_, f, g⟩
  have := c j hj
  rw [e.cell 104 (by decide), e.cell 105 (by decide)] at this
  exact this
theorem MS.eq {M M1 M' : es_M} {it : It} (e : EqM M M1) (h : MS M1 M' it) : MS M M' it := by
  obtain ⟨a, b, c, f, g, i, j⟩ := h
  have e19 : M1 91 19 = M 91 19 := e 91 19 (fun z => absurd z.2 (by decide))
  rw [e19] at b c f g i j
  rw [e.cell 93 (by decide)] at c
  rw [e.cell 94 (by decide)] at f
  rw [e.cell 95 (by decide)] at g
  rw [e.cell 96 (by decide)] at i
  rw [e.cell 97 (by decide)] at j
  exact ⟨fun c j x z => (a c j x z).trans (e c j (fun w => z ⟨w.1, Or.inl w.2⟩)), b, c, f, g, i, j⟩
theorem GM.eq {M M1 M' : es_M} {it : It} (e : EqM M M1) (h : GM M1 M' it) : GM M M' it := by
  rcases h with ⟨a, b⟩ | ⟨a, b⟩
  · exact Or.inl ⟨a, b.eq e⟩
  · exact Or.inr ⟨a, b.eq e⟩
theorem ItM.eq {r : Int ⊕ (Int × It)} {t : Int → Int} {L : Int} {M M1 : es_M} {Q : Int → es_M → Prop} (h : ItM r t L M Q) (e : EqM M M1) : ItM r t L M1 Q := by
  match r, h with
  | .inl q, h => exact fun M' a b => h M' a (e.f.tr b)
  | .inr (q, it), h => exact fun M' a b => h M' a (b.eq e)
theorem es_k1 {A B : Prop} (h : A) : ((0 : Int) ≤ -1 → B) ∧ (¬ (0 : Int) ≤ -1 → A) := ⟨fun z => absurd z (by decide), fun _ => h⟩
section
variable {d : Nat} {M : es_M} {Q : Int → es_M → Prop} {t : Int → Int} {L p : Int}
theorem MX.upd (h : MX t L p M) {p' : Int} (h0 : 0 ≤ p') (h1 : p' ≤ L) : MX t L p' (es_upd M 91 17 p') ∧ EqM M (es_upd M 91 17 p') := by
  obtain ⟨a, b, c, e, f⟩ := h
  exact ⟨⟨by rw [es_upd_o 103 (by decide)]; exact a, by rw [es_upd_j (by decide)]; exact b, es_upd_s, ⟨h0, h1⟩, f⟩, fun c j q => if_neg q⟩
theorem MX.lk (h : MX t L p M) (hp : p < L) : M 103 p = tlF t L p := by
  unfold tlF
  rw [if_pos hp]
  exact h.1 p h.2.2.2.1.1 hp
theorem lk_end (hp : ¬ p < L) : tlF t L p = -1 := if_neg hp
theorem s_m_isAt (h : MX t L p M) {x : Int} (x0 : 0 ≤ x) (k1 : tlF t L p = x → p < L → Q 1 M) (k0 : ¬ tlF t L p = x → Q 0 M) : es_Call (d + 1) 175 [.inr (.inr 91), .inl x] M Q := by
  apply c_Model_isAt
  have L1 := h.2.2.2.2.1
  have p0 := h.2.2.2.1
  rw [h.2.1, h.2.2.1]
  refine ⟨fun z => ⟨es_b0, k0 (by rw [lk_end (by omega)]; omega)⟩, fun z => ⟨by omega, ?_⟩⟩
  rw [h.lk (by omega)]
  exact ⟨fun q => ⟨es_b0, k0 q⟩, fun q => ⟨es_b1, k1 q (by omega)⟩⟩
theorem s_m_psign (h : MX t L p M) {x : Int} (x0 : 0 ≤ x) (k1 : tlF t L p = x → p < L → ∀ M', MX t L (p + 1) M' → EqM M M' → Q 1 M') (k0 : ¬ tlF t L p = x → ∀ M', MX t L p M' → EqM M M' → Q 0 M') : es_Call (d + 2) 174 [.inr (.inr 91), .inl x] M Q := by
  apply c_Model_passesSign
  have L1 := h.2.2.2.2.1
  have p0 := h.2.2.2.1
  refine s_m_isAt h x0 (fun q ql => ?_) (fun q => ?_)
  · apply c_Model_truth
    refine es_t1 ⟨es_b1, ?_⟩
    rw [h.2.2.1, w32_1 (by omega) (by omega)]
    have u := h.upd (p' := p + 1) (by omega) (by omega)
    exact k1 q ql _ u.1 u.2
  · apply c_Model_truth
    refine es_t0 ⟨es_b0, ?_⟩
    rw [h.2.2.1, Int.add_zero, w32_s (by omega) (by omega)]
    have u := h.upd (p' := p) (by omega) (by omega)
    exact k0 q _ u.1 u.2
theorem s_m_isDigit (h : MX t L p M) (k1 : 48 ≤ tlF t L p → tlF t L p ≤ 57 → p < L → M 103 p = tlF t L p → Q 1 M) (k0 : ¬ (48 ≤ tlF t L p ∧ tlF t L p ≤ 57) → Q 0 M) : es_Call (d + 2) 181 [.inr (.inr 91)] M Q := by
  apply c_Model_isDigit
  have L1 := h.2.2.2.2.1
  have p0 := h.2.2.2.1
  rw [h.2.1, h.2.2.1]
  refine ⟨fun z => ⟨es_b0, k0 (by rw [lk_end (by omega)]; omega)⟩, fun z => ⟨by omega, ?_⟩⟩
  have e := h.lk (by omega)
  rw [e]
  exact s_m_in (fun a b => es_t1 ⟨es_b1, k1 a b (by omega) e⟩) (fun q => es_t0 ⟨es_b0, k0 q⟩)
theorem s_m_corner0 (h : MX t L p M) {u : Int} (k1 : 0 ≤ cnF t L u p → ∀ M', MX t L (p + 1) M' → EqM M M' → Q (cnF t L u p) M') (k0 : cnF t L u p = -1 → Q (-1) M) : es_Call (d + 2) 178 [.inr (.inr 91), .inl u] M Q := by
  apply c_Model_corner_0
  have L1 := h.2.2.2.2.1
  have p0 := h.2.2.2.1
  rw [h.2.1, h.2.2.1]
  unfold cnF at k1 k0
  refine ⟨fun z => ?_, fun z => ⟨by omega, ?_⟩⟩
  · rw [if_neg (by rw [lk_end (by omega)]; omega)] at k0; exact k0 rfl
  have e := h.lk (by omega)
  rw [e]
  refine s_m_in (fun a b => es_t1 ?_) (fun q => es_t0 ?_)
  · rw [h.2.2.1, e, w32_1 (by omega) (by omega), es_upd_s, w32_s (k := p + 1 - 1) (by omega) (by omega), show p + 1 - 1 = p by omega, es_upd_n (by decide), e, w32_s (by omega) (by omega)]
    refine ⟨by omega, fun q => ⟨by omega, ?_⟩, fun q => ?_⟩
    · rw [if_pos ⟨⟨a, b⟩, q⟩] at k1
      have u := h.upd (p' := p + 1) (by omega) (by omega)
      exact k1 (by omega) _ u.1 u.2
    · rw [if_neg (fun y => y.2 q)] at k0; exact k0 rfl
  · rw [if_neg (fun y => q y.1)] at k0; exact k0 rfl
theorem s_m_number (h : MX t L p M) {z y : Int} (zy : (z = 0 ∧ y = 1) ∨ (z = 1 ∧ y = 0)) (k1 : ¬ nmF t L z p = -1 → ∀ M', MX t L (nmA t L p) M' → EqM M M' → Q (nmF t L z p) M') (k0 : nmF t L z p = -1 → Q (-1) M) : es_Call (d + 3) 180 [.inr (.inr 91), .inl y] M Q := by
  apply c_Model_number
  have L1 := h.2.2.2.2.1
  have p0 := h.2.2.2.1
  unfold nmF nmA at k1
  unfold nmF at k0
  have rest : z ≤ tlF t L p - 48 → tlF t L p ≤ 57 → p < L → M 103 p = tlF t L p → ((0 ≤ (M 91 17) ∧ (M 91 17) < 100) ∧ es_Call (d + 2) 181 [.inr (.inr 91)] (es_upd M 91 17 (w32 ((M 91 17) + 1))) (fun y4 M3 => ((y4 = 0 → Q (w32 ((M 103 (M 91 17)) - 48)) M3) ∧ (¬ y4 = 0 → ((0 ≤ (M3 91 17) ∧ (M3 91 17) < 100) ∧ Q (w32 ((w32 ((w32 (10 * (w32 ((M 103 (M 91 17)) - 48)))) + (M3 103 (M3 91 17)))) - 48)) (es_upd M3 91 17 (w32 ((M3 91 17) + 1)))))))) := by
    intro a b pl e
    rw [h.2.2.1, e, w32_1 (by omega) (by omega), w32_s (k := tlF t L p - 48) (by omega) (by omega), w32_s (k := 10 * (tlF t L p - 48)) (by omega) (by omega)]
    refine ⟨by omega, ?_⟩
    have u := h.upd (p' := p + 1) (by omega) (by omega)
    rw [if_pos ⟨a, by omega⟩] at k1
    refine s_m_isDigit u.1 (fun a2 b2 pl2 e2 => es_t1 ⟨?_, ?_⟩) (fun q => es_t0 ?_)
    · rw [u.1.2.2.1]; omega
    · rw [if_pos ⟨a2, b2⟩, if_pos ⟨a2, b2⟩] at k1
      rw [u.1.2.2.1, e2, w32_s (k := 10 * (tlF t L p - 48) + tlF t L (p + 1)) (by omega) (by omega), w32_s (by omega) (by omega), w32_1 (by omega) (by omega), show p + 1 + 1 = p + 2 by omega, show 10 * (tlF t L p - 48) + tlF t L (p + 1) - 48 = 10 * (tlF t L p - 48) + (tlF t L (p + 1) - 48) by omega]
      have u2 := u.1.upd (p' := p + 2) (by omega) (by omega)
      exact k1 (by omega) _ u2.1 (u.2.tr u2.2)
    · rw [if_neg q, if_neg q] at k1
      exact k1 (by omega) _ u.1 u.2
  refine s_m_isDigit h (fun a b pl e => es_t1 ?_) (fun q => es_t0 ?_)
  · rcases zy with ⟨rfl, rfl⟩ | ⟨rfl, rfl⟩
    · exact ⟨fun _ => rest (by omega) b pl e, fun z => absurd z (by decide)⟩
    · refine ⟨fun z => absurd rfl z, fun _ => ⟨by rw [h.2.2.1]; omega, fun q => rest ?_ b pl e, fun q => ?_⟩⟩
      · rw [h.2.2.1, e] at q; omega
      · rw [h.2.2.1, e] at q
        rw [if_neg (fun y => by omega)] at k0; exact k0 rfl
  · rw [if_neg (fun y => q (by omega))] at k0; exact k0 rfl
end
