/-! PAIRS OF CALLS: best, some, rest -/
theorem neg_and {a : Int} (a0 : -2147483648 ≤ a) (a1 : a < 0) {b : Int} (b0 : 0 ≤ b) (b1 : b < 2147483648) : ¬ es_and a (es_xor b (-1)) = 0 := by
  unfold es_and es_xor
  intro h
  have m : ((Int32.ofInt a).toBitVec &&& (Int32.ofInt ((Int32.ofInt b ^^^ Int32.ofInt (-1)).toInt)).toBitVec).toInt = 0 := h
  have ma : (Int32.ofInt a).toBitVec.msb = true := by
    rw [BitVec.msb_eq_toInt]
    have : (Int32.ofInt a).toBitVec.toInt = a := Int32.toInt_ofInt_of_le (by omega) (by omega)
    rw [this]; simpa using a1
  have mb : (Int32.ofInt b).toBitVec.msb = false := by
    rw [BitVec.msb_eq_toInt]
    have : (Int32.ofInt b).toBitVec.toInt = b := Int32.toInt_ofInt_of_le (by omega) (by omega)
    rw [this]; simpa using b0
  have mx : (Int32.ofInt ((Int32.ofInt b ^^^ Int32.ofInt (-1)).toInt)).toBitVec.msb = true := by
    rw [Int32.ofInt_toInt]
    show ((Int32.ofInt b).toBitVec ^^^ (Int32.ofInt (-1)).toBitVec).msb = true
    rw [BitVec.msb_xor, mb]; rfl
  have mm : ((Int32.ofInt a).toBitVec &&& (Int32.ofInt ((Int32.ofInt b ^^^ Int32.ofInt (-1)).toInt)).toBitVec).msb = true := by
    rw [BitVec.msb_and, ma, mx]; rfl
  rw [BitVec.msb_eq_toInt, m] at mm
  simp at mm
theorem all_bit {T : es_M} (hT : TI T) (i : Nat) : (allF T).toNat.testBit i = decide (i < (T 1 1).toNat) := by
  have e : (allF T).toNat = 2 ^ (T 1 1).toNat - 1 := by
    unfold allF
    have : ((2 : Int) ^ (T 1 1).toNat) = ((2 ^ (T 1 1).toNat : Nat) : Int) := by simp
    rw [this]
    have := Nat.two_pow_pos (T 1 1).toNat
    omega
  rw [e, Nat.testBit_two_pow_sub_one]
theorem sub_all {T : es_M} (hT : TI T) {a : Int} (a0 : 0 ≤ a) : sub a (allF T) ↔ a ≤ allF T := by
  have ha := hT.all
  constructor
  · intro h
    have := sub_le a0 h
    omega
  · intro h i hi
    rw [all_bit hT, decide_eq_true_eq]
    cases Nat.lt_or_ge i (T 1 1).toNat with
    | inl z => exact z
    | inr z =>
      exfalso
      have g := Nat.ge_two_pow_of_testBit hi
      have p : (2 : Nat) ^ (T 1 1).toNat ≤ 2 ^ i := Nat.pow_le_pow_right (by decide) z
      have e : ((2 : Int) ^ (T 1 1).toNat) = ((2 ^ (T 1 1).toNat : Nat) : Int) := by simp
      unfold allF at h
      rw [e] at h
      omega
section
variable {d : Nat} {M : es_M}
abbrev offK (M M' : es_M) : Prop := ∀ c, c ≠ 58 → c ≠ 59 → c ≠ 60 → c ≠ 61 → c ≠ 62 → c ≠ 63 → c ≠ 66 → c ≠ 67 → c ≠ 68 → c ≠ 69 → c ≠ 70 → c ≠ 71 → M' c = M c
theorem repK {M' : es_M} (h : offK M M') : RepM M (es_upd M' 91 0 0) := by
  intro c j q
  by_cases e : c = 91
  · subst e
    rw [es_upd_j (by rintro rfl; cases q), h 91] <;> decide
  · rw [es_upd_o c e, h c ?_ ?_ ?_ ?_ ?_ ?_ ?_ ?_ ?_ ?_ ?_ ?_] <;> (rintro rfl; cases q)
theorem walk_inv (h : Inv M) {M1 M2 : es_M} (e1 : offK M M1) (c0 : M1 60 5 = 0) (c1 : nextsOK M M1) (c2 : ∀ p q, isP M p → isP M q → M1 61 (p * 36 + q) = wyF M p q) (e2 : ∀ c, c ≠ 91 → c ≠ 92 → c ≠ 118 → M2 c = M1 c) (e3 : ∀ j, j ≠ 0 → j ≠ 1 → j ≠ 38 → j ≠ 39 → M2 91 j = M1 91 j) (hr : RowEq M2) : Inv M2 := by
  refine h.ref (fun c j q => ?_) hr ?_ (fun p q hp hq => ?_) (fun p hp => ?_)
  · by_cases c1 : c = 91
    · subst c1
      rw [e3 j ?_ ?_ ?_ ?_, e1 91]
      all_goals first | decide | (rintro rfl; cases q)
    · rw [e2 c c1 ?_ ?_, e1 c ?_ ?_ ?_ ?_ ?_ ?_ ?_ ?_ ?_ ?_ ?_ ?_]
      all_goals (rintro rfl; cases q)
  · rw [e2 60 (by decide) (by decide) (by decide)]; exact c0
  · rw [e2 61 (by decide) (by decide) (by decide)]; exact c2 p q hp hq
  · rw [e2 62 (by decide) (by decide) (by decide), e2 63 (by decide) (by decide) (by decide)]; exact c1 p hp
/-- the class tells from a state, and the model's answer is held against it -/
theorem cls_tell (h : Inv M) {M1 : es_M} {c g W p dn x y : Int} {R : Int → es_M → Prop} (o1 : offP M M1) (c0 : M1 60 5 = 0) (c1 : nextsOK M M1) (hD : RD M g W M1) (W0 : 0 ≤ W) (W1 : W < 1024) (hp : isS M p) (d0 : 0 ≤ dn) (hd : sub dn W) (d1 : dn < 1024) (hx : cr M c p = x) (hy : lsF p = y)
    (hno : ¬ rmF M c g W p dn < 1000000 → ∀ M2, offK M M2 → M2 60 5 = 0 → nextsOK M M2 → (∀ p q, isP M p → isP M q → M2 61 (p * 36 + q) = wyF M p q) → M2 58 = M 58 → M2 59 = M 59 → R (-2) M2)
    (hyes : rmF M c g W p dn < 1000000 → ∀ M2, offK M M2 → M2 60 5 = 0 → nextsOK M M2 → (∀ p q, isP M p → isP M q → M2 61 (p * 36 + q) = wyF M p q) → RwC (wkR M c g W 1000000 p dn (1, fun _ => cr M c p)) M2 → R (rmF M c g W p dn) M2) : es_Call (d + 6) 108 [.inr (.inr 67), .inl x, .inl y, .inl dn, .inr (.inr 58)] M1 R := by
  have hT := h.1
  have k1 : offK M M1 := fun c' x1 x2 x3 x4 x5 x6 x7 x8 x9 y1 y2 y3 => o1 c' x3 x4 x5 x6 x7 x8 x9 y1 y2 y3
  have T1 := s_tell (d := d) (Q := R) hT (repP (RepC.rf M) o1) (c := c) hD W0 W1 hp d0 hd d1 (fun z => hno z M1 k1 c0 c1 hD.1.2.2.2.2 (by rw [o1 58] <;> decide) (by rw [o1 59] <;> decide)) (fun z M2 e1 e2 e3 => hyes z M2 (fun c' x1 x2 x3 x4 x5 x6 x7 x8 x9 y1 y2 y3 => by rw [e1 c' x1 x2]; exact k1 c' x1 x2 x3 x4 x5 x6 x7 x8 x9 y1 y2 y3) (by rw [e1 60 (by decide) (by decide)]; exact c0) (fun p hp => by rw [e1 62 (by decide) (by decide), e1 63 (by decide) (by decide)]; exact c1 p hp) (fun p q hp hq => by rw [e1 61 (by decide) (by decide)]; exact hD.1.2.2.2.2 p q hp hq) e3)
  rw [hx, hy] at T1
  exact T1
theorem r37 {c g W p dn : Int} {M4 : es_M} (hT : TI M) (hF : fOK M c g W (-1) M4) (hp : stt M p) (d0 : 0 ≤ dn) (hd : sub dn W) : M4 118 (dn * 37 + p) = rmF M c g W p dn := hF dn hd d0 (by omega) p hp
theorem row_keep (h : Inv M) {M1 M2 : es_M} (e58 : M1 58 = M 58) (e59 : M1 59 = M 59) (k1 : offK M M1) (a1 : M2 58 = M1 58) (a2 : M2 59 = M1 59) (a3 : M2 91 1 = M1 91 1) (a4 : M2 92 = M1 92) : RowEq M2 := by
  have hr := h.2.1
  unfold RowEq at hr ⊢
  rw [a1, a2, a3, a4, e58, e59, k1 91, k1 92] <;> first | exact hr | decide
theorem row_new {r : RW} {M1 M2 M3 : es_M} (hr : RwC r M1) (a1 : M2 58 = M1 58) (a2 : M2 59 = M1 59) (o : offV M2 M3) (hm : RwM r M3) : RowEq M3 := by
  refine row_of (r := r) ?_ hm
  unfold RwC at hr ⊢
  rw [o.1 58 (by decide) (by decide), o.1 59 (by decide) (by decide), a1, a2]; exact hr
/-- the model's part from the corner c, of the set W, home to g -/
theorem mdl_tell (h : Inv M) {M1 : es_M} {c g W : Int} (W0 : 0 ≤ W) (W1 : W < 1024) (k1 : offK M M1) (c0 : M1 60 5 = 0) (c1 : nextsOK M M1) (c2 : ∀ p q, isP M p → isP M q → M1 61 (p * 36 + q) = wyF M p q) {y : Int} (hno : ¬ rmF M c g W 36 0 < 1000000 → y = -2 ∧ M1 58 = M 58 ∧ M1 59 = M 59) (hyes : rmF M c g W 36 0 < 1000000 → y = rmF M c g W 36 0 ∧ RwC (wkR M c g W 1000000 36 0 (1, fun _ => cr M c 36)) M1) : es_Call (d + 6) 226 [.inr (.inr 91), .inl c, .inl g, .inl W] (es_upd M1 91 0 0) (fun _ M7 => es_Call (d + 6) 233 [.inr (.inr 91), .inl 36, .inl 0] M7 (fun y9 M8 => ((y9 < 1000000 → es_Call (d + 6) 234 [.inr (.inr 91), .inl 36, .inl 0, .inl c] M8 (fun _ M10 => y9 = y ∧ Inv M10)) ∧ (¬ y9 < 1000000 → -2 = y ∧ Inv M8)))) := by
  have hT := h.1
  have s0 : sub 0 W := fun i hi => by rw [show (0 : Int).toNat = 0 from rfl, Nat.zero_testBit] at hi; cases hi
  refine s_m_fills hT (repK k1) W0 W1 (fun M4 f1 f2 f3 f4 f5 => c_Model_remainOf ?_)
  obtain ⟨x1, x2, x3⟩ := w37888 (a := 0) (b := 36) (by decide) (by decide)
  have v : M4 118 (0 * 37 + 36) = rmF M c g W 36 0 := f5 0 s0 (by decide) (by decide) 36 (Or.inl rfl)
  have hR4 : RepM M M4 := by
    intro c' j q
    by_cases e : c' = 91
    · subst e
      rw [f2 j (by rintro rfl; cases q) (by rintro rfl; cases q)]; exact repK k1 _ _ q
    · rw [f1 c' (by rintro rfl; cases q) e]; exact repK k1 _ _ q
  rw [x1, v]
  have e58 : M4 58 = M1 58 := by rw [f1 58 (by decide) (by decide), es_upd_o 58 (by decide)]
  have e59 : M4 59 = M1 59 := by rw [f1 59 (by decide) (by decide), es_upd_o 59 (by decide)]
  have eo : ∀ c, c ≠ 91 → c ≠ 92 → c ≠ 118 → M4 c = M1 c := fun c' y1 _ y3 => by rw [f1 c' y3 y1, es_upd_o c' y1]
  have e91 : ∀ j, j ≠ 0 → j ≠ 38 → j ≠ 39 → M4 91 j = M1 91 j := fun j j1 j2 j3 => by rw [f2 j j2 j3, es_upd_j j1]
  refine ⟨⟨x2, x3⟩, fun z => ?_, fun z => ⟨(hno z).1.symm, ?_⟩⟩
  · obtain ⟨ey, er⟩ := hyes z
    refine s_m_walks hT hR4 f3 f4 W0 W1 f5 (Or.inl rfl) (by decide) s0 (by decide) v z (fun M5 g1 g2 => ⟨ey.symm, ?_⟩)
    refine walk_inv h k1 c0 c1 c2 (fun c' y1 y2 y3 => by rw [g1.1 c' y1 y2]; exact eo c' y1 y2 y3) (fun j j1 j2 j3 j4 => by rw [g1.2 j j2]; exact e91 j j1 j3 j4) (row_new er e58 e59 g1 g2)
  · obtain ⟨-, a, b⟩ := hno z
    exact walk_inv h k1 c0 c1 c2 eo (fun j j1 _ j3 j4 => e91 j j1 j3 j4) (row_keep h a b k1 e58 e59 (e91 1 (by decide) (by decide) (by decide)) (by rw [f1 92 (by decide) (by decide), es_upd_o 92 (by decide)]))
theorem P_best (h : Inv M) {a b : Int} : Pair (d + 20) 22 224 [.inl a, .inl b] M := by
  have hT := h.1
  have ha := hT.all
  apply c_EveryStreet_best
  refine s_isCorner (fun a0 a1 => es_t1 (s_isCorner (fun b0 b1 => es_f1 (s_allServices hT (RepC.rf M) (s_aimAt hT (RepC.rf M) h.2.2 ha.1 (by omega) (fun M1 o1 c0 c1 hP hW hB => ?_)))) (fun z => es_f0 ?_))) (fun z => es_t0 ?_)
  · have s0 : sub 0 (allF M) := fun i hi => by rw [show (0 : Int).toNat = 0 from rfl, Nat.zero_testBit] at hi; cases hi
    have md : ∀ (M2 : es_M) (y : Int), offK M M2 → M2 60 5 = 0 → nextsOK M M2 → (∀ p q, isP M p → isP M q → M2 61 (p * 36 + q) = wyF M p q) → (¬ rmF M a b (allF M) 36 0 < 1000000 → y = -2 ∧ M2 58 = M 58 ∧ M2 59 = M 59) → (rmF M a b (allF M) 36 0 < 1000000 → y = rmF M a b (allF M) 36 0 ∧ RwC (wkR M a b (allF M) 1000000 36 0 (1, fun _ => cr M a 36)) M2) → es_Call (d + 20) 224 [.inr (.inr 91), .inl a, .inl b] M2 (fun y' M3 => y' = y ∧ Inv M3) := by
      intro M2 y k1 q0 q1 q2 hno hyes
      refine c_Model_best (s_m_isCorner (fun _ _ => es_t1 (s_m_isCorner (fun _ _ => es_f1 (s_m_all hT (repK k1) ?_)) (fun q => absurd ⟨b0, b1⟩ q))) (fun q => absurd ⟨a0, a1⟩ q))
      exact mdl_tell (d := d + 13) h ha.1 (by omega) k1 q0 q1 q2 hno hyes
    refine cls_tell (d := d + 13) h (c := a) (p := 36) o1 c0 c1 ⟨hP, hW, hB⟩ ha.1 (by omega) (Or.inl rfl) (by decide) s0 (by decide) rfl rfl (fun z M2 k1 q0 q1 q2 r1 r2 => ?_) (fun z M2 k1 q0 q1 q2 r1 => ?_)
    · exact md M2 _ k1 q0 q1 q2 (fun _ => ⟨rfl, r1, r2⟩) (fun w => absurd w z)
    · exact md M2 _ k1 q0 q1 q2 (fun w => absurd z w) (fun _ => ⟨rfl, r1⟩)
  · exact c_Model_best (s_m_isCorner (fun _ _ => es_t1 (s_m_isCorner (fun q1 q2 => absurd ⟨q1, q2⟩ z) (fun _ => es_f0 ⟨rfl, h.th⟩))) (fun q => absurd ⟨a0, a1⟩ q))
  · exact c_Model_best (s_m_isCorner (fun q1 q2 => absurd ⟨q1, q2⟩ z) (fun _ => es_t0 ⟨rfl, h.th⟩))
theorem P_some (h : Inv M) {a b : Int} (hb : -2147483648 ≤ b ∧ b < 2147483648) : Pair (d + 20) 23 235 [.inl a, .inl b] M := by
  have hT := h.1
  have ha := hT.all
  apply c_EveryStreet_some
  have cond : es_and b (es_xor (allF M) (-1)) = 0 ↔ 0 ≤ b ∧ b ≤ allF M := by
    by_cases n : b < 0
    · exact ⟨fun z => absurd z (neg_and hb.1 n ha.1 (by omega)), fun z => by omega⟩
    · rw [sub_dif (by omega) hb.2 ha.1 (by omega), sub_all hT (by omega)]
      exact ⟨fun z => ⟨by omega, z⟩, fun z => z.2⟩
  refine s_isCorner (fun a0 a1 => es_t1 (s_allServices hT (RepC.rf M) ⟨fun z => ?_, fun z => ?_⟩)) (fun z => es_t0 ?_)
  · obtain ⟨b0, b1⟩ := cond.mp z
    refine s_aimAt hT (RepC.rf M) h.2.2 b0 (by omega) (fun M1 o1 c0 c1 hP hW hB => ?_)
    have s0 : sub 0 b := fun i hi => by rw [show (0 : Int).toNat = 0 from rfl, Nat.zero_testBit] at hi; cases hi
    have md : ∀ (M2 : es_M) (y : Int), offK M M2 → M2 60 5 = 0 → nextsOK M M2 → (∀ p q, isP M p → isP M q → M2 61 (p * 36 + q) = wyF M p q) → (¬ rmF M a a b 36 0 < 1000000 → y = -2 ∧ M2 58 = M 58 ∧ M2 59 = M 59) → (rmF M a a b 36 0 < 1000000 → y = rmF M a a b 36 0 ∧ RwC (wkR M a a b 1000000 36 0 (1, fun _ => cr M a 36)) M2) → es_Call (d + 20) 235 [.inr (.inr 91), .inl a, .inl b] M2 (fun y' M3 => y' = y ∧ Inv M3) := by
      intro M2 y k1 q0 q1 q2 hno hyes
      refine c_Model_some (s_m_isCorner (fun _ _ => es_t1 (s_m_all hT (repK k1) (s_m_in (fun _ _ => es_f1 ?_) (fun q => absurd ⟨b0, b1⟩ q)))) (fun q => absurd ⟨a0, a1⟩ q))
      exact mdl_tell (d := d + 13) h b0 (by omega) k1 q0 q1 q2 hno hyes
    refine cls_tell (d := d + 13) h (c := a) (p := 36) o1 c0 c1 ⟨hP, hW, hB⟩ b0 (by omega) (Or.inl rfl) (by decide) s0 (by decide) rfl rfl (fun z M2 k1 q0 q1 q2 r1 r2 => ?_) (fun z M2 k1 q0 q1 q2 r1 => ?_)
    · exact md M2 _ k1 q0 q1 q2 (fun _ => ⟨rfl, r1, r2⟩) (fun w => absurd w z)
    · exact md M2 _ k1 q0 q1 q2 (fun w => absurd z w) (fun _ => ⟨rfl, r1⟩)
  · exact c_Model_some (s_m_isCorner (fun _ _ => es_t1 (s_m_all hT rep0 (s_m_in (fun q1 q2 => absurd (cond.mpr ⟨q1, q2⟩) z) (fun _ => es_f0 ⟨rfl, h.th⟩)))) (fun q => absurd ⟨a0, a1⟩ q))
  · exact c_Model_some (s_m_isCorner (fun q1 q2 => absurd ⟨q1, q2⟩ z) (fun _ => es_t0 ⟨rfl, h.th⟩))
end
