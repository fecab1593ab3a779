/-! bits of numbers: the machine's operations over natural numbers -/
theorem eb_sl : ∀ n, n < 32 → ((nI n &&& 31).toBitVec.smod 32).toNat = n := by decide +kernel
theorem eb_of (a : Nat) : Int32.ofInt (a : Int) = nI a := rfl
theorem eb_and {a b : Nat} (ha : a < 2147483648) : es_and (a : Int) (b : Int) = ((a &&& b : Nat) : Int) := by
  unfold es_and
  rw [eb_of, eb_of]
  have e : nI a &&& nI b = nI (a &&& b) := by
    apply Int32.toBitVec_inj.1
    show BitVec.ofNat 32 a &&& BitVec.ofNat 32 b = BitVec.ofNat 32 (a &&& b)
    apply BitVec.eq_of_getLsbD_eq
    intro i hi
    simp [hi]
  rw [e, nI_toInt (Nat.lt_of_le_of_lt Nat.and_le_left ha)]
theorem eb_and' {a b : Nat} (hb : b < 2147483648) : es_and (a : Int) (b : Int) = ((a &&& b : Nat) : Int) := by
  have h : es_and (a : Int) (b : Int) = es_and (b : Int) (a : Int) := by unfold es_and; rw [Int32.and_comm]
  rw [h, eb_and hb, Nat.and_comm]
theorem eb_or {a b : Nat} (ha : a < 2147483648) (hb : b < 2147483648) : es_or (a : Int) (b : Int) = ((a ||| b : Nat) : Int) := by
  unfold es_or
  rw [eb_of, eb_of]
  have e : nI a ||| nI b = nI (a ||| b) := by
    apply Int32.toBitVec_inj.1
    show BitVec.ofNat 32 a ||| BitVec.ofNat 32 b = BitVec.ofNat 32 (a ||| b)
    apply BitVec.eq_of_getLsbD_eq
    intro i hi
    simp [hi]
  rw [e, nI_toInt (Nat.or_lt_two_pow (n := 31) ha hb)]
theorem eb_xor {a b : Nat} (ha : a < 2147483648) (hb : b < 2147483648) : es_xor (a : Int) (b : Int) = ((a ^^^ b : Nat) : Int) := by
  unfold es_xor
  rw [eb_of, eb_of]
  have e : nI a ^^^ nI b = nI (a ^^^ b) := by
    apply Int32.toBitVec_inj.1
    show BitVec.ofNat 32 a ^^^ BitVec.ofNat 32 b = BitVec.ofNat 32 (a ^^^ b)
    apply BitVec.eq_of_getLsbD_eq
    intro i hi
    simp [hi]
  rw [e, nI_toInt (Nat.xor_lt_two_pow (n := 31) ha hb)]
theorem eb_shr {a k : Nat} (ha : a < 2147483648) (hk : k < 32) : es_shr (a : Int) (k : Int) = ((a / 2 ^ k : Nat) : Int) := by
  unfold es_shr
  rw [eb_of, eb_of, pk_shrN ha _ k (eb_sl k hk), nI_toInt (Nat.lt_of_le_of_lt (Nat.div_le_self _ _) ha)]
theorem eb_shl {k : Nat} (hk : k < 31) : es_shl 1 (k : Int) = ((2 ^ k : Nat) : Int) := by
  have h : (2 : Nat) ^ k < 2 ^ 31 := Nat.pow_lt_pow_right (by decide) hk
  unfold es_shl
  rw [show Int32.ofInt 1 = nI 1 from rfl, eb_of, pk_shlN _ k (eb_sl k (by omega)) (by rw [Nat.one_mul]; omega), Nat.one_mul, nI_toInt h]
/-- the bit k of a -/
theorem eb_has {a k : Nat} (ha : a < 2147483648) (hk : k < 32) : es_and (es_shr (a : Int) (k : Int)) 1 = 1 ↔ a.testBit k = true := by
  rw [eb_shr ha hk, show (1 : Int) = ((1 : Nat) : Int) from rfl, eb_and' (by decide), Nat.and_one_is_mod]
  rw [Nat.testBit_eq_decide_div_mod_eq]
  simp only [decide_eq_true_eq]
  omega
def es_dif (a b : Nat) : Nat := a ^^^ (a &&& b)
theorem es_dif_bit (a b i : Nat) : (es_dif a b).testBit i = (a.testBit i && !b.testBit i) := by
  unfold es_dif
  rw [Nat.testBit_xor, Nat.testBit_and]
  cases a.testBit i <;> cases b.testBit i <;> rfl
theorem es_dif_lt {a b : Nat} (h : a < 2147483648) : es_dif a b < 2147483648 := Nat.xor_lt_two_pow (n := 31) h (Nat.lt_of_le_of_lt Nat.and_le_left h)
/-- a without the bits of b -/
theorem eb_dif {a b : Nat} (ha : a < 2147483648) (hb : b < 2147483648) : es_and (a : Int) (es_xor (b : Int) (-1)) = ((es_dif a b : Nat) : Int) := by
  have e1 : es_xor (b : Int) (-1) = (nI b ^^^ (-1)).toInt := by unfold es_xor; rfl
  unfold es_and
  rw [e1, eb_of, es_o32]
  have e : nI a &&& (nI b ^^^ (-1)) = nI (es_dif a b) := by
    apply Int32.toBitVec_inj.1
    show BitVec.ofNat 32 a &&& (BitVec.ofNat 32 b ^^^ (-1#32)) = BitVec.ofNat 32 (es_dif a b)
    apply BitVec.eq_of_getLsbD_eq
    intro i hi
    have h1 : (-1#32).getLsbD i = true := by
      rw [show (-1#32 : BitVec 32) = BitVec.allOnes 32 from rfl, BitVec.getLsbD_allOnes]
      exact decide_eq_true hi
    simp only [BitVec.getLsbD_and, BitVec.getLsbD_xor, BitVec.getLsbD_ofNat, h1, es_dif_bit]
    simp [hi]
  rw [e, nI_toInt (es_dif_lt ha)]
theorem eb_div {a b : Nat} (ha : a < 2147483648) (h0 : 0 < b) (hb : b < 2147483648) : es_div (a : Int) (b : Int) = ((a / b : Nat) : Int) := by
  unfold es_div
  rw [eb_of, eb_of, pk_div ha h0 hb, nI_toInt (Nat.lt_of_le_of_lt (Nat.div_le_self _ _) ha)]
theorem eb_rem {a b : Nat} (ha : a < 2147483648) (h0 : 0 < b) (hb : b < 2147483648) : es_rem (a : Int) (b : Int) = ((a % b : Nat) : Int) := by
  unfold es_rem
  rw [eb_of, eb_of, pk_rem ha h0 hb, nI_toInt (Nat.lt_trans (Nat.mod_lt _ h0) hb)]
/-! the same over integers that aren't negative -/
theorem ei_div {a b : Int} (h0 : 0 ≤ a) (ha : a < 2147483648) (hb0 : 0 < b) (hb : b < 2147483648) : es_div a b = a / b := by
  obtain ⟨x, rfl⟩ := Int.eq_ofNat_of_zero_le h0
  obtain ⟨y, rfl⟩ := Int.eq_ofNat_of_zero_le (Int.le_of_lt hb0)
  rw [eb_div (by omega) (by omega) (by omega), Int.natCast_ediv]
theorem ei_rem {a b : Int} (h0 : 0 ≤ a) (ha : a < 2147483648) (hb0 : 0 < b) (hb : b < 2147483648) : es_rem a b = a % b := by
  obtain ⟨x, rfl⟩ := Int.eq_ofNat_of_zero_le h0
  obtain ⟨y, rfl⟩ := Int.eq_ofNat_of_zero_le (Int.le_of_lt hb0)
  rw [eb_rem (by omega) (by omega) (by omega), Int.natCast_emod]
theorem ei_and1 {a : Int} (h0 : 0 ≤ a) (ha : a < 2147483648) : es_and a 1 = a % 2 := by
  obtain ⟨x, rfl⟩ := Int.eq_ofNat_of_zero_le h0
  rw [show (1 : Int) = ((1 : Nat) : Int) from rfl, eb_and (by omega), Nat.and_one_is_mod, Int.natCast_emod]
  rfl
theorem ei_shr1 {a : Int} (h0 : 0 ≤ a) (ha : a < 2147483648) : es_shr a 1 = a / 2 := by
  obtain ⟨x, rfl⟩ := Int.eq_ofNat_of_zero_le h0
  rw [show (1 : Int) = ((1 : Nat) : Int) from rfl, eb_shr (by omega) (by decide), Int.natCast_ediv]
  rfl
/-- the bit i of b, over integers -/
abbrev ebit (b i : Int) : Prop := b.toNat.testBit i.toNat = true
theorem ei_has {b i : Int} (h0 : 0 ≤ b) (hb : b < 2147483648) (hi : 0 ≤ i) (h1 : i < 32) : es_and (es_shr b i) 1 = 1 ↔ ebit b i := by
  obtain ⟨x, rfl⟩ := Int.eq_ofNat_of_zero_le h0
  obtain ⟨y, rfl⟩ := Int.eq_ofNat_of_zero_le hi
  exact eb_has (by omega) (by omega)
theorem ei_shl {k : Int} (h0 : 0 ≤ k) (h1 : k < 31) : es_shl 1 k = 2 ^ k.toNat := by
  obtain ⟨x, rfl⟩ := Int.eq_ofNat_of_zero_le h0
  rw [eb_shl (by omega)]
  simp
