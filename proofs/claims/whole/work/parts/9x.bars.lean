/-! PAIRS OF CALLS: bars (4). Bits of longs -/
theorem el_sl : ∀ k : Nat, k < 36 → ((((Int32.ofInt (k : Int)).toInt64 &&& 63).toBitVec.smod 64)).toNat = k := by decide +kernel
theorem el_shl : ∀ k : Nat, k < 36 → es_lshl 1 (k : Int) = ((2 ^ k : Nat) : Int) := by decide +kernel
theorem el_bv (a : Nat) : (Int64.ofInt (a : Int)).toBitVec = BitVec.ofNat 64 a := by
  show BitVec.ofInt 64 (a : Int) = BitVec.ofNat 64 a
  simp
theorem el_to {n : Nat} (h : n < 9223372036854775808) {x : Int64} (e : x.toBitVec = BitVec.ofNat 64 n) : x.toInt = (n : Int) := by
  show x.toBitVec.toInt = (n : Int)
  rw [e, BitVec.toInt_eq_toNat_cond]
  have t : (BitVec.ofNat 64 n).toNat = n := by rw [BitVec.toNat_ofNat]; exact Nat.mod_eq_of_lt (by omega)
  rw [t, if_pos (by omega)]
theorem el_or {a b : Nat} (ha : a < 4611686018427387904) (hb : b < 4611686018427387904) : es_lor (a : Int) (b : Int) = ((a ||| b : Nat) : Int) := by
  unfold es_lor
  have lt := Nat.or_lt_two_pow (n := 62) ha hb
  refine el_to (by omega) ?_
  show (Int64.ofInt (a : Int)).toBitVec ||| (Int64.ofInt (b : Int)).toBitVec = _
  rw [el_bv, el_bv]
  apply BitVec.eq_of_getLsbD_eq
  intro i hi
  simp [hi]
theorem el_and {a b : Nat} (ha : a < 4611686018427387904) : es_land (a : Int) (b : Int) = ((a &&& b : Nat) : Int) := by
  unfold es_land
  have lt : a &&& b ≤ a := Nat.and_le_left
  refine el_to (by omega) ?_
  show (Int64.ofInt (a : Int)).toBitVec &&& (Int64.ofInt (b : Int)).toBitVec = _
  rw [el_bv, el_bv]
  apply BitVec.eq_of_getLsbD_eq
  intro i hi
  simp [hi]
theorem el_shr {a k : Nat} (ha : a < 4611686018427387904) (hk : k < 36) : es_lshr (a : Int) (k : Int) = ((a / 2 ^ k : Nat) : Int) := by
  unfold es_lshr
  show (((Int64.ofInt (a : Int)).toBitVec.sshiftRight' (((Int32.ofInt (k : Int)).toInt64 &&& 63).toBitVec.smod 64))).toInt = _
  rw [el_bv]
  unfold BitVec.sshiftRight'
  rw [el_sl k hk, BitVec.toInt_sshiftRight]
  have t : (BitVec.ofNat 64 a).toInt = (a : Int) := el_to (x := Int64.ofInt (a : Int)) (by omega) (el_bv a)
  rw [t]
  show ((a >>> k : Nat) : Int) = _
  rw [Nat.shiftRight_eq_div_pow]
theorem el_0 {x : Int} : es_lcmp x 0 = 0 ↔ x = 0 := by unfold es_lcmp; split <;> (try split) <;> omega
theorem el_bit {a k : Nat} (ha : a < 4611686018427387904) (hk : k < 36) : es_lcmp (es_land (es_lshr (a : Int) (k : Int)) 1) 1 = 0 ↔ a.testBit k = true := by
  have lt : a / 2 ^ k ≤ a := Nat.div_le_self _ _
  rw [el_shr ha hk, show (1 : Int) = ((1 : Nat) : Int) from rfl, el_and (by omega), Nat.and_one_is_mod, Nat.testBit_eq_decide_div_mod_eq, decide_eq_true_eq]
  unfold es_lcmp
  split <;> (try split) <;> omega
