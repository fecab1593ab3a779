/-! numbers: what an int's integer is -/
def es_r32 (x : Int) : Prop := -2147483648 ≤ x ∧ x < 2147483648
def es_r64 (x : Int) : Prop := -9223372036854775808 ≤ x ∧ x < 9223372036854775808
theorem es_t32 {x : Int} (h : es_r32 x) : (Int32.ofInt x).toInt = x := by
  rw [Int32.toInt_ofInt]
  obtain ⟨h1, h2⟩ := h
  simp only [Int.bmod, Int32.size, Int64.size, Int16.size, Int8.size]
  split <;> omega
theorem es_t64 {x : Int} (h : es_r64 x) : (Int64.ofInt x).toInt = x := by
  rw [Int64.toInt_ofInt]
  obtain ⟨h1, h2⟩ := h
  simp only [Int.bmod, Int32.size, Int64.size, Int16.size, Int8.size]
  split <;> omega
theorem es_o32 (x : Int32) : Int32.ofInt x.toInt = x := Int32.ofInt_toInt x
theorem es_o64 (x : Int64) : Int64.ofInt x.toInt = x := Int64.ofInt_toInt x
theorem es_rt32 (x : Int32) : es_r32 x.toInt := ⟨Int32.le_toInt x, Int32.toInt_lt x⟩
theorem es_rt64 (x : Int64) : es_r64 x.toInt := ⟨Int64.le_toInt x, Int64.toInt_lt x⟩
theorem es_rw32 (x : Int) : es_r32 (w32 x) := by unfold es_r32 w32; omega
theorem es_w32 {x : Int} (h : es_r32 x) : w32 x = x := by unfold es_r32 at h; unfold w32; omega
theorem es_ow32 (x : Int) : Int32.ofInt (w32 x) = Int32.ofInt x := by
  apply Int32.toInt_inj.mp
  rw [es_t32 (es_rw32 x), Int32.toInt_ofInt]
  simp only [Int.bmod, w32, Int32.size]
  split <;> omega
theorem es_add32 (x y : Int) : Int32.ofInt (w32 (x + y)) = Int32.ofInt x + Int32.ofInt y := by rw [es_ow32, Int32.ofInt_add]
theorem es_sub32 (x y : Int) : Int32.ofInt (w32 (x - y)) = Int32.ofInt x - Int32.ofInt y := by rw [es_ow32, Int32.ofInt_sub]
theorem es_mul32 (x y : Int) : Int32.ofInt (w32 (x * y)) = Int32.ofInt x * Int32.ofInt y := by rw [es_ow32, Int32.ofInt_mul]
theorem es_neg32 (x : Int) : Int32.ofInt (w32 (- x)) = - Int32.ofInt x := by rw [es_ow32, Int32.ofInt_neg]
theorem es_lt32 {x y : Int} (hx : es_r32 x) (hy : es_r32 y) : Int32.ofInt x < Int32.ofInt y ↔ x < y := by rw [Int32.lt_iff_toInt_lt, es_t32 hx, es_t32 hy]
theorem es_le32 {x y : Int} (hx : es_r32 x) (hy : es_r32 y) : Int32.ofInt x ≤ Int32.ofInt y ↔ x ≤ y := by rw [Int32.le_iff_toInt_le, es_t32 hx, es_t32 hy]
theorem es_eq32 {x y : Int} (hx : es_r32 x) (hy : es_r32 y) : Int32.ofInt x = Int32.ofInt y ↔ x = y := by rw [← Int32.toInt_inj, es_t32 hx, es_t32 hy]
theorem es_r0 : es_r32 0 := ⟨by decide, by decide⟩
theorem es_ofn {n : Nat} : Int32.ofInt (n : Int) = Int32.ofNat n := rfl
theorem es_clm {j : Int} (h : es_r32 j) (h0 : 0 ≤ j) : ((Int32.ofInt j).toNatClampNeg : Int) = j := by
  have := es_t32 h
  show (((Int32.ofInt j).toInt.toNat : Nat) : Int) = j
  rw [this]
  omega
theorem es_cl' {j : Int} (h : es_r32 j) : (Int32.ofInt j).toNatClampNeg = j.toNat := by
  have := es_t32 h
  show ((Int32.ofInt j).toInt.toNat : Nat) = j.toNat
  rw [this]
theorem es_in {j n : Int} (h : es_r32 j) (h0 : 0 ≤ j) (h1 : j < n) : vp_in (Int32.ofInt j) n.toNat := by
  unfold vp_in
  rw [es_cl' h]
  intro q
  rcases q with q | q
  · rw [show (0 : Int32) = Int32.ofInt 0 from rfl, es_lt32 h es_r0] at q
    omega
  · omega
theorem es_b8 {v : Int} (h : -128 ≤ v ∧ v ≤ 127) : (Int8.ofInt v).toInt32 = Int32.ofInt v := by
  apply Int32.toInt_inj.mp
  rw [Int8.toInt_toInt32, es_t32 ⟨by omega, by omega⟩, Int8.toInt_ofInt]
  simp only [Int.bmod, Int32.size, Int64.size, Int16.size, Int8.size]
  split <;> omega
theorem es_b16 {v : Int} (h : -32768 ≤ v ∧ v ≤ 32767) : (Int16.ofInt v).toInt32 = Int32.ofInt v := by
  apply Int32.toInt_inj.mp
  rw [Int16.toInt_toInt32, es_t32 ⟨by omega, by omega⟩, Int16.toInt_ofInt]
  simp only [Int.bmod, Int32.size, Int64.size, Int16.size, Int8.size]
  split <;> omega
theorem es_i2l {x : Int} (h : es_r32 x) : (Int32.ofInt x).toInt64 = Int64.ofInt x := by
  apply Int64.toInt_inj.mp
  rw [Int32.toInt_toInt64, es_t32 h, es_t64 ⟨by have := h.1; omega, by have := h.2; omega⟩]
theorem es_cmp64 {x y : Int} (hx : es_r64 x) (hy : es_r64 y) : lg_cmp (Int64.ofInt x) (Int64.ofInt y) = Int32.ofInt (es_lcmp x y) := by
  unfold lg_cmp es_lcmp
  have h1 : (Int64.ofInt x > Int64.ofInt y) ↔ y < x := by rw [gt_iff_lt, Int64.lt_iff_toInt_lt, es_t64 hx, es_t64 hy]
  have h2 : (Int64.ofInt x = Int64.ofInt y) ↔ x = y := by rw [← Int64.toInt_inj, es_t64 hx, es_t64 hy]
  simp only [h1, h2]
  split
  · rfl
  · split <;> rfl
theorem es_rlcmp (x y : Int) : es_r32 (es_lcmp x y) := by unfold es_lcmp es_r32; split; decide; split <;> decide
theorem es_z32 {x : Int} (h : es_r32 x) : Int32.ofInt x = 0 ↔ x = 0 := by rw [show (0 : Int32) = Int32.ofInt 0 from rfl, es_eq32 h es_r0]
theorem es_min32 {x y : Int} (hx : es_r32 x) (hy : es_r32 y) : (if Int32.ofInt y < Int32.ofInt x then Int32.ofInt y else Int32.ofInt x) = Int32.ofInt (min x y) := by
  rw [Int.min_def]
  by_cases h : y < x
  · rw [if_pos ((es_lt32 hy hx).mpr h), if_neg (by omega)]
  · rw [if_neg (fun q => h ((es_lt32 hy hx).mp q)), if_pos (by omega)]
theorem es_max32 {x y : Int} (hx : es_r32 x) (hy : es_r32 y) : (if Int32.ofInt x < Int32.ofInt y then Int32.ofInt y else Int32.ofInt x) = Int32.ofInt (max x y) := by
  rw [Int.max_def]
  by_cases h : x < y
  · rw [if_pos ((es_lt32 hx hy).mpr h), if_pos (by omega)]
  · rw [if_neg (fun q => h ((es_lt32 hx hy).mp q))]
    by_cases h2 : x ≤ y
    · rw [if_pos h2, show x = y by omega]
    · rw [if_neg h2]
theorem es_rmin {x y : Int} (hx : es_r32 x) (hy : es_r32 y) : es_r32 (min x y) := by unfold es_r32 at *; omega
theorem es_rmax {x y : Int} (hx : es_r32 x) (hy : es_r32 y) : es_r32 (max x y) := by unfold es_r32 at *; omega
theorem es_rand (x y : Int) : es_r32 (es_and x y) := es_rt32 _
theorem es_ror (x y : Int) : es_r32 (es_or x y) := es_rt32 _
theorem es_rxor (x y : Int) : es_r32 (es_xor x y) := es_rt32 _
theorem es_rshl (x y : Int) : es_r32 (es_shl x y) := es_rt32 _
theorem es_rshr (x y : Int) : es_r32 (es_shr x y) := es_rt32 _
theorem es_rushr (x y : Int) : es_r32 (es_ushr x y) := es_rt32 _
theorem es_rdiv (x y : Int) : es_r32 (es_div x y) := es_rt32 _
theorem es_rrem (x y : Int) : es_r32 (es_rem x y) := es_rt32 _
