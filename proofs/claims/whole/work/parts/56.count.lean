/-! HOW MANY BITS: Integer.bitCount below 2 ^ 18 -/
theorem eb_us : ∀ n, n < 32 → ((nI n).toUInt32 &&& Int32.toUInt32 31).toNat = n := by decide +kernel
theorem eb_ushr {a k : Nat} (ha : a < 2147483648) (hk : k < 32) : es_ushr (a : Int) (k : Int) = ((a / 2 ^ k : Nat) : Int) := by
  unfold es_ushr
  rw [eb_of, eb_of]
  have hu := eb_us k hk
  have e : ((nI a).toUInt32 >>> ((nI k).toUInt32 &&& Int32.toUInt32 31)).toInt32 = nI (a / 2 ^ k) := by
    have e2 : ((nI a).toUInt32 >>> ((nI k).toUInt32 &&& Int32.toUInt32 31)).toNat = a / 2 ^ k := by
      rw [UInt32.toNat_shiftRight, hu, Nat.mod_eq_of_lt hk, Nat.shiftRight_eq_div_pow]
      have : (nI a).toUInt32.toNat = a := by
        show (BitVec.ofNat 32 a).toNat = a
        rw [BitVec.toNat_ofNat]; omega
      rw [this]
    apply Int32.toBitVec_inj.1
    apply BitVec.eq_of_toNat_eq
    show ((nI a).toUInt32 >>> ((nI k).toUInt32 &&& Int32.toUInt32 31)).toNat = (BitVec.ofNat 32 (a / 2 ^ k)).toNat
    rw [e2, BitVec.toNat_ofNat, Nat.mod_eq_of_lt (Nat.lt_of_le_of_lt (Nat.div_le_self _ _) (by omega))]
  rw [e, nI_toInt (Nat.lt_of_le_of_lt (Nat.div_le_self _ _) ha)]
def bx1 (m a : Nat) : Nat := a - ((a / 2) &&& m)
def bx2 (m a : Nat) : Nat := (a &&& m) + ((a / 4) &&& m)
def bx3 (m a : Nat) : Nat := (a + a / 16) &&& m
def pcN : Nat → Nat → Nat
  | 0, _ => 0
  | k + 1, n => pcN k n + if n.testBit k then 1 else 0
theorem and_split {h l m k : Nat} (hl : l < 256) (hk : k < 256) : (256 * h + l) &&& (256 * m + k) = 256 * (h &&& m) + (l &&& k) := by
  have e1 := Nat.and_div_two_pow (a := 256 * h + l) (b := 256 * m + k) (n := 8)
  have e2 := Nat.and_mod_two_pow (a := 256 * h + l) (b := 256 * m + k) (n := 8)
  rw [show (256 * h + l) / 2 ^ 8 = h by omega, show (256 * m + k) / 2 ^ 8 = m by omega] at e1
  rw [show (256 * h + l) % 2 ^ 8 = l by omega, show (256 * m + k) % 2 ^ 8 = k by omega] at e2
  have e3 := Nat.div_add_mod ((256 * h + l) &&& (256 * m + k)) (2 ^ 8)
  rw [e1, e2] at e3
  omega
theorem bh_l : ∀ l, l < 256 → bx1 0x55 l < 256 ∧ bx2 0x33 (bx1 0x55 l) ≤ 102 ∧ bx3 0x0f (bx2 0x33 (bx1 0x55 l)) = pcN 8 l := by decide +kernel
theorem bh_h : ∀ h, h < 1024 → bx2 0x333333 (bx1 0x555555 h) % 16 ≤ 4 ∧ bx3 0x0f0f0f (bx2 0x333333 (bx1 0x555555 h)) % 256 + bx3 0x0f0f0f (bx2 0x333333 (bx1 0x555555 h)) / 256 = pcN 10 h ∧ bx3 0x0f0f0f (bx2 0x333333 (bx1 0x555555 h)) / 256 ≤ 2 ∧ bx3 0x0f0f0f (bx2 0x333333 (bx1 0x555555 h)) % 256 ≤ 8 := by decide +kernel
theorem bh_1 : ∀ l, l < 256 → (128 + l / 2) &&& 0x55 = (l / 2) &&& 0x55 := by decide +kernel
theorem bh_2 : ∀ c, c < 4 → ∀ l, l < 256 → (c * 64 + l / 4) &&& 0x33 = (l / 4) &&& 0x33 := by decide +kernel
theorem bx1_s {h l : Nat} (hl : l < 256) : bx1 0x55555555 (256 * h + l) = 256 * bx1 0x555555 h + bx1 0x55 l := by
  unfold bx1
  have e : ((256 * h + l) / 2) = 256 * (h / 2) + ((h % 2) * 128 + l / 2) := by omega
  rw [e, show (0x55555555 : Nat) = 256 * 0x555555 + 0x55 from rfl, and_split (by omega) (by decide)]
  have e2 : ((h % 2) * 128 + l / 2) &&& 0x55 = (l / 2) &&& 0x55 := by
    rcases (show h % 2 = 0 ∨ h % 2 = 1 by omega) with q | q
    · rw [q, Nat.zero_mul, Nat.zero_add]
    · rw [q, Nat.one_mul]; exact bh_1 l hl
  rw [e2]
  have l1 : (h / 2) &&& 0x555555 ≤ h / 2 := Nat.and_le_left
  have l2 : (l / 2) &&& 0x55 ≤ l / 2 := Nat.and_le_left
  omega
theorem bx2_s {h l : Nat} (hl : l < 256) : bx2 0x33333333 (256 * h + l) = 256 * bx2 0x333333 h + bx2 0x33 l := by
  unfold bx2
  have e : ((256 * h + l) / 4) = 256 * (h / 4) + ((h % 4) * 64 + l / 4) := by omega
  rw [e, show (0x33333333 : Nat) = 256 * 0x333333 + 0x33 from rfl, and_split (by omega) (by decide), and_split (by omega) (by decide), bh_2 (h % 4) (by omega) l hl]
  omega
theorem bx3_s {h l : Nat} (hl : l ≤ 102) (hh : h % 16 ≤ 4) : bx3 0x0f0f0f0f (256 * h + l) = 256 * bx3 0x0f0f0f h + bx3 0x0f l := by
  unfold bx3
  have e : 256 * h + l + (256 * h + l) / 16 = 256 * (h + h / 16) + ((h % 16) * 16 + (l + l / 16)) := by omega
  rw [e, show (0x0f0f0f0f : Nat) = 256 * 0x0f0f0f + 0x0f from rfl, and_split (by omega) (by decide)]
  have z : ∀ x : Nat, x &&& 0x0f = x % 16 := fun x => Nat.and_two_pow_sub_one_eq_mod x 4
  rw [z, z]
  omega
theorem pcN_s {h l : Nat} (hl : l < 256) : pcN 18 (256 * h + l) = pcN 8 l + pcN 10 h := by
  have e : ∀ j, (256 * h + l).testBit j = if j < 8 then l.testBit j else h.testBit (j - 8) := fun j => Nat.testBit_two_pow_mul_add (i := 8) h hl j
  simp only [pcN, e]
  simp
  omega
def bcN (a : Nat) : Nat := (bx3 0x0f0f0f0f (bx2 0x33333333 (bx1 0x55555555 a)) + bx3 0x0f0f0f0f (bx2 0x33333333 (bx1 0x55555555 a)) / 256 + (bx3 0x0f0f0f0f (bx2 0x33333333 (bx1 0x55555555 a)) + bx3 0x0f0f0f0f (bx2 0x33333333 (bx1 0x55555555 a)) / 256) / 65536) &&& 63
theorem bcN_eq {a : Nat} (ha : a < 262144) : bcN a = pcN 18 a := by
  have hl : a % 256 < 256 := by omega
  have hh : a / 256 < 1024 := by omega
  obtain ⟨l1, l2, l3⟩ := bh_l (a % 256) hl
  obtain ⟨h1, h2, h3, h4⟩ := bh_h (a / 256) hh
  have e : a = 256 * (a / 256) + a % 256 := by omega
  have eb : bx3 0x0f0f0f0f (bx2 0x33333333 (bx1 0x55555555 a)) = 256 * bx3 0x0f0f0f (bx2 0x333333 (bx1 0x555555 (a / 256))) + pcN 8 (a % 256) := by
    conv => lhs; rw [e]
    rw [bx1_s hl, bx2_s l1, bx3_s l2 h1, l3]
  have ep : pcN 18 a = pcN 8 (a % 256) + pcN 10 (a / 256) := by conv => lhs; rw [e, pcN_s hl]
  have p8 : pcN 8 (a % 256) ≤ 8 := by
    simp only [pcN]
    repeat' split
    all_goals omega
  unfold bcN
  rw [eb, ep]
  have z : ∀ x : Nat, x &&& 63 = x % 64 := fun x => Nat.and_two_pow_sub_one_eq_mod x 6
  rw [z]
  generalize bx3 0x0f0f0f (bx2 0x333333 (bx1 0x555555 (a / 256))) = x at *
  generalize pcN 8 (a % 256) = p at *
  clear eb ep l1 l2 l3 h1
  rw [← h2]
  obtain ⟨v, u, e, hu⟩ : ∃ v u, x = 256 * v + u ∧ u < 256 := ⟨x / 256, x % 256, by omega, by omega⟩
  subst e
  rw [show (256 * v + u) / 256 = v by omega] at h3 ⊢
  rw [show (256 * v + u) % 256 = u by omega] at h4 ⊢
  rw [show (256 * (256 * v + u) + p) / 256 = 256 * v + u by omega, show (256 * (256 * v + u) + p + (256 * v + u)) / 65536 = v by omega]
  omega
theorem s_bitCount {d : Nat} {Q : Int → es_M → Prop} {M : es_M} {a : Int} (a0 : 0 ≤ a) (a1 : a < 262144) (h : Q (pcN 18 a.toNat : Nat) M) : es_Call (d + 1) 288 [.inl a] M Q := by
  obtain ⟨x, rfl⟩ := Int.eq_ofNat_of_zero_le a0
  apply c_Integer_bitCount
  have hx : x < 262144 := by omega
  rw [Int.toNat_natCast, ← bcN_eq hx] at h
  have w : ∀ n : Nat, n < 2147483648 → w32 (n : Int) = n := fun n hn => by unfold w32; omega
  have e1 : w32 ((x : Int) - es_and (es_ushr (x : Int) 1) 1431655765) = (bx1 0x55555555 x : Nat) := by
    rw [show (1 : Int) = ((1 : Nat) : Int) from rfl, eb_ushr (by omega) (by decide), show (1431655765 : Int) = ((1431655765 : Nat) : Int) from rfl, eb_and' (by decide)]
    have l1 : (x / 2 ^ 1) &&& 0x55555555 ≤ x / 2 ^ 1 := Nat.and_le_left
    unfold bx1 w32
    rw [Nat.pow_one] at l1 ⊢
    omega
  have b1 : bx1 0x55555555 x < 262144 := by unfold bx1; omega
  rw [e1]
  unfold bcN at h
  generalize bx1 0x55555555 x = x1 at *
  have e2 : w32 (es_and (x1 : Int) 858993459 + es_and (es_ushr (x1 : Int) 2) 858993459) = (bx2 0x33333333 x1 : Nat) := by
    rw [show (2 : Int) = ((2 : Nat) : Int) from rfl, eb_ushr (by omega) (by decide), show (858993459 : Int) = ((858993459 : Nat) : Int) from rfl, eb_and' (by decide), eb_and' (by decide)]
    have l1 : (x1 / 2 ^ 2) &&& 0x33333333 ≤ x1 / 2 ^ 2 := Nat.and_le_left
    have l2 : x1 &&& 0x33333333 ≤ x1 := Nat.and_le_left
    unfold bx2 w32
    rw [show (2 : Nat) ^ 2 = 4 from rfl] at l1 ⊢
    omega
  have b2 : bx2 0x33333333 x1 < 524288 := by
    have l1 : (x1 / 4) &&& 0x33333333 ≤ x1 / 4 := Nat.and_le_left
    have l2 : x1 &&& 0x33333333 ≤ x1 := Nat.and_le_left
    unfold bx2; omega
  rw [e2]
  generalize bx2 0x33333333 x1 = x2 at *
  have e3 : es_and (w32 ((x2 : Int) + es_ushr (x2 : Int) 4)) 252645135 = (bx3 0x0f0f0f0f x2 : Nat) := by
    rw [show (4 : Int) = ((4 : Nat) : Int) from rfl, eb_ushr (by omega) (by decide), show (252645135 : Int) = ((252645135 : Nat) : Int) from rfl, show w32 ((x2 : Int) + ((x2 / 2 ^ 4 : Nat) : Int)) = ((x2 + x2 / 16 : Nat) : Int) from by rw [show (2 : Nat) ^ 4 = 16 from rfl]; unfold w32; omega, eb_and' (by decide)]
    rfl
  have b3 : bx3 0x0f0f0f0f x2 < 1048576 := by
    have l1 : (x2 + x2 / 16) &&& 0x0f0f0f0f ≤ x2 + x2 / 16 := Nat.and_le_left
    unfold bx3; omega
  rw [e3]
  generalize bx3 0x0f0f0f0f x2 = x3 at *
  have e4 : w32 ((x3 : Int) + es_ushr (x3 : Int) 8) = (x3 + x3 / 256 : Nat) := by
    rw [show (8 : Int) = ((8 : Nat) : Int) from rfl, eb_ushr (by omega) (by decide), show (2 : Nat) ^ 8 = 256 from rfl]
    unfold w32; omega
  rw [e4]
  have e5 : w32 (((x3 + x3 / 256 : Nat) : Int) + es_ushr ((x3 + x3 / 256 : Nat) : Int) 16) = (x3 + x3 / 256 + (x3 + x3 / 256) / 65536 : Nat) := by
    rw [show (16 : Int) = ((16 : Nat) : Int) from rfl, eb_ushr (by omega) (by decide), show (2 : Nat) ^ 16 = 65536 from rfl]
    unfold w32; omega
  rw [e5, show (63 : Int) = ((63 : Nat) : Int) from rfl, eb_and' (by decide)]
  exact h
