/-! PAIRS OF CALLS: floor, pair. The least bit of a number; pairs of corners -/
def ntR : Nat → Nat → Nat
  | 0, _ => 0
  | f + 1, x => if x % 2 = 1 then 0 else ntR f (x / 2) + 1
def ntzN (x : Nat) : Nat := ntR 12 x
theorem ntR_sp : ∀ (f x : Nat), 0 < x → x < 2 ^ f → ntR f x < f ∧ x.testBit (ntR f x) = true ∧ es_dif (x - 1) x = 2 ^ ntR f x - 1
  | 0, x, h0, h1 => by simp at h1; omega
  | f + 1, x, h0, h1 => by
    show (if x % 2 = 1 then 0 else ntR f (x / 2) + 1) < f + 1 ∧ x.testBit (if x % 2 = 1 then 0 else ntR f (x / 2) + 1) = true ∧ es_dif (x - 1) x = 2 ^ (if x % 2 = 1 then 0 else ntR f (x / 2) + 1) - 1
    by_cases q : x % 2 = 1
    · rw [if_pos q]
      refine ⟨by omega, ?_, ?_⟩
      · rw [Nat.testBit_zero]; exact decide_eq_true q
      · apply Nat.eq_of_testBit_eq
        intro i
        rw [es_dif_bit, Nat.pow_zero, Nat.sub_self, Nat.zero_testBit]
        cases i with
        | zero =>
          rw [Nat.testBit_zero, Nat.testBit_zero]
          have : (x - 1) % 2 = 0 := by omega
          simp [this]
        | succ i =>
          rw [Nat.testBit_succ, Nat.testBit_succ, show (x - 1) / 2 = x / 2 by omega]
          cases (x / 2).testBit i <;> rfl
    · rw [if_neg q]
      have hp : x / 2 < 2 ^ f := by rw [Nat.pow_succ] at h1; omega
      obtain ⟨i1, i2, i3⟩ := ntR_sp f (x / 2) (by omega) hp
      refine ⟨by omega, by rw [Nat.testBit_succ]; exact i2, ?_⟩
      apply Nat.eq_of_testBit_eq
      intro i
      rw [es_dif_bit, Nat.testBit_two_pow_sub_one]
      cases i with
      | zero =>
        rw [Nat.testBit_zero, Nat.testBit_zero]
        have h1 : (x - 1) % 2 = 1 := by omega
        have h2 : x % 2 = 0 := by omega
        simp [h1, h2]
      | succ i =>
        rw [Nat.testBit_succ, Nat.testBit_succ, show (x - 1) / 2 = x / 2 - 1 by omega]
        have := congrArg (fun z => Nat.testBit z i) i3
        simp only [es_dif_bit, Nat.testBit_two_pow_sub_one] at this
        rw [this]
        simp
theorem ntz_sp {x : Nat} (h0 : 0 < x) (h1 : x < 4096) : ntzN x < 12 ∧ x.testBit (ntzN x) = true ∧ es_dif (x - 1) x = 2 ^ ntzN x - 1 := ntR_sp 12 x h0 h1
theorem s_ntz {d : Nat} {Q : Int → es_M → Prop} {M : es_M} {x : Int} (h0 : 0 < x) (h1 : x < 4096) (h : Q (ntzN x.toNat : Nat) M) : es_Call (d + 1) 289 [.inl x] M Q := by
  obtain ⟨X, rfl⟩ := Int.eq_ofNat_of_zero_le (Int.le_of_lt h0)
  obtain ⟨a, -, b⟩ := ntz_sp (x := X) (by omega) (by omega)
  apply c_Integer_numberOfTrailingZeros
  rw [Int.toNat_natCast] at h
  have e : es_and (es_xor (X : Int) (-1)) (w32 ((X : Int) - 1)) = ((2 ^ ntzN X - 1 : Nat) : Int) := by
    rw [w32_m (by omega) (by omega), show (X : Int) - 1 = ((X - 1 : Nat) : Int) by omega]
    have : es_and (es_xor (X : Int) (-1)) ((X - 1 : Nat) : Int) = es_and ((X - 1 : Nat) : Int) (es_xor (X : Int) (-1)) := by unfold es_and; rw [Int32.and_comm]
    rw [this, eb_dif (by omega) (by omega), b]
  rw [e]
  clear e b
  generalize ntzN X = t at *
  have u1 : es_ushr 1 1 = 0 := by decide
  have u2 : es_ushr 3 1 = 1 := by decide
  have u3 : es_ushr 7 2 = 1 := by decide
  have u4 : es_ushr 15 2 = 3 := by decide
  have u5 : es_ushr 31 4 = 1 := by decide
  have u6 : es_ushr 63 4 = 3 := by decide
  have u7 : es_ushr 127 4 = 7 := by decide
  have u8 : es_ushr 255 4 = 15 := by decide
  have u9 : es_ushr 511 8 = 1 := by decide
  have u10 : es_ushr 1023 8 = 3 := by decide
  have u11 : es_ushr 2047 8 = 7 := by decide
  have a0 : es_and 0 32 = 0 := by decide
  rcases (show t = 0 ∨ t = 1 ∨ t = 2 ∨ t = 3 ∨ t = 4 ∨ t = 5 ∨ t = 6 ∨ t = 7 ∨ t = 8 ∨ t = 9 ∨ t = 10 ∨ t = 11 by omega) with rfl | rfl | rfl | rfl | rfl | rfl | rfl | rfl | rfl | rfl | rfl | rfl <;> simp [u1, u2, u3, u4, u5, u6, u7, u8, u9, u10, u11, a0, w32] at h ⊢ <;> exact h
/-- a set without its least corner and another one -/
def lfN (s b : Nat) : Nat := es_dif (es_dif s (2 ^ ntzN s)) (2 ^ b)
theorem lfN_bit (s b i : Nat) : (lfN s b).testBit i = (s.testBit i && !decide (ntzN s = i) && !decide (b = i)) := by
  unfold lfN
  rw [es_dif_bit, es_dif_bit, Nat.testBit_two_pow, Nat.testBit_two_pow]
theorem pcN_clear (s a : Nat) (h : s.testBit a = true) : ∀ m, pcN m (es_dif s (2 ^ a)) + (if a < m then 1 else 0) = pcN m s := by
  intro m
  induction m with
  | zero => rfl
  | succ m ih =>
    show pcN m (es_dif s (2 ^ a)) + (if (es_dif s (2 ^ a)).testBit m then 1 else 0) + (if a < m + 1 then 1 else 0) = pcN m s + (if s.testBit m then 1 else 0)
    rw [es_dif_bit, Nat.testBit_two_pow]
    by_cases e : a = m
    · subst e
      rw [if_neg (Nat.lt_irrefl a)] at ih
      simp [h]
      omega
    · by_cases q : s.testBit m = true
      · rw [q]; simp [e]
        by_cases lt : a < m
        · rw [if_pos lt] at ih; rw [if_pos (by omega)]; omega
        · rw [if_neg lt] at ih; rw [if_neg (by omega)]; omega
      · rw [Bool.not_eq_true] at q
        rw [q]; simp
        by_cases lt : a < m
        · rw [if_pos lt] at ih; rw [if_pos (by omega)]; omega
        · rw [if_neg lt] at ih; rw [if_neg (by omega)]; omega
theorem lfN_pc {s b : Nat} (h0 : 0 < s) (h1 : s < 4096) (hb : ntzN s < b) (hb2 : b < 12) (ht : s.testBit b = true) : pcN 18 (lfN s b) + 2 = pcN 18 s ∧ lfN s b < s := by
  obtain ⟨a1, a2, -⟩ := ntz_sp h0 h1
  have e1 := pcN_clear s (ntzN s) a2 18
  have e2 := pcN_clear (es_dif s (2 ^ ntzN s)) b (by rw [es_dif_bit, ht, Nat.testBit_two_pow]; simp; omega) 18
  rw [if_pos (by omega)] at e1 e2
  refine ⟨by unfold lfN; omega, ?_⟩
  have le : lfN s b ≤ s := by
    have : lfN s b = lfN s b &&& s := by
      apply Nat.eq_of_testBit_eq
      intro i
      rw [Nat.testBit_and, lfN_bit]
      cases s.testBit i <;> simp
    rw [this]; exact Nat.and_le_right
  have ne : lfN s b ≠ s := by
    intro z
    have := lfN_bit s b (ntzN s)
    rw [z, a2] at this
    simp at this
  omega
def pmF (f : Int → Int) (g : Nat → Int) (s : Nat) : Nat → Int
  | 0 => 1000000
  | r + 1 => if ntzN s < r ∧ s.testBit r = true then min (pmF f g s r) (f ((ntzN s * 12 + r : Nat) : Int) + g (lfN s r)) else pmF f g s r
def pdN (f : Int → Int) : Nat → Nat → Int
  | 0, _ => 0
  | n + 1, s => if s = 0 then 0 else pmF f (pdN f n) s 12
theorem pmF_congr {f : Int → Int} {g g' : Nat → Int} {s : Nat} : ∀ r, (∀ b, b < r → ntzN s < b → s.testBit b = true → g (lfN s b) = g' (lfN s b)) → pmF f g s r = pmF f g' s r := by
  intro r
  induction r with
  | zero => intro _; rfl
  | succ r ih =>
    intro h
    show (if ntzN s < r ∧ s.testBit r = true then min (pmF f g s r) (f ((ntzN s * 12 + r : Nat) : Int) + g (lfN s r)) else pmF f g s r) = if ntzN s < r ∧ s.testBit r = true then min (pmF f g' s r) (f ((ntzN s * 12 + r : Nat) : Int) + g' (lfN s r)) else pmF f g' s r
    rw [ih fun b hb => h b (by omega)]
    by_cases q : ntzN s < r ∧ s.testBit r = true
    · rw [if_pos q, if_pos q, h r (by omega) q.1 q.2]
    · rw [if_neg q, if_neg q]
theorem pdN_st (f : Int → Int) : ∀ (n m s : Nat), s < 4096 → pcN 18 s < n → pcN 18 s < m → pdN f n s = pdN f m s
  | 0, _, s, _, h, _ => by omega
  | _, 0, s, _, _, h => by omega
  | n + 1, m + 1, s, hs, hn, hm => by
    show (if s = 0 then 0 else pmF f (pdN f n) s 12) = if s = 0 then 0 else pmF f (pdN f m) s 12
    by_cases q : s = 0
    · rw [if_pos q, if_pos q]
    · rw [if_neg q, if_neg q]
      refine pmF_congr 12 fun b hb h1 h2 => ?_
      obtain ⟨e1, e2⟩ := lfN_pc (by omega) hs h1 hb h2
      exact pdN_st f n m (lfN s b) (by omega) (by omega) (by omega)
/-- the least sum of pairs -/
def pdF (f : Int → Int) (s : Nat) : Int := pdN f 19 s
theorem pdF_eq (f : Int → Int) {s : Nat} (hs : s < 4096) : pdF f s = if s = 0 then 0 else pmF f (pdF f) s 12 := by
  unfold pdF
  show (if s = 0 then 0 else pmF f (pdN f 18) s 12) = if s = 0 then 0 else pmF f (pdN f 19) s 12
  by_cases q : s = 0
  · rw [if_pos q, if_pos q]
  · rw [if_neg q, if_neg q]
    refine pmF_congr 12 fun b hb h1 h2 => ?_
    obtain ⟨e1, e2⟩ := lfN_pc (by omega) hs h1 hb h2
    have := pcN_le 18 s
    exact pdN_st f 18 19 (lfN s b) (by omega) (by omega) (by omega)
theorem pmF_r {f : Int → Int} {g : Nat → Int} {s : Nat} (hf : ∀ j, 0 ≤ j → j < 144 → 0 ≤ f j ∧ f j ≤ 1000000) (hs : ntzN s < 12) : ∀ r, r ≤ 12 → (∀ b, b < r → ntzN s < b → s.testBit b = true → 0 ≤ g (lfN s b)) → 0 ≤ pmF f g s r ∧ pmF f g s r ≤ 1000000 := by
  intro r
  induction r with
  | zero => intro _ _; show (0 : Int) ≤ 1000000 ∧ (1000000 : Int) ≤ 1000000; decide
  | succ r ih =>
    intro hr h
    have i1 := ih (by omega) fun b hb => h b (by omega)
    have i2 := hf ((ntzN s * 12 + r : Nat) : Int) (by omega) (by omega)
    show 0 ≤ (if ntzN s < r ∧ s.testBit r = true then min (pmF f g s r) (f ((ntzN s * 12 + r : Nat) : Int) + g (lfN s r)) else pmF f g s r) ∧ (if ntzN s < r ∧ s.testBit r = true then min (pmF f g s r) (f ((ntzN s * 12 + r : Nat) : Int) + g (lfN s r)) else pmF f g s r) ≤ 1000000
    by_cases q : ntzN s < r ∧ s.testBit r = true
    · rw [if_pos q]
      have := h r (by omega) q.1 q.2
      omega
    · rw [if_neg q]; exact i1
theorem pdN_r {f : Int → Int} (hf : ∀ j, 0 ≤ j → j < 144 → 0 ≤ f j ∧ f j ≤ 1000000) : ∀ (n s : Nat), s < 4096 → 0 ≤ pdN f n s ∧ pdN f n s ≤ 1000000
  | 0, s, _ => ⟨Int.le_refl _, by show (0 : Int) ≤ 1000000; decide⟩
  | n + 1, s, hs => by
    show 0 ≤ (if s = 0 then 0 else pmF f (pdN f n) s 12) ∧ (if s = 0 then 0 else pmF f (pdN f n) s 12) ≤ 1000000
    by_cases q : s = 0
    · rw [if_pos q]; decide
    · rw [if_neg q]
      refine pmF_r hf (ntz_sp (by omega) hs).1 12 (Nat.le_refl _) fun b hb h1 h2 => ?_
      have := (lfN_pc (by omega) hs h1 hb h2).2
      exact (pdN_r hf n _ (by omega)).1
theorem pdF_r {T : es_M} (hT : TI T) {s : Nat} (hs : s < 4096) : 0 ≤ pdF (farF T) s ∧ pdF (farF T) s ≤ 1000000 := pdN_r (fun _ => farF_r hT) 19 s hs
