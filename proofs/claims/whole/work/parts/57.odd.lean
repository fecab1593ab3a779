/-! PAIRS OF CALLS: count, cut, worth -/
theorem es_up {P : Int → Prop} {n : Int} (hn : 0 ≤ n) (last : P n) (step : ∀ k, 0 ≤ k → k < n → P (k + 1) → P k) : P 0 := by
  have key : ∀ r : Nat, (r : Int) ≤ n → P (n - r) := by
    intro r
    induction r with
    | zero => intro _; rw [show n - ((0 : Nat) : Int) = n by omega]; exact last
    | succ r ih =>
      intro hr
      refine step _ (by omega) (by omega) ?_
      rw [show n - ((r + 1 : Nat) : Int) + 1 = n - (r : Int) by omega]
      exact ih (by omega)
  have := key n.toNat (by omega)
  rw [show n - (n.toNat : Int) = 0 by omega] at this
  exact this
theorem w32_1 {k : Int} (h0 : -1000000 ≤ k) (h1 : k < 1000000000) : w32 (k + 1) = k + 1 := by unfold w32; omega
theorem w32_s {k : Int} (h0 : -2147483648 ≤ k) (h1 : k < 2147483648) : w32 k = k := by unfold w32; omega
theorem toN1 {k : Int} (h0 : 0 ≤ k) : (k + 1).toNat = k.toNat + 1 := by omega
theorem toNI {k : Int} (h0 : 0 ≤ k) : ((k.toNat : Nat) : Int) = k := by omega
theorem xor_lt4096 {a b : Nat} (ha : a < 4096) (hb : b < 4096) : a ^^^ b < 4096 := Nat.xor_lt_two_pow (n := 12) ha hb
theorem pow4096 {v : Int} (h : v < 12) : 2 ^ v.toNat < 4096 := Nat.pow_lt_pow_right (n := 12) (by decide) (by omega)
theorem TI.oddr {T : es_M} (h : TI T) : ∀ k : Nat, (k : Int) ≤ T 1 1 → oddN T k < 4096 := by
  intro k
  induction k with
  | zero => intro _; show 0 < 4096; omega
  | succ k ih =>
    intro hk
    obtain ⟨s0, s1⟩ := (h.sr (v := k) (by omega) (by omega)).1
    obtain ⟨a1, a2, -⟩ := h.st s0 s1
    exact xor_lt4096 (xor_lt4096 (ih (by omega)) (pow4096 a1.2)) (pow4096 a2.2)
theorem TI.or4 {T : es_M} (h : TI T) : 0 ≤ T 1 3 ∧ T 1 3 < 4096 := by
  have hv := h.v
  have := h.oddr (T 1 1).toNat (by omega)
  have := h.od
  omega
theorem and4 {a b : Int} (a0 : 0 ≤ a) (b0 : 0 ≤ b) (b1 : b < 4096) : es_and a b = ((a.toNat &&& b.toNat : Nat) : Int) ∧ ((a.toNat &&& b.toNat : Nat) : Int) < 4096 := by
  obtain ⟨x, rfl⟩ := Int.eq_ofNat_of_zero_le a0
  obtain ⟨y, rfl⟩ := Int.eq_ofNat_of_zero_le b0
  refine ⟨eb_and' (by omega), ?_⟩
  have : x &&& y ≤ y := Nat.and_le_right
  simp only [Int.toNat_natCast]
  omega
theorem pcN_le (m x : Nat) : pcN m x ≤ m := by
  induction m with
  | zero => exact Nat.le_refl _
  | succ m ih => show pcN m x + (if x.testBit m then 1 else 0) ≤ m + 1; split <;> omega
/-- an odd number of the bits of b are odd corners -/
abbrev oddF (T : es_M) (b : Int) : Prop := pcN 18 (b.toNat &&& (T 1 3).toNat) % 2 = 1
section
variable {d : Nat} {Q : Int → es_M → Prop} {T M : es_M}
theorem s_m_odd (hT : TI T) (hR : RepM T M) (h : Q (T 1 3) M) : es_Call (d + 1) 204 [.inr (.inr 91)] M Q := by
  apply m_Model_odd
  intro G hG
  apply k_Model_odd_0 hG
  have hv := hT.v
  refine es_up (P := fun k => G 4 [lr 91, li (oddN T k.toNat : Nat), li k] [] M) hv.1 ?_ ?_
  · apply k_Model_odd_4 hG
    rw [hR 91 23 rfl, hv.2.2]
    refine ⟨fun _ => ?_, fun z => absurd (Int.le_refl _) z⟩
    rw [← hT.od]; exact h
  · intro k k0 k1 ih
    obtain ⟨s0, s1⟩ := (hT.sr k0 k1).1
    obtain ⟨a1, a2, -, -, -, a6, a7, -⟩ := hT.st s0 s1
    have hn := hT.n
    apply k_Model_odd_4 hG
    have o := hT.oddr k.toNat (by omega)
    rw [hR 91 23 rfl, hv.2.2, w32_1 (by omega) (by omega), hR 106 _ rfl, (hT.mv k0 k1).1, hR 93 _ rfl, hR 94 _ rfl, a6, a7]
    have e : es_xor (es_xor (oddN T k.toNat : Nat) (es_shl 1 (T 2 (T 10 k)))) (es_shl 1 (T 3 (T 10 k))) = (oddN T (k + 1).toNat : Nat) := by
      have p2 := pow4096 a1.2
      have p3 := pow4096 a2.2
      obtain ⟨x, hx⟩ := Int.eq_ofNat_of_zero_le a1.1
      obtain ⟨y, hy⟩ := Int.eq_ofNat_of_zero_le a2.1
      rw [toN1 k0]
      show _ = (((oddN T k.toNat ^^^ 2 ^ (T 2 (T 10 (k.toNat : Nat))).toNat) ^^^ 2 ^ (T 3 (T 10 (k.toNat : Nat))).toNat : Nat) : Int)
      rw [toNI k0]
      rw [hx] at p2 a1 ⊢
      rw [hy] at p3 a2 ⊢
      simp only [Int.toNat_natCast] at p2 p3 ⊢
      rw [eb_shl (by omega), eb_shl (by omega), eb_xor (by omega) (by omega), eb_xor (Nat.lt_trans (xor_lt4096 o p2) (by decide)) (by omega)]
    rw [e]
    exact ⟨fun z => absurd z (by omega), fun _ => ⟨by omega, by omega, by omega, by omega, ih⟩⟩
theorem s_isOdd (hT : TI T) {b c : Int} (b0 : 0 ≤ b) (hc : c = T 1 3) (h1 : oddF T b → Q 1 M) (h0 : ¬ oddF T b → Q 0 M) : es_Call (d + 2) 15 [.inl (es_and b c)] M Q := by
  apply c_EveryStreet_isOdd
  subst hc
  have ho := hT.or4
  obtain ⟨e, l⟩ := and4 b0 ho.1 ho.2
  rw [e]
  refine s_bitCount (by omega) (by omega) ?_
  rw [Int.toNat_natCast]
  unfold oddF at h1 h0
  generalize b.toNat &&& (T 1 3).toNat = x at *
  have p18 := pcN_le 18 x
  rw [ei_and1 (by omega) (by omega)]
  exact ⟨fun z => ⟨es_b0, h0 (by omega)⟩, fun z => ⟨es_b1, h1 (by omega)⟩⟩
theorem s_m_isOddCut (hT : TI T) (hR : RepM T M) {b : Int} (b0 : 0 ≤ b) (h1 : oddF T b → Q 1 M) (h0 : ¬ oddF T b → Q 0 M) : es_Call (d + 2) 212 [.inr (.inr 91), .inl b] M Q := by
  apply c_Model_isOddCut
  refine s_m_odd hT hR ?_
  have ho := hT.or4
  obtain ⟨e, l⟩ := and4 b0 ho.1 ho.2
  rw [e]
  refine s_bitCount (by omega) (by omega) ?_
  rw [Int.toNat_natCast]
  unfold oddF at h1 h0
  have p18 := pcN_le 18 (b.toNat &&& (T 1 3).toNat)
  generalize b.toNat &&& (T 1 3).toNat = x at *
  rw [ei_rem (by omega) (by omega) (by decide) (by decide)]
  exact ⟨by decide, fun z => ⟨es_b0, h0 (by omega)⟩, fun z => ⟨es_b1, h1 (by omega)⟩⟩
theorem s_m_shutMany (hT : TI T) (hR : RepM T M) (h : Q (pcN 18 (T 14 4).toNat : Nat) M) : es_Call (d + 2) 285 [.inr (.inr 91)] M Q := by
  apply m_Model_shutMany
  intro G hG
  apply k_Model_shutMany_0 hG
  have hn := hT.n
  have hs := hT.sh
  refine es_up (P := fun k => G 4 [lr 91, li (pcN k.toNat (T 14 4).toNat : Nat), li k] [] M) hn.1 ?_ ?_
  · apply k_Model_shutMany_4 hG
    rw [hR 91 3 rfl, hn.2.2]
    refine ⟨fun _ => ?_, fun z => absurd (Int.le_refl _) z⟩
    have key : ∀ r : Nat, (T 1 0).toNat + r ≤ 18 → pcN ((T 1 0).toNat + r) (T 14 4).toNat = pcN (T 1 0).toNat (T 14 4).toNat := by
      intro r
      induction r with
      | zero => intro _; rfl
      | succ r ih =>
        intro hr
        show pcN ((T 1 0).toNat + r) (T 14 4).toNat + _ = _
        rw [ih (by omega), if_neg]
        · rfl
        · intro z
          have := ((hs.2 (((T 1 0).toNat + r : Nat) : Int) (by omega) (by omega)).1 (by unfold ebit; rw [Int.toNat_natCast]; exact z)).2
          omega
    have := key (18 - (T 1 0).toNat) (by omega)
    rw [show (T 1 0).toNat + (18 - (T 1 0).toNat) = 18 by omega] at this
    rw [← this]; exact h
  · intro k k0 k1 ih
    apply k_Model_shutMany_4 hG
    have hs2 := hs.2 k k0 (by omega)
    have pk := pcN_le k.toNat (T 14 4).toNat
    rw [hR 91 3 rfl, hn.2.2, hR 98 _ rfl, w32_1 (by omega) (by omega)]
    rw [toN1 k0, show ((pcN (k.toNat + 1) (T 14 4).toNat : Nat) : Int) = pcN k.toNat (T 14 4).toNat + (if ebit (T 14 4) k then 1 else 0) from by show ((_ + _ : Nat) : Int) = _; split <;> rfl] at ih
    refine ⟨fun z => absurd z (by omega), fun _ => ⟨by omega, ?_⟩⟩
    by_cases q : ebit (T 14 4) k
    · rw [if_pos q] at ih
      rw [(hs2.1 q).1]
      refine s_m_truth (fun _ => ?_) (fun z => absurd z (by decide))
      rw [w32_1 (by omega) (by omega)]; exact ih
    · rw [if_neg q] at ih
      rw [hs2.2 q]
      refine s_m_truth (fun z => absurd rfl z) (fun _ => ?_)
      rw [w32_s (by omega) (by omega)]; exact ih
theorem s_m_turnsTold (hT : TI T) (hR : RepM T M) (h : Q (T 1 2) M) : es_Call (d + 2) 284 [.inr (.inr 91)] M Q := by
  apply m_Model_turnsTold
  intro G hG
  apply k_Model_turnsTold_0 hG
  have tr : ∀ m : Nat, 0 ≤ turnsN T m ∧ turnsN T m ≤ m := by
    intro m
    induction m with
    | zero => exact ⟨Int.le_refl _, Int.le_refl _⟩
    | succ m ih => show 0 ≤ _ + _ ∧ _ + _ ≤ _; split <;> omega
  refine es_up (P := fun k => G 4 [lr 91, li (turnsN T k.toNat), li k] [] M) (n := 1728) (by decide) ?_ ?_
  · apply k_Model_turnsTold_4 hG
    refine ⟨fun _ => ?_, fun z => absurd (Int.le_refl _) z⟩
    rw [hT.tt] at h; exact h
  · intro k k0 k1 ih
    apply k_Model_turnsTold_4 hG
    have := tr k.toNat
    rw [w32_1 (by omega) (by omega), hR 101 _ rfl]
    rw [toN1 k0, show turnsN T (k.toNat + 1) = turnsN T k.toNat + (if T 101 k = -1 then 0 else 1) from by show turnsN T k.toNat + (if T 101 (k.toNat : Nat) = -1 then 0 else 1) = _; rw [toNI k0]] at ih
    refine ⟨fun z => absurd z (by omega), fun _ => ⟨by omega, fun q => ?_, fun q => ?_⟩⟩
    · rw [if_pos q] at ih
      refine s_m_truth (fun z => absurd rfl z) (fun _ => ?_)
      rw [w32_s (by omega) (by omega)]; exact ih
    · rw [if_neg q] at ih
      refine s_m_truth (fun _ => ?_) (fun z => absurd z (by decide))
      rw [w32_1 (by omega) (by omega)]; exact ih
end
section
variable {d : Nat} {M : es_M}
theorem P_count (h : Inv M) {w : Int} : Pair (d + 20) 48 283 [.inl w] M := by
  apply c_EveryStreet_count
  have hn := h.1.n
  have hv := h.1.v
  have hb := h.1.bk
  have hs := h.1.S.1
  have hx := h.1.X.1
  have hr := h.2.1.1
  have model : ∀ y : Int, ((w < 0 ∨ 10 < w) → y = -1) → (w = 0 → y = M 1 0) → (w = 1 → y = M 1 1) → (w = 2 → y = M 14 5) → (w = 3 → y = M 14 1) → (w = 4 → y = M 14 2) → (w = 5 → y = M 1 2) → (w = 6 → y = M 58 1) → (w = 7 → y = M 55 1) → (w = 8 → y = M 1 3) → (w = 9 → y = (pcN 18 (M 14 4).toNat : Nat)) → (w = 10 → y = M 14 3) → es_Call (d + 20) 283 [.inr (.inr 91), .inl w] M (fun y' M2 => y' = y ∧ Inv M2) := by
    intro y e1 e2 e3 e4 e5 e6 e7 e8 e9 e10 e11 e12
    apply c_Model_count
    rw [rd1 (by decide), rd1 (by decide), rd1 (by decide), rd1 (by decide), rd1 (by decide), rd1 (by decide), rd1 (by decide), rd1 (by decide), hn.2.2, hv.2.2, hb.2.2, hx.2.2, hr.1, show M 91 41 = M 14 1 from hs.1.2.2, show M 91 47 = M 14 2 from hs.2.1.2.2, show M 91 30 = M 14 3 from hs.2.2.1.2.2]
    exact ⟨fun q => ⟨(e1 q).symm, h.th⟩, fun q => ⟨(e2 q).symm, h.th⟩, fun q => ⟨(e3 q).symm, h.th⟩, fun q => ⟨(e4 q).symm, h.th⟩, fun q => ⟨(e5 q).symm, h.th⟩, fun q => ⟨(e6 q).symm, h.th⟩, fun q => s_m_turnsTold h.1 rep0 ⟨(e7 q).symm, h.th⟩, fun q => ⟨(e8 q).symm, h.th⟩, fun q => ⟨(e9 q).symm, h.th⟩, fun q => s_m_odd h.1 rep0 ⟨(e10 q).symm, h.th⟩, fun q => s_m_shutMany h.1 rep0 ⟨(e11 q).symm, h.th⟩, fun q => ⟨(e12 q).symm, h.th⟩, trivial⟩
  refine ⟨fun q => model _ ?_ ?_ ?_ ?_ ?_ ?_ ?_ ?_ ?_ ?_ ?_ ?_, fun q => model _ ?_ ?_ ?_ ?_ ?_ ?_ ?_ ?_ ?_ ?_ ?_ ?_, fun q => model _ ?_ ?_ ?_ ?_ ?_ ?_ ?_ ?_ ?_ ?_ ?_ ?_, fun q => model _ ?_ ?_ ?_ ?_ ?_ ?_ ?_ ?_ ?_ ?_ ?_ ?_, fun q => model _ ?_ ?_ ?_ ?_ ?_ ?_ ?_ ?_ ?_ ?_ ?_ ?_, fun q => model _ ?_ ?_ ?_ ?_ ?_ ?_ ?_ ?_ ?_ ?_ ?_ ?_, fun q => model _ ?_ ?_ ?_ ?_ ?_ ?_ ?_ ?_ ?_ ?_ ?_ ?_, fun q => model _ ?_ ?_ ?_ ?_ ?_ ?_ ?_ ?_ ?_ ?_ ?_ ?_, fun q => model _ ?_ ?_ ?_ ?_ ?_ ?_ ?_ ?_ ?_ ?_ ?_ ?_, fun q => model _ ?_ ?_ ?_ ?_ ?_ ?_ ?_ ?_ ?_ ?_ ?_ ?_, fun q => s_bitCount h.1.sh.1.1 h.1.sh.1.2 (model _ ?_ ?_ ?_ ?_ ?_ ?_ ?_ ?_ ?_ ?_ ?_ ?_), fun q => model _ ?_ ?_ ?_ ?_ ?_ ?_ ?_ ?_ ?_ ?_ ?_ ?_, trivial⟩
  all_goals first | (intro _; rfl) | (intro _; omega)
end
