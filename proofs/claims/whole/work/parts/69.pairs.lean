/-! PAIRS OF CALLS: floor, pair (3) -/
theorem pcN_flip (x a : Nat) : ∀ m, pcN m (x ^^^ 2 ^ a) % 2 = (pcN m x + if a < m then 1 else 0) % 2 := by
  intro m
  induction m with
  | zero => rfl
  | succ m ih =>
    show (pcN m (x ^^^ 2 ^ a) + (if (x ^^^ 2 ^ a).testBit m then 1 else 0)) % 2 = (pcN m x + (if x.testBit m then 1 else 0) + (if a < m + 1 then 1 else 0)) % 2
    rw [Nat.testBit_xor, Nat.testBit_two_pow]
    by_cases e : a = m
    · subst e
      rw [if_neg (Nat.lt_irrefl a)] at ih
      rw [if_pos (by omega : a < a + 1)]
      cases x.testBit a <;> simp <;> omega
    · by_cases lt : a < m
      · rw [if_pos lt] at ih
        rw [if_pos (by omega : a < m + 1)]
        cases x.testBit m <;> simp [e] <;> omega
      · rw [if_neg lt] at ih
        rw [if_neg (by omega : ¬ a < m + 1)]
        cases x.testBit m <;> simp [e] <;> omega
theorem TI.even {T : es_M} (h : TI T) : ∀ k : Nat, (k : Int) ≤ T 1 1 → pcN 18 (oddN T k) % 2 = 0 := by
  intro k
  induction k with
  | zero => intro _; show pcN 18 0 % 2 = 0; decide
  | succ k ih =>
    intro hk
    have i := ih (by omega)
    obtain ⟨s0, s1⟩ := (h.sr (v := k) (by omega) (by omega)).1
    obtain ⟨a1, a2, -⟩ := h.st s0 s1
    show pcN 18 ((oddN T k ^^^ 2 ^ (T 2 (T 10 k)).toNat) ^^^ 2 ^ (T 3 (T 10 k)).toNat) % 2 = 0
    have e1 := pcN_flip (oddN T k ^^^ 2 ^ (T 2 (T 10 k)).toNat) (T 3 (T 10 k)).toNat 18
    have e2 := pcN_flip (oddN T k) (T 2 (T 10 k)).toNat 18
    rw [if_pos (by omega)] at e1 e2
    omega
/-- the odd corners -/
def odN (T : es_M) : Nat := (T 1 3).toNat
theorem TI.od2 {T : es_M} (h : TI T) : T 1 3 = (odN T : Nat) ∧ odN T < 4096 ∧ pcN 18 (odN T) % 2 = 0 := by
  have o := h.od
  have hv := h.v
  have r := h.oddr (T 1 1).toNat (by omega)
  have e : odN T = oddN T (T 1 1).toNat := by unfold odN; omega
  rw [e]
  exact ⟨o, r, h.even _ (by omega)⟩
abbrev subN (s t : Nat) : Prop := es_dif s t = 0
theorem subN_bit {s t : Nat} (h : subN s t) {i : Nat} (hi : s.testBit i = true) : t.testBit i = true := by
  have := congrArg (fun z => Nat.testBit z i) h
  simp only [es_dif_bit, Nat.zero_testBit, hi] at this
  cases q : t.testBit i
  · rw [q] at this; cases this
  · rfl
theorem subN_of {s t : Nat} (h : ∀ i, s.testBit i = true → t.testBit i = true) : subN s t := by
  apply Nat.eq_of_testBit_eq
  intro i
  rw [es_dif_bit, Nat.zero_testBit]
  cases q : s.testBit i
  · rfl
  · rw [h i q]; rfl
theorem lfN_sub {s t : Nat} (b : Nat) (h : subN s t) : subN (lfN s b) t := subN_of fun i hi => by
  rw [lfN_bit] at hi
  refine subN_bit h ?_
  cases q : s.testBit i
  · rw [q] at hi; cases hi
  · rfl
/-- sums stand for the even sets of odd corners below n -/
def sumsOK (T M : es_M) (n : Nat) : Prop := ∀ s : Nat, s < n → s < 4096 → subN s (odN T) → pcN 18 s % 2 = 0 → M 77 (s : Nat) = pdF (farF T) s
section
variable {d : Nat} {Q : Int → es_M → Prop} {T M : es_M}
theorem s_firstOther (hT : TI T) (hF : ∀ j, 0 ≤ j → j < 144 → M 76 j = farF T j) {s : Nat} (h0 : 0 < s) (hs : s < 4096) (hsub : subN s (odN T)) (hev : pcN 18 s % 2 = 0) (hS : sumsOK T M s) (h : Q (foN (farF T) (pdF (farF T)) s 12) M) : es_Call (d + 3) 134 [.inr (.inr 75), .inl (s : Nat)] M Q := by
  apply m_Bounds_firstOther
  intro G hG
  apply k_Bounds_firstOther_0 hG
  obtain ⟨n1, n2, -⟩ := ntz_sp h0 hs
  refine s_ntz (by omega) (by omega) ?_
  rw [Int.toNat_natCast, w32_1 (by omega) (by omega)]
  have gr : ∀ b, b < 12 → ntzN s < b → s.testBit b = true → 0 ≤ pdF (farF T) (lfN s b) := fun b hb h1 h2 => (pdF_r hT (by have := (lfN_pc h0 hs h1 hb h2).2; omega)).1
  have pr : ∀ r, r ≤ 12 → 0 ≤ pmF (farF T) (pdF (farF T)) s r ∧ pmF (farF T) (pdF (farF T)) s r ≤ 1000000 := fun r hr => pmF_r (fun _ => farF_r hT) n1 r hr fun b hb => gr b (by omega)
  have : G 13 [lr 75, li (s : Nat), li (foN (farF T) (pdF (farF T)) s ((ntzN s : Int) + 1).toNat), li (pmF (farF T) (pdF (farF T)) s ((ntzN s : Int) + 1).toNat), li ((ntzN s : Int) + 1)] [] M := by
    refine es_upl (P := fun b => G 13 [lr 75, li (s : Nat), li (foN (farF T) (pdF (farF T)) s b.toNat), li (pmF (farF T) (pdF (farF T)) s b.toNat), li b] [] M) (lo := (ntzN s : Int) + 1) (n := 12) (by omega) ?_ ?_
    · apply k_Bounds_firstOther_13 hG
      exact ⟨fun _ => h, fun w => absurd (Int.le_refl _) w⟩
    · intro b b0 b1 ih
      apply k_Bounds_firstOther_13 hG
      have pm := pr b.toNat (by omega)
      rw [w32_1 (by omega) (by omega)]
      refine ⟨fun w => absurd w (by omega), fun _ => s_has (by omega) (by omega) (by omega) (by omega) (fun q => es_t1 ?_) (fun q => es_t0 ?_)⟩
      · have q : s.testBit b.toNat = true := by unfold ebit at q; rw [Int.toNat_natCast] at q; exact q
        rw [pmF_s (by omega), if_pos ⟨by omega, q⟩, foN_s (by omega)] at ih
        obtain ⟨e1, e2⟩ := lfN_pc h0 hs (b := b.toNat) (by omega) (by omega) q
        have hg := hS (lfN s b.toNat) e2 (by omega) (lfN_sub _ hsub) (by omega)
        refine s_sumWith hT hF h0 hs (by omega) b1 hg ⟨fun w => ?_, fun w => s_sumWith hT hF h0 hs (by omega) b1 hg ?_⟩
        · rw [if_neg (fun z => by have := z.2.2; omega), show min (pmF (farF T) (pdF (farF T)) s b.toNat) (farF T ((ntzN s : Int) * 12 + b) + pdF (farF T) (lfN s b.toNat)) = pmF (farF T) (pdF (farF T)) s b.toNat by omega] at ih
          exact ih
        · rw [if_pos ⟨by omega, q, by omega⟩, show min (pmF (farF T) (pdF (farF T)) s b.toNat) (farF T ((ntzN s : Int) * 12 + b) + pdF (farF T) (lfN s b.toNat)) = min 1000000 (farF T ((ntzN s : Int) * 12 + b) + pdF (farF T) (lfN s b.toNat)) by omega] at ih
          exact ih
      · have q : ¬ s.testBit b.toNat = true := fun w => q (by unfold ebit; rw [Int.toNat_natCast]; exact w)
        rw [pmF_s (by omega), if_neg (fun w => q w.2), foN_s (by omega), if_neg (fun w => q w.2.1)] at ih
        exact ih
  rw [show pmF (farF T) (pdF (farF T)) s ((ntzN s : Int) + 1).toNat = 1000000 from pmF_lo _ (by omega), show foN (farF T) (pdF (farF T)) s ((ntzN s : Int) + 1).toNat = -1 from foN_lo _ (by omega)] at this
  exact this
theorem rep77 {M' : es_M} (hR : RepC T M) (h : ∀ c, c ≠ 76 → c ≠ 77 → M' c = M c) : RepC T M' := by
  intro c j q
  by_cases e : c = 76
  · subst e; cases q
  · by_cases e2 : c = 77
    · subst e2; cases q
    · rw [h c e e2]; exact hR _ _ q
theorem s_leastPairs (hT : TI T) (hR : RepC T M) (h : ∀ M', (∀ c, c ≠ 76 → c ≠ 77 → M' c = M c) → (∀ j, 0 ≤ j → j < 144 → M' 76 j = farF T j) → sumsOK T M' (odN T + 1) → Q (pdF (farF T) (odN T)) M') : es_Call (d + 4) 133 [.inr (.inr 75)] M Q := by
  apply m_Bounds_leastPairs
  intro G hG
  apply k_Bounds_leastPairs_0 hG
  obtain ⟨o1, o2, o3⟩ := hT.od2
  refine s_measure hT hR (fun M1 f1 f2 => ⟨by decide, ?_⟩)
  refine es_upl (P := fun k => ∀ M', (∀ c, c ≠ 76 → c ≠ 77 → M' c = M c) → (∀ j, 0 ≤ j → j < 144 → M' 76 j = farF T j) → sumsOK T M' k.toNat → G 13 [lr 75, li k] [] M') (lo := 1) (n := (odN T : Int) + 1) (by omega) ?_ ?_ _ (fun c a b => by rw [es_upd_o c b, f1 c a]) (fun j j0 j1 => by rw [es_upd_n (by decide)]; exact f2 j j0 j1) ?_
  · intro M' g1 g2 g3
    apply k_Bounds_leastPairs_13 hG
    rw [(rep77 hR g1) 1 3 rfl, o1]
    rw [show ((odN T : Int) + 1).toNat = odN T + 1 by omega] at g3
    refine ⟨fun _ => ⟨by omega, ?_⟩, fun z => absurd (by omega) z⟩
    rw [g3 (odN T) (by omega) o2 (subN_of fun _ z => z) o3]
    exact h M' g1 g2 g3
  · intro k k0 k1 ih M' g1 g2 g3
    have hR' := rep77 hR g1
    apply k_Bounds_leastPairs_13 hG
    rw [hR' 1 3 rfl, o1, w32_1 (by omega) (by omega)]
    obtain ⟨K, rfl⟩ := Int.eq_ofNat_of_zero_le (show 0 ≤ k by omega)
    rw [Int.toNat_natCast] at g3
    rw [show ((K : Int) + 1).toNat = K + 1 by omega] at ih
    rw [eb_dif (by omega) (by omega)]
    refine ⟨fun z => absurd z (by omega), fun _ => ⟨fun z => ih M' g1 g2 (fun s a b c e => ?_), fun z => ?_⟩⟩
    · by_cases q : s = K
      · subst q; exact absurd c (fun w => z (by rw [w]; rfl))
      · exact g3 s (by omega) b c e
    · have hsub : subN K (odN T) := by unfold subN; omega
      apply c_EveryStreet_isOdd
      refine s_bitCount (by omega) (by omega) ?_
      rw [Int.toNat_natCast]
      have p18 := pcN_le 18 K
      rw [ei_and1 (by omega) (by omega)]
      refine ⟨fun w => ⟨es_b0, es_f0 ⟨by omega, ?_⟩⟩, fun w => ⟨es_b1, es_f1 (ih M' g1 g2 (fun s a b c e => ?_))⟩⟩
      · have hev : pcN 18 K % 2 = 0 := by omega
        have hF : ∀ j, 0 ≤ j → j < 144 → es_upd M' 77 (K : Int) 1000000 76 j = farF T j := fun j j0 j1 => by rw [es_upd_n (by decide)]; exact g2 j j0 j1
        have hS : sumsOK T (es_upd M' 77 (K : Int) 1000000) K := fun s a b c e => by rw [es_upd_j (by omega)]; exact g3 s a b c e
        refine s_firstOther hT hF (by omega) (by omega) hsub hev hS ?_
        have fin : ∀ v, v = pdF (farF T) K → G 13 [lr 75, li ((K : Int) + 1)] [] (es_upd (es_upd M' 77 (K : Int) 1000000) 77 (K : Int) v) := by
          intro v hv
          refine ih _ (fun c a b => by rw [es_upd_o c b, es_upd_o c b, g1 c a b]) (fun j j0 j1 => by rw [es_upd_n (by decide)]; exact hF j j0 j1) (fun s a b c e => ?_)
          rw [es_upd_c]
          by_cases q : s = K
          · subst q; rw [if_pos rfl, hv]
          · rw [if_neg (by omega)]; exact hS s (by omega) b c e
        have pe := pdF_eq (farF T) (s := K) (by omega)
        rw [if_neg (by omega)] at pe
        rcases foN_sp (farF T) (pdF (farF T)) K 12 with ⟨e1, e2⟩ | ⟨b, e1, e2, e3, e4, e5, e6, -⟩
        · rw [e1]
          refine s_sumWith0 (by omega) (by omega) ⟨by omega, fin _ ?_⟩
          rw [pe, e2]
        · rw [e1]
          obtain ⟨l1, l2⟩ := lfN_pc (s := K) (by omega) (by omega) e3 e2 e4
          refine s_sumWith hT hF (by omega) (by omega) (by omega) (by omega) (by rw [Int.toNat_natCast]; exact hS _ l2 (by omega) (lfN_sub _ hsub) (by omega)) ⟨by omega, fin _ ?_⟩
          rw [Int.toNat_natCast, show (ntzN K : Int) * 12 + (b : Int) = ((ntzN K * 12 + b : Nat) : Int) by omega, e5, pe]
          omega
      · by_cases q : s = K
        · subst q; omega
        · exact g3 s (by omega) b c e
  · intro s a b c e
    rw [show (1 : Int).toNat = 1 from rfl] at a
    have : s = 0 := by omega
    subst this
    exact es_upd_s
end
