/-! PAIRS OF CALLS: floor, pair (2) -/
theorem pmF_lo {f : Int → Int} {g : Nat → Int} {s : Nat} : ∀ r, r ≤ ntzN s + 1 → pmF f g s r = 1000000 := by
  intro r
  induction r with
  | zero => intro _; rfl
  | succ r ih =>
    intro h
    show (if ntzN s < r ∧ s.testBit r = true then min (pmF f g s r) (f ((ntzN s * 12 + r : Nat) : Int) + g (lfN s r)) else pmF f g s r) = _
    rw [if_neg (by omega), ih (by omega)]
theorem pmF_s {f : Int → Int} {g : Nat → Int} {s : Nat} {b : Int} (b0 : 0 ≤ b) : pmF f g s (b + 1).toNat = if ntzN s < b.toNat ∧ s.testBit b.toNat = true then min (pmF f g s b.toNat) (f ((ntzN s : Int) * 12 + b) + g (lfN s b.toNat)) else pmF f g s b.toNat := by
  rw [toN1 b0]
  show (if ntzN s < b.toNat ∧ s.testBit b.toNat = true then min (pmF f g s b.toNat) (f ((ntzN s * 12 + b.toNat : Nat) : Int) + g (lfN s b.toNat)) else pmF f g s b.toNat) = _
  rw [show ((ntzN s * 12 + b.toNat : Nat) : Int) = (ntzN s : Int) * 12 + b by omega]
theorem es_and_as (x y z : Int) : es_and x (es_and y z) = es_and (es_and x y) z := by
  unfold es_and
  rw [es_o32, es_o32, Int32.and_assoc]
theorem es_lf {s : Nat} {b : Int} (hs : s < 4096) (h0 : 0 < s) (b0 : 0 ≤ b) (hb : b < 12) : es_and (es_and (s : Int) (es_xor (es_shl 1 (ntzN s : Nat)) (-1))) (es_xor (es_shl 1 b) (-1)) = (lfN s b.toNat : Nat) ∧ lfN s b.toNat < 4096 := by
  obtain ⟨B, rfl⟩ := Int.eq_ofNat_of_zero_le b0
  have h := (ntz_sp h0 hs).1
  have p1 : 2 ^ ntzN s < 4096 := Nat.pow_lt_pow_right (n := 12) (by decide) h
  have p2 : 2 ^ B < 4096 := Nat.pow_lt_pow_right (n := 12) (by decide) (by omega)
  have d1 : ∀ a x, a < 4096 → es_dif a x < 4096 := fun a x ha => Nat.xor_lt_two_pow (n := 12) ha (Nat.lt_of_le_of_lt Nat.and_le_left ha)
  rw [eb_shl (by omega), eb_shl (by omega), eb_dif (by omega) (by omega), eb_dif (Nat.lt_trans (d1 _ _ hs) (by decide)) (by omega)]
  exact ⟨rfl, d1 _ _ (d1 _ _ hs)⟩
section
variable {d : Nat} {Q : Int → es_M → Prop} {T M : es_M}
theorem paired_body (hT : TI T) (hF : ∀ j, 0 ≤ j → j < 144 → M 111 j = farF T j) {s : Nat} (hs : s < 4096) (hrec : ∀ b, ntzN s < b → b < 12 → s.testBit b = true → ∀ Q' : Int → es_M → Prop, Q' (pdF (farF T) (lfN s b)) M → es_Call (d + 1) 209 [.inr (.inr 91), .inl (lfN s b : Nat)] M Q') (h : Q (pdF (farF T) s) M) : es_Call (d + 2) 209 [.inr (.inr 91), .inl (s : Nat)] M Q := by
  apply m_Model_paired
  intro G hG
  apply k_Model_paired_0 hG
  rw [pdF_eq _ hs] at h
  refine ⟨fun z => ?_, fun z => ?_⟩
  · have h0 : 0 < s := by omega
    rw [if_neg (by omega)] at h
    obtain ⟨n1, n2, -⟩ := ntz_sp h0 hs
    refine s_ntz (by omega) (by omega) ?_
    rw [Int.toNat_natCast, w32_1 (by omega) (by omega)]
    have gr : ∀ b, b < 12 → ntzN s < b → s.testBit b = true → 0 ≤ pdF (farF T) (lfN s b) := fun b hb h1 h2 => (pdF_r hT (by have := (lfN_pc h0 hs h1 hb h2).2; omega)).1
    have pr : ∀ r, r ≤ 12 → 0 ≤ pmF (farF T) (pdF (farF T)) s r ∧ pmF (farF T) (pdF (farF T)) s r ≤ 1000000 := fun r hr => pmF_r (fun _ => farF_r hT) n1 r hr fun b hb => gr b (by omega)
    have : G 20 [lr 91, li (s : Nat), li (ntzN s : Nat), li (pmF (farF T) (pdF (farF T)) s ((ntzN s : Int) + 1).toNat), li ((ntzN s : Int) + 1)] [] M := by
      refine es_upl (P := fun b => G 20 [lr 91, li (s : Nat), li (ntzN s : Nat), li (pmF (farF T) (pdF (farF T)) s b.toNat), li b] [] M) (lo := (ntzN s : Int) + 1) (n := 12) (by omega) ?_ ?_
      · apply k_Model_paired_20 hG
        refine ⟨fun _ => ?_, fun w => absurd (Int.le_refl _) w⟩
        have := pr 12 (Nat.le_refl _)
        rw [show (12 : Int).toNat = 12 from rfl, show min 1000000 (pmF (farF T) (pdF (farF T)) s 12) = pmF (farF T) (pdF (farF T)) s 12 by omega]
        exact h
      · intro b b0 b1 ih
        apply k_Model_paired_20 hG
        obtain ⟨p1, p2, p3⟩ := w144 (a := (ntzN s : Int)) (b := b) (by omega) (by omega)
        obtain ⟨l1, l2⟩ := es_lf hs h0 (b := b) (by omega) b1
        rw [p1, l1, w32_1 (by omega) (by omega)]
        rw [pmF_s (by omega)] at ih
        refine ⟨fun w => absurd w (by omega), fun _ => s_m_has (by omega) (by omega) (by omega) (by omega) (fun q => es_t1 ⟨⟨p2, p3⟩, ?_⟩) (fun q => es_t0 ?_)⟩
        · have q : s.testBit b.toNat = true := by unfold ebit at q; rw [Int.toNat_natCast] at q; exact q
          rw [if_pos ⟨by omega, q⟩] at ih
          refine hrec b.toNat (by omega) (by omega) q _ ?_
          have := farF_r hT p2 p3
          have := pdF_r hT l2
          rw [hF _ p2 p3, w32_s (by omega) (by omega)]
          exact ih
        · rw [if_neg (fun w => q (by unfold ebit; rw [Int.toNat_natCast]; exact w.2))] at ih
          exact ih
    rw [show pmF (farF T) (pdF (farF T)) s ((ntzN s : Int) + 1).toNat = 1000000 from pmF_lo _ (by omega)] at this
    exact this
  · rw [if_pos (by omega)] at h; exact h
theorem s_m_paired (hT : TI T) (hF : ∀ j, 0 ≤ j → j < 144 → M 111 j = farF T j) : ∀ (n s : Nat) (Q : Int → es_M → Prop), s < 4096 → pcN 18 s ≤ n → Q (pdF (farF T) s) M → es_Call (d + n + 2) 209 [.inr (.inr 91), .inl (s : Nat)] M Q := by
  intro n
  induction n with
  | zero =>
    intro s Q hs hp h
    refine paired_body hT hF hs (fun b h1 h2 h3 => ?_) h
    have h0 : 0 < s := by
      rcases Nat.eq_zero_or_pos s with z | z
      · subst z; simp at h3
      · exact z
    have := (lfN_pc h0 hs h1 h2 h3).1
    omega
  | succ n ih =>
    intro s Q hs hp h
    refine paired_body (d := d + n + 1) hT hF hs (fun b h1 h2 h3 Q' hq => ?_) h
    have h0 : 0 < s := by
      rcases Nat.eq_zero_or_pos s with z | z
      · subst z; simp at h3
      · exact z
    have := lfN_pc h0 hs h1 h2 h3
    exact ih (lfN s b) Q' (by omega) (by omega) hq
theorem s_sumWith (hT : TI T) (hF : ∀ j, 0 ≤ j → j < 144 → M 76 j = farF T j) {s : Nat} {b : Int} (h0 : 0 < s) (hs : s < 4096) (b0 : (ntzN s : Int) < b) (b1 : b < 12) (hg : M 77 (lfN s b.toNat : Nat) = pdF (farF T) (lfN s b.toNat)) (h : Q (min 1000000 (farF T ((ntzN s : Int) * 12 + b) + pdF (farF T) (lfN s b.toNat))) M) : es_Call (d + 2) 135 [.inr (.inr 75), .inl (s : Nat), .inl b] M Q := by
  apply c_Bounds_sumWith
  obtain ⟨n1, n2, -⟩ := ntz_sp h0 hs
  refine s_ntz (by omega) (by omega) ?_
  rw [Int.toNat_natCast]
  refine s_isCorner (fun _ _ => es_t1 (s_isCorner (fun _ _ => es_f1 ?_) (fun z => absurd ⟨by omega, b1⟩ z))) (fun z => absurd ⟨by omega, by omega⟩ z)
  obtain ⟨p1, p2, p3⟩ := w144 (a := (ntzN s : Int)) (b := b) (by omega) (by omega)
  obtain ⟨l1, l2⟩ := es_lf hs h0 (b := b) (by omega) b1
  rw [p1, l1, hF _ p2 p3, hg]
  have := farF_r hT p2 p3
  have := pdF_r hT l2
  rw [w32_s (by omega) (by omega)]
  exact ⟨⟨p2, p3⟩, ⟨by omega, by omega⟩, h⟩
theorem s_sumWith0 {s : Nat} (h0 : 0 < s) (hs : s < 4096) (h : Q 1000000 M) : es_Call (d + 2) 135 [.inr (.inr 75), .inl (s : Nat), .inl (-1)] M Q := by
  apply c_Bounds_sumWith
  obtain ⟨n1, n2, -⟩ := ntz_sp h0 hs
  refine s_ntz (by omega) (by omega) ?_
  rw [Int.toNat_natCast]
  exact s_isCorner (fun _ _ => es_t1 (s_isCorner (fun z _ => absurd z (by decide)) (fun _ => es_f0 h))) (fun z => absurd ⟨by omega, by omega⟩ z)
end
/-- the first corner to go with the least -/
def foN (f : Int → Int) (g : Nat → Int) (s : Nat) : Nat → Int
  | 0 => -1
  | r + 1 => if ntzN s < r ∧ s.testBit r = true ∧ f ((ntzN s * 12 + r : Nat) : Int) + g (lfN s r) < pmF f g s r then r else foN f g s r
theorem foN_lo {f : Int → Int} {g : Nat → Int} {s : Nat} : ∀ r, r ≤ ntzN s + 1 → foN f g s r = -1 := by
  intro r
  induction r with
  | zero => intro _; rfl
  | succ r ih =>
    intro h
    show (if ntzN s < r ∧ s.testBit r = true ∧ f ((ntzN s * 12 + r : Nat) : Int) + g (lfN s r) < pmF f g s r then (r : Int) else foN f g s r) = _
    rw [if_neg (by omega), ih (by omega)]
theorem foN_s {f : Int → Int} {g : Nat → Int} {s : Nat} {b : Int} (b0 : 0 ≤ b) : foN f g s (b + 1).toNat = if ntzN s < b.toNat ∧ s.testBit b.toNat = true ∧ f ((ntzN s : Int) * 12 + b) + g (lfN s b.toNat) < pmF f g s b.toNat then b else foN f g s b.toNat := by
  rw [toN1 b0]
  show (if ntzN s < b.toNat ∧ s.testBit b.toNat = true ∧ f ((ntzN s * 12 + b.toNat : Nat) : Int) + g (lfN s b.toNat) < pmF f g s b.toNat then ((b.toNat : Nat) : Int) else foN f g s b.toNat) = _
  rw [show ((ntzN s * 12 + b.toNat : Nat) : Int) = (ntzN s : Int) * 12 + b by omega, toNI b0]
theorem foN_sp (f : Int → Int) (g : Nat → Int) (s : Nat) : ∀ r, (foN f g s r = -1 ∧ pmF f g s r = 1000000) ∨ ∃ b : Nat, foN f g s r = b ∧ b < r ∧ ntzN s < b ∧ s.testBit b = true ∧ f ((ntzN s * 12 + b : Nat) : Int) + g (lfN s b) = pmF f g s r ∧ pmF f g s r < 1000000 ∧ ∀ b', b' < b → ntzN s < b' → s.testBit b' = true → pmF f g s r < f ((ntzN s * 12 + b' : Nat) : Int) + g (lfN s b') := by
  have pl : ∀ r, pmF f g s r ≤ 1000000 := by
    intro r
    induction r with
    | zero => exact Int.le_refl _
    | succ r ih =>
      show (if ntzN s < r ∧ s.testBit r = true then min (pmF f g s r) (f ((ntzN s * 12 + r : Nat) : Int) + g (lfN s r)) else pmF f g s r) ≤ _
      split <;> omega
  have pb : ∀ r b', b' < r → ntzN s < b' → s.testBit b' = true → pmF f g s r ≤ f ((ntzN s * 12 + b' : Nat) : Int) + g (lfN s b') := by
    intro r
    induction r with
    | zero => intro b' h; omega
    | succ r ih =>
      intro b' h h1 h2
      show (if ntzN s < r ∧ s.testBit r = true then min (pmF f g s r) (f ((ntzN s * 12 + r : Nat) : Int) + g (lfN s r)) else pmF f g s r) ≤ _
      by_cases e : b' = r
      · subst e
        rw [if_pos ⟨h1, h2⟩]; omega
      · have := ih b' (by omega) h1 h2
        split <;> omega
  intro r
  induction r with
  | zero => exact Or.inl ⟨rfl, rfl⟩
  | succ r ih =>
    show ((if ntzN s < r ∧ s.testBit r = true ∧ f ((ntzN s * 12 + r : Nat) : Int) + g (lfN s r) < pmF f g s r then (r : Int) else foN f g s r) = -1 ∧ (if ntzN s < r ∧ s.testBit r = true then min (pmF f g s r) (f ((ntzN s * 12 + r : Nat) : Int) + g (lfN s r)) else pmF f g s r) = 1000000) ∨ ∃ b : Nat, (if ntzN s < r ∧ s.testBit r = true ∧ f ((ntzN s * 12 + r : Nat) : Int) + g (lfN s r) < pmF f g s r then (r : Int) else foN f g s r) = b ∧ b < r + 1 ∧ ntzN s < b ∧ s.testBit b = true ∧ f ((ntzN s * 12 + b : Nat) : Int) + g (lfN s b) = (if ntzN s < r ∧ s.testBit r = true then min (pmF f g s r) (f ((ntzN s * 12 + r : Nat) : Int) + g (lfN s r)) else pmF f g s r) ∧ (if ntzN s < r ∧ s.testBit r = true then min (pmF f g s r) (f ((ntzN s * 12 + r : Nat) : Int) + g (lfN s r)) else pmF f g s r) < 1000000 ∧ ∀ b', b' < b → ntzN s < b' → s.testBit b' = true → (if ntzN s < r ∧ s.testBit r = true then min (pmF f g s r) (f ((ntzN s * 12 + r : Nat) : Int) + g (lfN s r)) else pmF f g s r) < f ((ntzN s * 12 + b' : Nat) : Int) + g (lfN s b')
    by_cases q : ntzN s < r ∧ s.testBit r = true
    · rw [if_pos q]
      by_cases q2 : f ((ntzN s * 12 + r : Nat) : Int) + g (lfN s r) < pmF f g s r
      · rw [if_pos ⟨q.1, q.2, q2⟩]
        have := pl r
        refine Or.inr ⟨r, rfl, by omega, q.1, q.2, by omega, by omega, fun b' h h1 h2 => ?_⟩
        have := pb r b' h h1 h2
        omega
      · rw [if_neg (fun z => q2 z.2.2), show min (pmF f g s r) (f ((ntzN s * 12 + r : Nat) : Int) + g (lfN s r)) = pmF f g s r by omega]
        rcases ih with ih | ⟨b, h1, h2, h3⟩
        · exact Or.inl ih
        · exact Or.inr ⟨b, h1, by omega, h3⟩
    · rw [if_neg q, if_neg (fun z => q ⟨z.1, z.2.1⟩)]
      rcases ih with ih | ⟨b, h1, h2, h3⟩
      · exact Or.inl ih
      · exact Or.inr ⟨b, h1, by omega, h3⟩
