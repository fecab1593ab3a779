/-! PAIRS OF CALLS: floor, pair (4) -/
theorem pc12 {s : Nat} (h : s < 4096) : pcN 18 s ≤ 12 := by
  have z : ∀ i, 12 ≤ i → s.testBit i = false := fun i hi => Nat.testBit_lt_two_pow (Nat.lt_of_lt_of_le h (Nat.pow_le_pow_right (n := 2) (i := 12) (by decide) hi))
  have e : ∀ r, pcN (12 + r) s = pcN 12 s := by
    intro r
    induction r with
    | zero => rfl
    | succ r ih =>
      show pcN (12 + r) s + (if s.testBit (12 + r) then 1 else 0) = _
      rw [z (12 + r) (by omega), ih]
      rfl
  have := e 6
  have := pcN_le 12 s
  rw [show 12 + 6 = 18 from rfl] at *
  omega
def lsN (T : es_M) : Nat → Int
  | 0 => 0
  | k + 1 => lsN T k + lesF T (T 10 k)
theorem lsN_s {T : es_M} {k : Int} (k0 : 0 ≤ k) : lsN T (k + 1).toNat = lsN T k.toNat + lesF T (T 10 k) := by
  rw [toN1 k0]
  show lsN T k.toNat + lesF T (T 10 (k.toNat : Nat)) = _
  rw [toNI k0]
theorem lsN_r {T : es_M} (h : TI T) : ∀ k : Nat, (k : Int) ≤ T 1 1 → 0 ≤ lsN T k ∧ lsN T k ≤ 99 * k := by
  intro k
  induction k with
  | zero => intro _; exact ⟨Int.le_refl _, Int.le_refl _⟩
  | succ k ih =>
    intro hk
    have i := ih (by omega)
    obtain ⟨s0, s1⟩ := (h.sr (v := k) (by omega) (by omega)).1
    have := les_r h s0 s1
    show 0 ≤ lsN T k + lesF T (T 10 k) ∧ lsN T k + lesF T (T 10 k) ≤ _
    omega
section
variable {d : Nat} {Q : Int → es_M → Prop} {T M : es_M}
theorem s_lesserOfServices (hT : TI T) (hR : RepC T M) (h : Q (lsN T (T 1 1).toNat) M) : es_Call (d + 2) 137 [.inr (.inr 75)] M Q := by
  apply m_Bounds_lesserOfServices
  intro G hG
  apply k_Bounds_lesserOfServices_0 hG
  have hv := hT.v
  have hn := hT.n
  refine es_up (P := fun k => G 4 [lr 75, li (lsN T k.toNat), li k] [] M) hv.1 ?_ ?_
  · apply k_Bounds_lesserOfServices_4 hG
    rw [hR 1 1 rfl]
    exact ⟨fun _ => h, fun z => absurd (Int.le_refl _) z⟩
  · intro k k0 k1 ih
    obtain ⟨s0, s1⟩ := (hT.sr k0 k1).1
    have := les_r hT s0 s1
    have := lsN_r hT k.toNat (by omega)
    apply k_Bounds_lesserOfServices_4 hG
    rw [hR 1 1 rfl, hR 10 _ rfl, w32_1 (by omega) (by omega)]
    rw [lsN_s k0] at ih
    refine ⟨fun z => absurd z (by omega), fun _ => ⟨by omega, s_lesser hR s0 (by omega) ?_⟩⟩
    rw [w32_s (by omega) (by omega)]; exact ih
end
section
variable {d : Nat} {M : es_M}
theorem P_floor (h : Inv M) : Pair (d + 20) 16 210 [] M := by
  have hT := h.1
  have hv := hT.v
  have hn := hT.n
  obtain ⟨o1, o2, o3⟩ := hT.od2
  have pr := pdF_r hT o2
  have lr' := lsN_r hT (M 1 1).toNat (by omega)
  apply c_EveryStreet_floor
  refine s_leastPairs hT (RepC.rf M) (fun M1 f1 f2 f3 => ?_)
  have model : ∀ y, y = (if pdF (farF M) (odN M) < 1000000 then pdF (farF M) (odN M) + lsN M (M 1 1).toNat else -2) → es_Call (d + 20) 210 [.inr (.inr 91)] M1 (fun y' M2 => y' = y ∧ Inv M2) := by
    intro y hy
    apply m_Model_floor
    intro G hG
    apply k_Model_floor_0 hG
    have hR1 : RepM M (es_upd M1 91 0 0) := by
      intro c j q
      by_cases e : c = 91
      · subst e
        rw [es_upd_j (by rintro rfl; cases q), f1 91 (by decide) (by decide)]
      · rw [es_upd_o c e, f1 c (by rintro rfl; cases q) (by rintro rfl; cases q)]
    refine s_m_measures hT hR1 fun M2 g1 g2 => ?_
    have hR2 := rep111 hR1 g1
    have hI : Inv M2 := h.cells (fun c c1 c2 => by rw [g1 c (by omega), es_upd_o c c2, f1 c (by omega) (by omega)]) (fun j hj => by rw [g1 91 (by decide), es_upd_j hj, f1 91 (by decide) (by decide)])
    refine s_m_odd hT hR2 ?_
    rw [o1]
    refine s_m_paired (d := d + 5) hT g2 12 (odN M) _ o2 (pc12 o2) ⟨fun z => ?_, fun z => ⟨?_, hI⟩⟩
    · rw [if_pos z] at hy
      have : G 30 [lr 91, li (pdF (farF M) (odN M) + lsN M (0 : Int).toNat), li 0] [] M2 := by
        refine es_up (P := fun k => G 30 [lr 91, li (pdF (farF M) (odN M) + lsN M k.toNat), li k] [] M2) hv.1 ?_ ?_
        · apply k_Model_floor_30 hG
          rw [hR2 91 23 rfl, hv.2.2]
          exact ⟨fun _ => ⟨hy.symm, hI⟩, fun w => absurd (Int.le_refl _) w⟩
        · intro k k0 k1 ih
          obtain ⟨s0, s1⟩ := (hT.sr k0 k1).1
          have := les_r hT s0 s1
          have := lsN_r hT k.toNat (by omega)
          apply k_Model_floor_30 hG
          rw [hR2 91 23 rfl, hv.2.2, hR2 106 _ rfl, (hT.mv k0 k1).1, w32_1 (k := k) (by omega) (by omega)]
          rw [lsN_s k0] at ih
          refine ⟨fun w => absurd w (by omega), fun _ => ⟨by omega, s_m_lesser hT hR2 s0 s1 ?_⟩⟩
          rw [w32_s (by omega) (by omega), Int.add_assoc]; exact ih
      rw [show lsN M (0 : Int).toNat = 0 from rfl, Int.add_zero] at this
      exact this
    · rw [hy, if_neg z]
  refine ⟨fun z => s_lesserOfServices hT (rep77 (RepC.rf M) f1) (model _ ?_), fun z => model _ ?_⟩
  · rw [if_pos z, w32_s (by omega) (by omega)]
  · rw [if_neg z]
end
