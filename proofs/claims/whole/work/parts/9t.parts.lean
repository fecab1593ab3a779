/-! PAIRS OF CALLS: parts (6) -/
section
variable {d : Nat} {M : es_M}
theorem P_parts (h : Inv M) {k : Int} : Pair (d + 20) 42 271 [.inl k] M := by
  have hT := h.1
  have ha := hT.all
  have hv := hT.v
  apply c_EveryStreet_parts
  have bad : ¬ (1 ≤ k ∧ k ≤ 4) → es_Call (d + 20) 271 [.inr (.inr 91), .inl k] M (fun y' M2 => y' = -1 ∧ Inv M2) := fun nb => m_Model_parts (fun G hG => k_Model_parts_0 hG (s_m_in (fun q1 q2 => absurd ⟨q1, q2⟩ nb) (fun _ => es_f0 ⟨rfl, h.th⟩)))
  refine ⟨fun z => bad (by omega), fun z1 => ⟨fun z2 => ?_, fun z => bad (by omega)⟩⟩
  have k0 : 1 ≤ k := by omega
  obtain ⟨K, rfl⟩ : ∃ K : Nat, k = (K : Int) + 1 := ⟨(k - 1).toNat, by omega⟩
  have hK : K ≤ 3 := by omega
  have cc := pt_ok hT
  have p0 : ptF M 0 = 1000000 := ifc_n (fun z => absurd z.1 (by decide))
  refine s_costByStreets hT (RepC.rf M) (fun M2 f1 f2 => ?_)
  have k2 : offC M M2 := fun c _ _ _ _ _ _ _ _ _ _ _ _ y4 _ => f1 c y4
  have hR2 : RepC M M2 := fun c j q => by rw [f1 c (by rintro rfl; cases q)]
  have ca : ∀ X : es_M, (∀ c, c ≠ 73 → c ≠ 74 → c ≠ 58 → c ≠ 59 → X c = M c) → CacheOK M X := fun X e => h.2.2.congr rfl rfl (by rw [e 60] <;> decide) (by rw [e 61] <;> decide) (by rw [e 62] <;> decide) (by rw [e 63] <;> decide)
  -- the model
  have md : ∀ (X1 : es_M) (y : Int), offC M X1 → CacheOK M X1 → (¬ shF 1 (ptF M) K (allF M) < 1000000 → y = -2 ∧ X1 58 = M 58 ∧ X1 59 = M 59) → (shF 1 (ptF M) K (allF M) < 1000000 → y = shF 1 (ptF M) K (allF M) ∧ RwC (tlR 1 (ptF M) K (allF M) (shF 1 (ptF M) K (allF M)) (0, fun _ => 0)) X1) → es_Call (d + 20) 271 [.inr (.inr 91), .inl ((K : Int) + 1)] X1 (fun y' M2 => y' = y ∧ Inv M2) := by
    intro X1 y kk cX hno hyes
    apply m_Model_parts
    intro G hG
    apply k_Model_parts_0 hG
    refine s_m_in (fun _ _ => es_f1 ?_) (fun z => absurd ⟨k0, z2⟩ z)
    have hR0 := repC2 kk
    have rX : ∀ Y : es_M, ((∀ c, c ≠ 91 → c ≠ 118 → c ≠ 134 → Y c = X1 c) ∧ ∀ j, j ≠ 0 → j ≠ 38 → j ≠ 39 → Y 91 j = X1 91 j) → RepM M Y := by
      intro Y hY c j q
      by_cases e : c = 91
      · subst e
        rw [hY.2 j (by rintro rfl; cases q) (by rintro rfl; cases q) (by rintro rfl; cases q)]
        have := hR0 91 j q
        rw [es_upd_j (by rintro rfl; cases q)] at this
        exact this
      · rw [hY.1 c e (by rintro rfl; cases q) (by rintro rfl; cases q)]
        have := hR0 c j q
        rw [es_upd_o c e] at this
        exact this
    refine es_up (P := fun S => ∀ X : es_M, ((∀ c, c ≠ 91 → c ≠ 118 → c ≠ 134 → X c = X1 c) ∧ ∀ j, j ≠ 0 → j ≠ 38 → j ≠ 39 → X 91 j = X1 91 j) → (∀ U, 0 < U → U < S → X 134 U = ptF M U) → G 21 [lr 91, li ((K : Int) + 1), li S, none, none] [] X) (n := allF M + 1) (by omega) ?_ ?_ _ ⟨fun c x1 _ _ => es_upd_o c x1, fun j x1 _ _ => es_upd_j x1⟩ (fun U a b => absurd b (by omega))
    · intro X hX g
      apply k_Model_parts_21 hG
      refine s_m_all hT (rX X hX) ⟨fun _ => ?_, fun z => absurd (by omega) z⟩
      exact mdl_share (d := d + 17) h kk cX cc (L := 1) (E := 0) (fun _ => p0) hK hX (fun S S0 S1 al => g S (al.elim (fun w => w) (fun w => absurd rfl w)) (by omega)) (fun y5 N hN => hN) hno hyes
    · intro S S0 S1 ih X hX g
      have SN : S ≤ allF M := by omega
      have Sr : 0 ≤ S ∧ S < 1024 := by omega
      have wS : w32 (S + 1) = S + 1 := w32_1 (by omega) (by omega)
      apply k_Model_parts_21 hG
      refine s_m_all hT (rX X hX) ⟨fun z => absurd z (by omega), fun _ => ?_⟩
      clear ha
      refine es_up (P := fun j => G 34 [lr 91, li ((K : Int) + 1), li S, li (lsS M S j.toNat), li j] [] X) (n := M 1 1) hv.1 ?_ ?_
      · apply k_Model_parts_34 hG
        rw [(rX X hX) 91 23 rfl, hv.2.2, wS]
        have fin : ∀ v, (0 < S → v = ptF M S) → ((0 ≤ S ∧ S < 1024) ∧ G 21 [lr 91, li ((K : Int) + 1), li (S + 1), none, none] [] (es_upd X 134 S v)) := fun v hv' => ⟨Sr, ih _ ⟨fun c x1 x2 x3 => by rw [es_upd_o c x3]; exact hX.1 c x1 x2 x3, fun j x1 x2 x3 => by rw [es_upd_n (by decide)]; exact hX.2 j x1 x2 x3⟩ (fun U U0 U1 => by
          rw [es_upd_c]
          by_cases q : U = S
          · rw [if_pos q, q]; rw [q] at U0; exact hv' U0
          · rw [if_neg q]; exact g U U0 (Int.lt_iff_le_and_ne.mpr ⟨Int.le_of_lt_add_one U1, q⟩))⟩
        refine ⟨fun _ => s_m_hangs hT (rX X hX) Sr.1 SN (fun a => es_t1 (fin _ (fun sp => ?_))) (fun a => es_t0 (fin _ (fun sp => ?_))), fun z => absurd (Int.le_refl _) z⟩
        · rcases a with a | a
          · exact absurd a (fun w => by rw [w] at sp; exact absurd sp (by decide))
          · unfold ptF; rw [ifc_y ⟨sp, a⟩]
        · unfold ptF; rw [ifc_n (fun w => a (Or.inr w.2))]
      · intro j j0 j1 ih2
        rw [lsS_s j0] at ih2
        have lr' := lsS_r hT (S := S) j.toNat (by omega)
        obtain ⟨s0, s1⟩ := (hT.sr j0 j1).1
        have l := les_r hT s0 s1
        apply k_Model_parts_34 hG
        rw [(rX X hX) 91 23 rfl, hv.2.2, w32_1 (k := j) (by omega) (by omega), w32_s (k := lsS M S j.toNat + 0) (by omega) (by omega)]
        refine ⟨fun z => absurd z (by omega), fun _ => s_m_has Sr.1 (by omega) j0 (by omega) (fun b => es_t1 ⟨by omega, ?_⟩) (fun b => es_t0 (by rw [if_neg b] at ih2; exact ih2))⟩
        rw [(rX X hX) 106 _ rfl, (hT.mv j0 j1).1]
        refine s_m_lesser hT (rX X hX) s0 s1 ?_
        rw [w32_s (k := lsS M S j.toNat + lesF M (M 10 j)) (by omega) (by omega)]
        rw [if_pos b] at ih2
        exact ih2
  refine s_share (d := d + 15) hT hR2 cc f2 hK (fun z X e => ?_) (fun z X e r => ?_)
  · have kx : offC M X := fun c x1 x2 x3 x4 x5 x6 x7 x8 x9 y1 y2 y3 y4 y5 => by rw [e c y5]; exact k2 c x1 x2 x3 x4 x5 x6 x7 x8 x9 y1 y2 y3 y4 y5
    refine md X _ kx (ca X (fun c y1 y2 _ _ => by rw [e c y2, f1 c y1])) (fun _ => ⟨rfl, ?_, ?_⟩) (fun q => absurd q z)
    · rw [e 58 (by decide), f1 58 (by decide)]
    · rw [e 59 (by decide), f1 59 (by decide)]
  · have kx : offC M X := fun c x1 x2 x3 x4 x5 x6 x7 x8 x9 y1 y2 y3 y4 y5 => by rw [e c y5 x1 x2]; exact k2 c x1 x2 x3 x4 x5 x6 x7 x8 x9 y1 y2 y3 y4 y5
    exact md X _ kx (ca X (fun c y1 y2 y3 y4 => by rw [e c y2 y3 y4, f1 c y1])) (fun q => absurd z q) (fun _ => ⟨rfl, r⟩)
end
