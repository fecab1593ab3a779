/-! PAIRS OF CALLS: build (3) -/
theorem stp_congr' {T M : es_M} (tw : tow T M) (e4 : M 14 4 = T 14 4) (e5 : M 14 5 = T 14 5) : stp M = stp T := by
  funext c p q
  unfold stp cr tb tmF goes
  rw [og_congr (tw 2 (by decide)) (tw 3 (by decide)), gl_congr (tw 2 (by decide)) (tw 3 (by decide)), ln_congr (tw 4 (by decide)) (tw 5 (by decide)), tw 9 (by decide), e4, e5]
theorem odW_f {c : Nat} {j : Int} (h1 : c ≠ 17) (h2 : c ≠ 125) (h3 : c ≠ 126) (h4 : c ≠ 14 ∨ j ≠ 2) (h5 : c ≠ 91 ∨ j ≠ 47) : odW c j = false := by
  cases q : odW c j
  · rfl
  · exfalso
    unfold odW at q
    simp only [Bool.or_eq_true, Bool.and_eq_true, decide_eq_true_eq, Nat.beq_eq] at q
    rcases q with (((q | q) | q) | ⟨q, q2⟩) | ⟨q, q2⟩
    · exact h1 q
    · exact h2 q
    · exact h3 q
    · exact h4.elim (fun z => z q) (fun z => z q2)
    · exact h5.elim (fun z => z q) (fun z => z q2)
theorem Inv.ord {M M' : es_M} (h : Inv M) (e : ∀ c j, pers c j = true → odW c j = false → M' c j = M c j) (n0 : 0 ≤ M' 14 2 ∧ M' 14 2 ≤ 10 ∧ M' 91 47 = M' 14 2) (ho : Val M (M' 14 2) (M' 17)) (hm : ∀ i, 0 ≤ i → i < M' 14 2 → M' 125 i = M' 17 i / 2 ∧ M' 126 i = M' 17 i % 2) (hr : RowEq M') (e0 : M' 60 5 = 0) (hl : ∀ p q, isP M p → isP M q → M' 61 (p * 36 + q) = wyF M p q) (hn : nextsOK M M') : Inv M' := by
  have hA : TI (fun c j => if pers c j = true then M' c j else M c j) := by
    refine h.1.ord (fun c j q => ?_) n0 ho hm
    by_cases p : pers c j = true
    · show (if pers c j = true then M' c j else M c j) = M c j
      rw [if_pos p]; exact e c j p q
    · show (if pers c j = true then M' c j else M c j) = M c j
      rw [if_neg p]
  have hT' : TI M' := hA.rep (fun c j q => by show M' c j = if pers c j = true then M' c j else M c j; rw [if_pos q])
  have tw : tow M M' := fun c hc => funext fun j => e c j (by unfold pers persC; rw [show Nat.ble 1 c = true from Nat.ble_eq_true_of_le hc.1, show Nat.ble c 54 = true from Nat.ble_eq_true_of_le (by omega)]; rfl) (odW_f (by omega) (by omega) (by omega) (by omega) (by omega))
  have hc : CacheOK M M' := ⟨Or.inl e0, fun _ => ⟨leastOK.of h.1 hl, hn⟩⟩
  exact ⟨hT', hr, hc.congr (stp_congr' tw (e 14 4 rfl rfl) (e 14 5 rfl rfl)) (tw 1 (by decide)) rfl rfl rfl rfl⟩
section
variable {d : Nat} {M : es_M}
theorem P_build (h : Inv M) : Pair (d + 20) 38 258 [] M := by
  have hT := h.1
  have hv := hT.v
  apply c_EveryStreet_build
  refine ⟨fun z => ?_, fun z => m_Model_build (fun G hG => k_Model_build_0 hG ⟨fun w => absurd (by rw [es_upd_j (by decide), hv.2.2]; exact z) w, fun _ => ⟨rfl, h.th⟩⟩)⟩
  have rowq : ∀ M1 M2 : es_M, M1 58 = M 58 → M1 59 = M 59 → M1 91 = M 91 → M1 92 = M 92 → M2 58 = M1 58 → M2 59 = M1 59 → M2 91 1 = M1 91 1 → M2 92 = M1 92 → RowEq M2 := by
    intro M1 M2 a1 a2 a3 a4 b1 b2 b3 b4
    have hr := h.2.1
    unfold RowEq at hr ⊢
    rw [b1, b2, b3, b4, a1, a2, a3, a4]; exact hr
  have hRm : ∀ M1 : es_M, (∀ c, 91 ≤ c → M1 c = M c) → RepM M (es_upd M1 91 0 0) := by
    intro M1 e c j q
    have hc : 91 ≤ c := by
      cases Nat.lt_or_ge c 91 with
      | inr z => exact z
      | inl z =>
        exfalso
        unfold persM at q
        have z1 : ∀ k : Nat, 91 ≤ k → Nat.beq c k = false := fun k hk => by rw [← Bool.not_eq_true, Nat.beq_eq]; omega
        have z2 : ∀ k : Nat, 91 ≤ k → Nat.ble k c = false := fun k hk => by rw [← Bool.not_eq_true, Nat.ble_eq]; omega
        simp [z1, z2] at q
    by_cases e1 : c = 91
    · subst e1; rw [es_upd_j (by rintro rfl; cases q), e 91 (by decide)]
    · rw [es_upd_o c e1, e c hc]
  refine s_buildAnew hT (RepC.rf M) h.2.2 (by omega) (fun M1 v v1 ok nz f1 f2 f3 f4 => ?_) (fun M1 ok f1 f2 f3 f4 f5 f6 f7 => ?_)
  · refine s_m_build (d := d + 14) hT (hRm M1 (fun c hc => f1 c (by omega) (by omega) (by omega) (by omega) (by omega) (by omega) (by omega) (by omega))) (by omega) (fun M2 w w1 ok2 nz2 g => ⟨rfl, ?_⟩) (fun M2 ok2 _ _ _ _ => absurd (ok2 v (by omega)) nz)
    have eo : ∀ c, c ≠ 60 → c ≠ 61 → c ≠ 62 → c ≠ 63 → c ≠ 84 → c ≠ 85 → c ≠ 86 → c ≠ 87 → c ≠ 91 → c ≠ 127 → c ≠ 128 → c ≠ 129 → c ≠ 130 → c ≠ 131 → c ≠ 132 → c ≠ 133 → M2 c = M c := fun c c1 c2 c3 c4 c5 c6 c7 c8 c9 d1 d2 d3 d4 d5 d6 d7 => by rw [g.1 c c9 d1 d2 d3 d4 d5 d6 d7, es_upd_o c c9, f1 c c1 c2 c3 c4 c5 c6 c7 c8]
    have e91 : ∀ j, j ≠ 0 → j ≠ 57 → M2 91 j = M 91 j := fun j j1 j2 => by rw [g.2 j j2, es_upd_j j1, f1 91 (by decide) (by decide) (by decide) (by decide) (by decide) (by decide) (by decide) (by decide)]
    refine h.ref (fun c j q => ?_) ?_ ?_ (fun p q hp hq => ?_) (fun p hp => ?_)
    · by_cases c1 : c = 91
      · subst c1; exact e91 j (by rintro rfl; cases q) (by rintro rfl; cases q)
      · rw [eo c ?_ ?_ ?_ ?_ ?_ ?_ ?_ ?_ c1 ?_ ?_ ?_ ?_ ?_ ?_ ?_] <;> (rintro rfl; cases q)
    · have hr := h.2.1
      unfold RowEq at hr ⊢
      rw [e91 1 (by decide) (by decide), eo 58, eo 59, eo 92] <;> first | exact hr | decide
    · rw [g.1 60, es_upd_n, f2] <;> decide
    · rw [g.1 61, es_upd_n, f3 p q hp hq] <;> decide
    · have := f4 p hp
      rw [g.1 62, g.1 63, es_upd_o 62, es_upd_o 63] <;> first | exact this | decide
  · refine s_m_build (d := d + 14) hT (hRm M1 (fun c hc => f1 c (by omega) (by omega) (by omega) (by omega) (by omega) (by omega) (by omega) (by omega) (by omega) (by omega))) (by omega) (fun M2 w w1 ok2 nz2 g => absurd (ok w (by omega)) nz2) (fun M2 ok2 g1 g2 g3 g4 => ⟨rfl, ?_⟩)
    have V := bdF_V (T := M) (M 1 1).toNat (by omega) ok
    rw [toNI hv.1] at V
    have eo : ∀ c, c ≠ 60 → c ≠ 61 → c ≠ 62 → c ≠ 63 → c ≠ 84 → c ≠ 85 → c ≠ 86 → c ≠ 87 → c ≠ 91 → c ≠ 127 → c ≠ 128 → c ≠ 129 → c ≠ 130 → c ≠ 131 → c ≠ 132 → c ≠ 133 → c ≠ 17 → c ≠ 14 → c ≠ 125 → c ≠ 126 → M2 c = M c := fun c c1 c2 c3 c4 c5 c6 c7 c8 c9 d1 d2 d3 d4 d5 d6 d7 x1 x2 x3 x4 => by rw [g1 c c9 x3 x4 d1 d2 d3 d4 d5 d6 d7, f1 c c1 c2 c3 c4 c5 c6 c7 c8 x1 x2]
    have e14 : M2 14 = M1 14 := by rw [g1 14] <;> decide
    have e17 : M2 17 = M1 17 := by rw [g1 17] <;> decide
    have e91 : ∀ j, j ≠ 0 → j ≠ 57 → j ≠ 47 → M2 91 j = M 91 j := fun j j1 j2 j3 => by rw [g2 j j1 j2 j3, f1 91] <;> decide
    refine h.ord (fun c j q w => ?_) ?_ ?_ (fun i i0 i1 => ?_) ?_ ?_ (fun p q hp hq => ?_) (fun p hp => ?_)
    · by_cases c1 : c = 91
      · subst c1; exact e91 j (by rintro rfl; cases q) (by rintro rfl; cases q) (by rintro rfl; cases w)
      · by_cases c2 : c = 14
        · subst c2; rw [e14]; exact f2 j (by rintro rfl; cases w)
        · rw [eo c ?_ ?_ ?_ ?_ ?_ ?_ ?_ ?_ c1 ?_ ?_ ?_ ?_ ?_ ?_ ?_ ?_ c2 ?_ ?_] <;> (rintro rfl; first | (cases w; done) | (cases q; done))
    · rw [e14, f3, g3]; omega
    · rw [e14, f3, e17]
      refine ⟨fun i i0 i1 => ?_, fun i j i0 i1 j0 j1 => ?_⟩
      · rw [f4 i i0 i1]; exact V.1.1 i i0 i1
      · rw [f4 i i0 i1, f4 j j0 j1]; exact V.1.2 i j i0 i1 j0 j1
    · rw [e14, f3] at i1
      rw [e17, f4 i i0 i1]; exact g4 i i0 i1
    · have hr := h.2.1
      unfold RowEq at hr ⊢
      rw [e91 1 (by decide) (by decide) (by decide), eo 58, eo 59, eo 92] <;> first | exact hr | decide
    · rw [g1 60, f5] <;> decide
    · rw [g1 61, f6 p q hp hq] <;> decide
    · have := f7 p hp
      rw [g1 62, g1 63] <;> first | exact this | decide
end
