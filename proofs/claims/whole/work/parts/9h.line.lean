/-! PAIRS OF CALLS: line (4) -/
section
variable {d : Nat} {M : es_M}
theorem s_entR {Q : Int → es_M → Prop} {v : Int} {r : RW} (hr : RwM r M) (r1 : r.1 < 120) (h : ∀ M', (∀ c, c ≠ 91 → c ≠ 92 → M' c = M c) → (∀ j, j ≠ 1 → M' 91 j = M 91 j) → RwM (apd r v) M' → Q 0 M') : es_Call (d + 1) 203 [.inr (.inr 91), .inl v] M Q := by
  have o21 := hr.1
  refine s_m_enters' (by omega) (by omega) (fun M2 a1 a2 a3 a4 a5 => h M2 a1 a2 ?_)
  unfold apd
  rw [if_pos r1]
  refine ⟨⟨by show M2 91 1 = r.1 + 1; omega, by show 0 ≤ r.1 + 1; omega, by show r.1 + 1 ≤ 120; omega⟩, fun i i0 i1 => ?_⟩
  show M2 92 i = if i = r.1 then v else r.2 i
  have i1' : i < r.1 + 1 := i1
  by_cases q : i = r.1
  · rw [if_pos q, q, ← o21.1]; exact a4
  · rw [if_neg q, a5 i (by omega)]; exact hr.2 i i0 (by omega)
theorem P_line (h : Inv M) : Pair (d + 20) 12 199 [] M := by
  have hT := h.1
  have hv := hT.v
  have hn := hT.n
  have o4 := hT.or4
  apply c_EveryStreet_line
  by_cases z0 : M 1 1 = 0
  · refine m_Bounds_tellLine (fun G hG => k_Bounds_tellLine_0 hG (s_allServices hT (RepC.rf M) ⟨fun z => absurd ?_ z, fun _ => ?_⟩))
    · unfold allF; rw [z0]; rfl
    · exact m_Model_line (fun G' hG' => k_Model_line_0 hG' ⟨fun w => absurd (by rw [es_upd_j (by decide), hv.2.2]; exact z0) w, fun _ => ⟨rfl, h.th⟩⟩)
  have v1 : 0 < M 1 1 := by omega
  have sr := lvN_r hT (M 1 1).toNat (by omega)
  have s12 : lvN M (M 1 1).toNat < 12 := sr.2 (by omega)
  -- the model
  have md : ∀ (M1 : es_M) (y : Int) (r : RW), (∀ c, c ≠ 58 → c ≠ 59 → c ≠ 78 → M1 c = M c) → RwC r M1 → (home M (lvN M (M 1 1).toNat) 0 (lvN M (M 1 1).toNat) → y = M 1 1 ∧ r = lnR M (lvN M (M 1 1).toNat) (M 1 1).toNat 0 (lvN M (M 1 1).toNat) (1, fun _ => lvN M (M 1 1).toNat)) → (¬ home M (lvN M (M 1 1).toNat) 0 (lvN M (M 1 1).toNat) → y = -2 ∧ r = odR M 12) → es_Call (d + 20) 199 [.inr (.inr 91)] M1 (fun y' M3 => y' = y ∧ Inv M3) := by
    intro M1 y r f1 f2 hy hno
    generalize hs : lvN M (M 1 1).toNat = s at *
    have hR0 : RepM M (es_upd M1 91 0 0) := by
      intro c j q
      by_cases e : c = 91
      · subst e
        rw [es_upd_j (by rintro rfl; cases q), f1 91 (by decide) (by decide) (by decide)]
      · rw [es_upd_o c e, f1 c (by rintro rfl; cases q) (by rintro rfl; cases q) (by rintro rfl; cases q)]
    have hR1 : RepM M (es_upd (es_upd M1 91 0 0) 91 1 0) := hR0.upd rfl
    -- all that is changed
    have inv : ∀ N : es_M, (∀ c, c ≠ 91 → c ≠ 92 → c ≠ 110 → N c = M1 c) → (∀ j, j ≠ 0 → j ≠ 1 → N 91 j = M1 91 j) → RowEq N → Inv N := by
      intro N e1 e2 hr
      have e3 : ∀ c, c ≠ 91 → c ≠ 92 → c ≠ 110 → c ≠ 58 → c ≠ 59 → c ≠ 78 → N c = M c := fun c x1 x2 x3 x4 x5 x6 => by rw [e1 c x1 x2 x3]; exact f1 c x4 x5 x6
      refine h.ask (fun c j q => ?_) hr (h.2.2.congr rfl rfl ?_ ?_ ?_ ?_)
      · by_cases c1 : c = 91
        · subst c1
          rw [e2 j (by rintro rfl; cases q) (by rintro rfl; cases q), f1 91 (by decide) (by decide) (by decide)]
        · rw [e3 c c1 ?_ ?_ ?_ ?_ ?_] <;> (rintro rfl; cases q)
      · rw [e3 60] <;> decide
      · rw [e3 61] <;> decide
      · rw [e3 62] <;> decide
      · rw [e3 63] <;> decide
    have rowC : ∀ N : es_M, N 58 = M1 58 → N 59 = M1 59 → RwC r N := fun N a b => by unfold RwC at f2 ⊢; rw [a, b]; exact f2
    apply m_Model_line
    intro G hG
    apply k_Model_line_0 hG
    rw [hR0 91 23 rfl, hv.2.2]
    refine ⟨fun _ => ?_, fun w => absurd w z0⟩
    refine es_up (P := fun k => G 24 [lr 91, li (lvN M k.toNat), li k, none] [] (es_upd (es_upd M1 91 0 0) 91 1 0)) (n := M 1 1) hv.1 ?_ ?_
    · apply k_Model_line_24 hG
      rw [hR1 91 23 rfl, hv.2.2, hs]
      refine ⟨fun _ => ⟨by decide, ?_⟩, fun w => absurd (Int.le_refl _) w⟩
      generalize hN0 : es_upd (es_upd (es_upd M1 91 0 0) 91 1 0) 110 0 s = N0
      have n0 : ∀ c, c ≠ 91 → c ≠ 110 → N0 c = M1 c := fun c x1 x2 => by rw [← hN0, es_upd_o c x2, es_upd_o c x1, es_upd_o c x1]
      have n1 : ∀ j, j ≠ 0 → j ≠ 1 → N0 91 j = M1 91 j := fun j x1 x2 => by rw [← hN0, es_upd_n (by decide), es_upd_j x2, es_upd_j x1]
      have n2 : N0 91 1 = 0 := by rw [← hN0, es_upd_n (by decide), es_upd_s]
      have hRN : RepM M N0 := by rw [← hN0]; exact hR1.upd rfl
      have t0 : N0 110 0 = s := by rw [← hN0, es_upd_s]
      have goo := s_m_goesOn (d := d + (16 - (M 1 1).toNat)) hT (s := s) (M 1 1).toNat 0 0 s N0 (fun y2 M1' => G 83 [lr 91, none, li y2, li 0] [] M1') (by omega) (by decide) (by decide) (hT.all.1) (by
        rw [show (0 : Int).toNat = 0 from rfl]
        have : ∀ m, pcN m 0 = 0 := by
          intro m
          induction m with
          | zero => rfl
          | succ m ih => show pcN m 0 + (if (0 : Nat).testBit m then 1 else 0) = 0; rw [ih, Nat.zero_testBit]; rfl
        rw [this]; rfl) ⟨sr.1, s12⟩ hRN.n (fun v v0 v1' => ⟨fun b => (by unfold ebit at b; rw [show (0 : Int).toNat = 0 from rfl, Nat.zero_testBit] at b; cases b), fun _ => (by rw [hRN 109 _ rfl]; exact hT.U v0 (by omega))⟩) t0 t0
      rw [show d + (16 - (M 1 1).toNat) + (M 1 1).toNat + 3 = d + 19 by omega] at goo
      refine goo (fun hh N e1 e2 => ?_) (fun hh N e1 => ?_)
      · -- a line
        obtain ⟨ey, er⟩ := hy hh
        have ls := lnR_sp (T := M) (s := s) (M 1 1).toNat 0 s (1, fun _ => s) (by show (1 : Int) + ((M 1 1).toNat : Int) ≤ 120; omega)
        have r23 : ∀ N' : es_M, (∀ j, j ≠ 1 → N' 91 j = N 91 j) → N' 91 23 = M 1 1 := fun N' e => by rw [e 23 (by decide), e1.1 91 (by decide), hRN 91 23 rfl, hv.2.2]
        refine es_up (P := fun k => ∀ N' : es_M, (∀ c, c ≠ 91 → c ≠ 92 → N' c = N c) → (∀ j, j ≠ 1 → N' 91 j = N 91 j) → N' 91 1 = k → (∀ i, 0 ≤ i → i < k → N' 92 i = lnC M s i.toNat 0 s) → G 83 [lr 91, none, li 1, li k] [] N') (n := M 1 1 + 1) (by omega) ?_ ?_ N (fun _ _ _ => rfl) (fun _ _ => rfl) (by rw [e1.1 91 (by decide)]; exact n2) (fun i i0 i1 => absurd i1 (by omega))
        · intro N' a1 a2 a3 a4
          apply k_Model_line_83 hG
          rw [r23 N' a2]
          refine ⟨fun _ => ?_, fun w => absurd (by omega) w⟩
          apply k_Model_line_113 hG
          rw [r23 N' a2]
          refine ⟨fun w => absurd w (by decide), fun _ => ⟨fun _ => ⟨fun w => absurd w (by decide), fun _ => ⟨ey.symm, ?_⟩⟩, fun w => absurd w (by decide)⟩⟩
          refine inv N' (fun c x1 x2 x3 => by rw [a1 c x1 x2, e1.1 c x3, n0 c x1 x3]) (fun j x1 x2 => by rw [a2 j x2, e1.1 91 (by decide), n1 j x1 x2]) (row_of (r := r) (rowC N' (by rw [a1 58 (by decide) (by decide), e1.1 58 (by decide), n0 58 (by decide) (by decide)]) (by rw [a1 59 (by decide) (by decide), e1.1 59 (by decide), n0 59 (by decide) (by decide)])) ?_)
          rw [er]
          have l1 : (lnR M s (M 1 1).toNat 0 s (1, fun _ => s)).1 = M 1 1 + 1 := by rw [ls.1]; show (1 : Int) + ((M 1 1).toNat : Int) = M 1 1 + 1; omega
          refine ⟨⟨by rw [l1, a3], by rw [l1]; omega, by rw [l1]; omega⟩, fun i i0 i1 => ?_⟩
          rw [l1] at i1
          rw [a4 i i0 i1]
          by_cases e : i = 0
          · rw [e, ls.2.1 0 (by show (0 : Int) < 1; decide)]; rfl
          · have := ls.2.2 i.toNat (by omega) (by omega)
            rw [show ((1 : Int), fun _ : Int => s).1 + (i.toNat : Int) - 1 = i by show (1 : Int) + (i.toNat : Int) - 1 = i; omega] at this
            exact this.symm
        · intro k k0 k1 ih N' a1 a2 a3 a4
          apply k_Model_line_83 hG
          rw [r23 N' a2, w32_1 (k := k) (by omega) (by omega), a1 110 (by decide) (by decide)]
          have tk : N 110 k = lnC M s k.toNat 0 s := by
            have := e2 k.toNat (by omega)
            rw [show (0 : Int) + (k.toNat : Int) = k by omega] at this
            exact this
          rw [tk]
          refine ⟨fun w => absurd w (by omega), fun _ => ⟨fun w => absurd w (by decide), fun _ => ⟨by omega, s_m_enters' (by omega) (by omega) (fun N2 b1 b2 b3 b4 b5 => ih N2 (fun c x1 x2 => by rw [b1 c x1 x2]; exact a1 c x1 x2) (fun j hj => by rw [b2 j hj]; exact a2 j hj) (by omega) (fun i i0 i1 => ?_))⟩⟩⟩
          by_cases e : i = k
          · rw [e, ← a3, b4, a3]
          · rw [b5 i (by omega)]; exact a4 i i0 (by omega)
      · -- none
        obtain ⟨ey, er⟩ := hno hh
        apply k_Model_line_83 hG
        have r23 : N 91 23 = M 1 1 := by rw [e1.1 91 (by decide), hRN 91 23 rfl, hv.2.2]
        rw [r23]
        refine ⟨fun w => absurd w (by omega), fun _ => ⟨fun _ => ?_, fun w => absurd rfl w⟩⟩
        refine es_up (P := fun k => ∀ N' : es_M, (∀ c, c ≠ 91 → c ≠ 92 → N' c = N c) → (∀ j, j ≠ 1 → N' 91 j = N 91 j) → RwM (odR M k.toNat) N' → G 113 [lr 91, none, li 0, li k] [] N') (n := 12) (by decide) ?_ ?_ N (fun _ _ _ => rfl) (fun _ _ => rfl) ⟨⟨by rw [e1.1 91 (by decide)]; exact n2, (by decide : (0 : Int) ≤ 0), (by decide : (0 : Int) ≤ 120)⟩, fun i i0 i1 => absurd (show i < 0 from i1) (by omega)⟩
        · intro N' a1 a2 a3
          apply k_Model_line_113 hG
          refine ⟨fun _ => ⟨fun _ => ⟨ey.symm, ?_⟩, fun w => absurd rfl w⟩, fun w => absurd (Int.le_refl _) w⟩
          exact inv N' (fun c x1 x2 x3 => by rw [a1 c x1 x2, e1.1 c x3, n0 c x1 x3]) (fun j x1 x2 => by rw [a2 j x2, e1.1 91 (by decide), n1 j x1 x2]) (row_of (r := r) (rowC N' (by rw [a1 58 (by decide) (by decide), e1.1 58 (by decide), n0 58 (by decide) (by decide)]) (by rw [a1 59 (by decide) (by decide), e1.1 59 (by decide), n0 59 (by decide) (by decide)])) (by rw [er]; exact a3))
        · intro k k0 k1 ih N' a1 a2 a3
          have hRN' : RepM M N' := by
            intro c j q
            by_cases e : c = 91
            · subst e
              rw [a2 j (by rintro rfl; cases q), e1.1 91 (by decide)]; exact hRN _ _ q
            · rw [a1 c e (by rintro rfl; cases q), e1.1 c (by rintro rfl; cases q)]; exact hRN _ _ q
          rw [odR_s k0] at ih
          have or := odR_r (T := M) k.toNat
          apply k_Model_line_113 hG
          rw [w32_1 (k := k) (by omega) (by omega)]
          refine ⟨fun w => absurd w (by omega), fun _ => ⟨fun w => absurd rfl w, fun _ => s_m_odd hT hRN' (s_m_has o4.1 (by omega) k0 (by omega) (fun b => es_t1 (s_entR a3 (by omega) (fun N2 b1 b2 b3 => ?_))) (fun b => es_t0 ?_))⟩⟩
          · rw [if_pos b] at ih
            exact ih N2 (fun c x1 x2 => by rw [b1 c x1 x2]; exact a1 c x1 x2) (fun j hj => by rw [b2 j hj]; exact a2 j hj) b3
          · rw [if_neg b] at ih; exact ih N' a1 a2 a3
    · intro k k0 k1 ih
      rw [lvN_s k0] at ih
      have srk := (hT.sr k0 k1).1
      obtain ⟨-, -, -, -, -, t1, t2, -⟩ := hT.st srk.1 srk.2
      have mv := (hT.mv k0 k1).1
      apply k_Model_line_24 hG
      rw [hR1 91 23 rfl, hv.2.2, hR1 106 _ rfl, mv, hR1 93 _ rfl, hR1 94 _ rfl, t1, t2, w32_1 (k := k) (by omega) (by omega)]
      exact ⟨fun w => absurd w (by omega), fun _ => ⟨by omega, by omega, by omega, by omega, ih⟩⟩
  exact s_tellLine hT (RepC.rf M) v1 (fun z M1 f1 f2 => md M1 _ _ f1 f2 (fun w => absurd w z) (fun _ => ⟨rfl, rfl⟩)) (fun z M1 f1 f2 => md M1 _ _ f1 f2 (fun _ => ⟨rfl, rfl⟩) (fun w => absurd z w))
end
