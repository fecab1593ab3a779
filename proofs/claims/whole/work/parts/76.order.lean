/-! PAIRS OF CALLS: order (2) -/
theorem Inv.ref {M M' : es_M} (h : Inv M) (hR : Rep M M') (hr : RowEq M') (e0 : M' 60 5 = 0) (hl : ∀ p q, isP M p → isP M q → M' 61 (p * 36 + q) = wyF M p q) (hn : nextsOK M M') : Inv M' := h.ask hR hr ⟨Or.inl e0, fun _ => ⟨leastOK.of h.1 hl, hn⟩⟩
section
variable {d : Nat} {M : es_M}
theorem repm4 {M' : es_M} (h : ∀ c, c ≠ 60 → c ≠ 61 → c ≠ 62 → c ≠ 63 → M' c = M c) : RepM M (es_upd M' 91 0 0) := by
  intro c j q
  by_cases e : c = 91
  · subst e
    rw [es_upd_j (by rintro rfl; cases q), h 91 (by decide) (by decide) (by decide) (by decide)]
  · rw [es_upd_o c e, h c (by rintro rfl; cases q) (by rintro rfl; cases q) (by rintro rfl; cases q) (by rintro rfl; cases q)]
theorem repc4 {M' : es_M} (h : ∀ c, c ≠ 60 → c ≠ 61 → c ≠ 62 → c ≠ 63 → M' c = M c) : RepC M M' := by
  intro c j q
  rw [h c (by rintro rfl; cases q) (by rintro rfl; cases q) (by rintro rfl; cases q) (by rintro rfl; cases q)]
theorem P_order (h : Inv M) : Pair (d + 20) 37 254 [] M := by
  have hT := h.1
  have ho := hT.on
  have hv := hT.v
  apply c_EveryStreet_order
  refine ⟨fun z => c_Orders_minutesNow ?_, fun z => c_Model_order ⟨fun w => absurd ?_ w, fun _ => ⟨rfl, h.th⟩⟩⟩
  · refine s_refresh hT (RepC.rf M) h.2.2 (fun M1 f1 f2 f3 f4 f5 => ?_)
    have cd : Cd M (M 14 2) (M 17) := fun i i0 i1 => by have := (hT.or i0 i1).1; omega
    rw [f1 14 (by decide) (by decide) (by decide) (by decide)]
    refine s_minutesOf_17 (o := M 17) hT (repc4 f1) f4 (by omega) (by omega) cd (fun i i0 i1 => by rw [f1 17 (by decide) (by decide) (by decide) (by decide)]) ?_
    have mr := moF_r hT cd (by omega)
    have model : ∀ y, y = (if moF M (M 17) (M 14 2) < 1000000 then moF M (M 17) (M 14 2) else -2) → es_Call (d + 20) 254 [.inr (.inr 91)] M1 (fun y' M2 => y' = y ∧ Inv M2) := by
      intro y hy
      apply c_Model_order
      rw [es_upd_j (by decide), f1 91 (by decide) (by decide) (by decide) (by decide), ho.2.2]
      refine ⟨fun _ => s_m_joins hT (repm4 f1) (fun M2 g1 g2 => ?_), fun w => absurd w z⟩
      have hRm := rep127 (repm4 f1) g1
      rw [hRm 91 47 rfl, ho.2.2]
      refine s_m_minutesOf_125 (o := M 17) hT hRm g2 (by omega) (by omega) cd (fun i i0 i1 => ?_) ?_
      · have := hT.or i0 i1
        rw [hRm 125 _ rfl, hRm 126 _ rfl]
        exact ⟨this.2.1, this.2.2.1⟩
      · have e91 : ∀ j, j ≠ 0 → M2 91 j = M 91 j := fun j hj => by rw [g1 91 (by decide), es_upd_j hj, f1 91 (by decide) (by decide) (by decide) (by decide)]
        have eo : ∀ c, c ≠ 127 → c ≠ 91 → c ≠ 60 → c ≠ 61 → c ≠ 62 → c ≠ 63 → M2 c = M c := fun c c1 c2 c3 c4 c5 c6 => by rw [g1 c c1, es_upd_o c c2, f1 c c3 c4 c5 c6]
        have hI : Inv M2 := by
          refine h.ref (fun c j q => ?_) ?_ ?_ (fun p q hp hq => ?_) (fun p hp => ?_)
          · by_cases c1 : c = 91
            · subst c1; exact e91 j (by rintro rfl; cases q)
            · rw [eo c ?_ c1 ?_ ?_ ?_ ?_] <;> (rintro rfl; cases q)
          · have hr := h.2.1
            unfold RowEq at hr ⊢
            rw [eo 58 (by decide) (by decide) (by decide) (by decide) (by decide) (by decide), eo 59 (by decide) (by decide) (by decide) (by decide) (by decide) (by decide), eo 92 (by decide) (by decide) (by decide) (by decide) (by decide) (by decide), e91 1 (by decide)]
            exact hr
          · rw [g1 60 (by decide), es_upd_n (by decide), f3]
          · rw [g1 61 (by decide), es_upd_n (by decide), f4 p q hp hq]
          · have := f5 p hp
            rw [g1 62 (by decide), g1 63 (by decide), es_upd_o 62 (by decide), es_upd_o 63 (by decide)]
            exact this
        refine ⟨fun w => ⟨?_, hI⟩, fun w => ⟨?_, hI⟩⟩
        · rw [hy, if_pos w]
        · rw [hy, if_neg w]
    refine ⟨fun w => model _ ?_, fun w => model _ ?_⟩
    · rw [if_pos w]
    · rw [if_neg w]
  · rw [es_upd_j (by decide), ho.2.2]; exact z
end
