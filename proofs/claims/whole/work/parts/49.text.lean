/-! PAIRS OF CALLS: sign, end -/
def wt (c : Nat) (j : Int) : Bool := (Nat.beq c 55 && decide (j = 1)) || Nat.beq c 56 || Nat.beq c 103 || (Nat.beq c 91 && (decide (j = 0) || decide (j = 16)))
theorem Inv.text {M M' : es_M} (h : Inv M) (e : Fr wt M M') (ht : TItext M') : Inv M' := by
  obtain ⟨⟨h1, h2, h3, h4, h5⟩, hr, hc⟩ := h
  have c54 : ∀ c, c ≤ 54 → M' c = M c := by
    intro c hc
    refine e.cell c fun j => ?_
    unfold wt
    have z : ∀ k : Nat, 54 < k → Nat.beq c k = false := fun k hk => by rw [← Bool.not_eq_true, Nat.beq_eq]; omega
    simp [z 55 (by decide), z 56 (by decide), z 103 (by decide), z 91 (by decide)]
  have tw : tow M M' := fun c hc => c54 c (by omega)
  refine ⟨⟨h1.congr (fun c hc => ?_) (e 91 3 rfl) (e 91 23 rfl), h2.congr tw (fun i hi => c54 _ (by omega)) ?_, h3.congr tw (fun c hc => c54 c (by omega)) (e.cell 137 fun _ => rfl) (e.cell 138 fun _ => rfl), ht, fun i a b => by rw [e 109 i rfl]; exact h5 i a b⟩, ?_, ?_⟩
  · rcases hc with hc | hc | hc | hc
    · exact c54 c (by omega)
    · rcases (show c = 93 ∨ c = 94 ∨ c = 95 ∨ c = 96 ∨ c = 97 by omega) with rfl | rfl | rfl | rfl | rfl <;> exact e.cell _ fun _ => rfl
    · subst hc; exact e.cell _ fun _ => rfl
    · rcases (show c = 106 ∨ c = 107 ∨ c = 108 by omega) with rfl | rfl | rfl <;> exact e.cell _ fun _ => rfl
  · funext k j
    unfold mvN
    rw [e 91 41 rfl, e 91 47 rfl, e 91 30 rfl, e 91 13 rfl, e 120 j rfl, e 125 j rfl, e 126 j rfl, e 112 j rfl, e 113 j rfl, e 98 j rfl, e 99 j rfl, e 100 j rfl, e 121 j rfl, e 102 j rfl]
  · unfold RowEq at hr ⊢
    rw [e.cell 58 fun _ => rfl, e.cell 59 fun _ => rfl, e 91 1 rfl, e.cell 92 fun _ => rfl]
    exact hr
  · exact hc.congr (stp_congr (c54 2 (by omega)) (c54 3 (by omega)) (c54 4 (by omega)) (c54 5 (by omega)) (c54 9 (by omega)) (c54 14 (by omega))) (c54 1 (by omega)) (e 60 5 rfl) (e.cell 61 fun _ => rfl) (e.cell 62 fun _ => rfl) (e.cell 63 fun _ => rfl)
theorem es_255 (x : Int) : 0 ≤ es_and x 255 ∧ es_and x 255 ≤ 255 := by
  unfold es_and
  rw [pk_and (Int32.ofInt x) (m := Int32.ofInt 255) 8 (by decide), nI_toInt (by omega)]
  omega
/-- the sign k of an int -/
def sg (v k : Int) : Int := es_and (es_shr v (24 - 8 * k)) 255
section
variable {d : Nat} {M : es_M} {Q : Int → es_M → Prop}
theorem s_take {v : Int} (n0 : 0 ≤ M 55 1) (n1 : M 55 1 + 4 ≤ 100) (h : ∀ M', Fr wt M M' → (∀ c, 91 ≤ c → M' c = M c) → M' 55 1 = M 55 1 + 4 → (∀ j, 0 ≤ j → j < 4 → M' 56 (M 55 1 + j) = sg v j) → (∀ j, j < M 55 1 → M' 56 j = M 56 j) → Q (M 55 1 + 4) M') : es_Call (d + 1) 73 [.inr (.inr 55), .inl v] M Q := by
  apply m_Reader_take
  intro G hG
  apply k_Reader_take_0 hG
  rw [show w32 (M 55 1 + 4) = M 55 1 + 4 from by unfold w32; omega]
  refine ⟨fun _ => ?_, fun z => absurd n1 z⟩
  have key : ∀ (r : Nat) (k : Int) (M' : es_M), 0 ≤ k → k + r = 4 → Fr wt M M' → (∀ c, 91 ≤ c → M' c = M c) → M' 55 1 = M 55 1 + k → (∀ j, 0 ≤ j → j < k → M' 56 (M 55 1 + j) = sg v j) → (∀ j, j < M 55 1 → M' 56 j = M 56 j) → G 16 [lr 55, li v, li (24 - 8 * k)] [] M' := by
    intro r
    induction r with
    | zero =>
      intro k M' k0 kr f1 f2 f3 f4 f5
      apply k_Reader_take_16 hG
      refine ⟨fun _ => ?_, fun z => absurd (by omega) z⟩
      have hk : k = 4 := by omega
      subst hk
      rw [f3]
      exact h M' f1 f2 f3 f4 f5
    | succ r ih =>
      intro k M' k0 kr f1 f2 f3 f4 f5
      apply k_Reader_take_16 hG
      refine ⟨fun z => absurd z (by omega), fun _ => ⟨by omega, ?_⟩⟩
      rw [es_upd_n (c := 56) (by decide), f3, show w32 (M 55 1 + k + 1) = M 55 1 + (k + 1) from by unfold w32; omega, show w32 (24 - 8 * k + -8) = 24 - 8 * (k + 1) from by unfold w32; omega]
      refine ih (k + 1) _ (by omega) (by omega) ((f1.upd rfl).upd rfl) (fun c hc => ?_) es_upd_s (fun j j0 j1 => ?_) (fun j hj => ?_)
      · rw [es_upd_o c (by omega), es_upd_o c (by omega), f2 c hc]
      · rw [es_upd_n (by decide), es_upd_c]
        by_cases e : j = k
        · subst e; rw [if_pos rfl]; rfl
        · rw [if_neg (by omega), f4 j j0 (by omega)]
      · rw [es_upd_n (by decide), es_upd_c, if_neg (by omega), f5 j hj]
  exact key 4 0 M (by omega) (by omega) Fr.rf (fun _ _ => rfl) (by omega) (fun j j0 j1 => by omega) (fun _ _ => rfl)
theorem s_m_sign {v : Int} (n0 : 0 ≤ M 91 16) (n1 : M 91 16 + 4 ≤ 100) (h : ∀ M', Fr wt M M' → (∀ c, c < 91 → M' c = M c) → M' 91 16 = M 91 16 + 4 → (∀ j, 0 ≤ j → j < 4 → M' 103 (M 91 16 + j) = sg v j) → (∀ j, j < M 91 16 → M' 103 j = M 103 j) → Q (M 91 16 + 4) M') : es_Call (d + 1) 170 [.inr (.inr 91), .inl v] M Q := by
  apply m_Model_sign
  intro G hG
  apply k_Model_sign_0 hG
  rw [es_upd_j (by decide)]
  refine ⟨fun _ => ?_, fun z => absurd (by omega) z⟩
  have key : ∀ (r : Nat) (k : Int) (M' : es_M), 0 ≤ k → k + r = 4 → Fr wt M M' → (∀ c, c < 91 → M' c = M c) → M' 91 16 = M 91 16 → (∀ j, 0 ≤ j → j < k → M' 103 (M 91 16 + j) = sg v j) → (∀ j, j < M 91 16 → M' 103 j = M 103 j) → G 18 [lr 91, li v, li k] [] M' := by
    intro r
    induction r with
    | zero =>
      intro k M' k0 kr f1 f2 f3 f4 f5
      apply k_Model_sign_18 hG
      refine ⟨fun _ => ?_, fun z => absurd (by omega) z⟩
      have hk : k = 4 := by omega
      subst hk
      rw [es_upd_s, f3, show w32 (M 91 16 + 4) = M 91 16 + 4 from by unfold w32; omega]
      exact h _ (f1.upd rfl) (fun c hc => by rw [es_upd_o c (by omega), f2 c hc]) es_upd_s (fun j j0 j1 => by rw [es_upd_n (by decide)]; exact f4 j j0 j1) (fun j hj => by rw [es_upd_n (by decide)]; exact f5 j hj)
    | succ r ih =>
      intro k M' k0 kr f1 f2 f3 f4 f5
      apply k_Model_sign_18 hG
      refine ⟨fun z => absurd z (by omega), fun _ => ?_⟩
      rw [f3, show w32 (M 91 16 + k) = M 91 16 + k from by unfold w32; omega, show w32 (24 - w32 (8 * k)) = 24 - 8 * k from by unfold w32; omega, show w32 (k + 1) = k + 1 from by unfold w32; omega]
      refine ⟨by omega, ih (k + 1) _ (by omega) (by omega) (f1.upd rfl) (fun c hc => by rw [es_upd_o c (by omega), f2 c hc]) (by rw [es_upd_n (by decide)]; exact f3) (fun j j0 j1 => ?_) (fun j hj => ?_)⟩
      · rw [es_upd_c]
        by_cases e : j = k
        · subst e; rw [if_pos rfl]; rfl
        · rw [if_neg (by omega), f4 j j0 (by omega)]
      · rw [es_upd_c, if_neg (by omega), f5 j hj]
  exact key 4 0 _ (by omega) (by omega) (Fr.rf.upd rfl) (fun c hc => es_upd_o c (by omega)) (es_upd_j (by decide)) (fun j j0 j1 => by omega) (fun _ _ => es_upd_n (by decide))
theorem P_sign (h : Inv M) {v : Int} : Pair (d + 20) 0 170 [.inl v] M := by
  have hx := h.1.X
  obtain ⟨⟨x0, x1, x2⟩, x3⟩ := hx
  apply c_EveryStreet_sign
  by_cases q : M 55 1 + 4 ≤ 100
  · refine s_take x0 q (fun M1 f1 f2 f3 f4 f5 => ?_)
    have e16 : M1 91 16 = M 55 1 := by rw [f2 91 (by decide), x2]
    refine s_m_sign (by omega) (by omega) (fun M2 g1 g2 g3 g4 g5 => ⟨by omega, ?_⟩)
    refine h.text (f1.trans g1) ⟨⟨?_, ?_, ?_⟩, fun i i0 i1 => ?_⟩
    · rw [g2 55 (by decide)]; omega
    · rw [g2 55 (by decide)]; omega
    · rw [g2 55 (by decide)]; omega
    · rw [g2 55 (by decide), f3] at i1
      rw [g2 56 (by decide)]
      by_cases z : i < M 55 1
      · rw [g5 i (by omega), f2 103 (by decide), f5 i z]
        exact x3 i i0 z
      · have e1 := f4 (i - M 55 1) (by omega) (by omega)
        have e2 := g4 (i - M 55 1) (by omega) (by omega)
        rw [show M 55 1 + (i - M 55 1) = i by omega] at e1
        rw [e16, show M 55 1 + (i - M 55 1) = i by omega] at e2
        rw [e1, e2]
        exact ⟨rfl, es_255 _⟩
  · apply m_Reader_take
    intro G hG
    apply k_Reader_take_0 hG
    rw [show w32 (M 55 1 + 4) = M 55 1 + 4 from by unfold w32; omega]
    refine ⟨fun z => absurd z q, fun _ => ?_⟩
    apply m_Model_sign
    intro G2 hG2
    apply k_Model_sign_0 hG2
    rw [es_upd_j (by decide), x2]
    exact ⟨fun z => absurd z (by omega), fun _ => ⟨rfl, h.th⟩⟩
theorem P_end (h : Inv M) {n : Int} : Pair (d + 20) 1 171 [.inl n] M := by
  obtain ⟨⟨x0, x1, x2⟩, x3⟩ := h.1.X
  apply c_EveryStreet_end
  apply c_Reader_cutTo
  have no : ¬ (0 ≤ n ∧ n ≤ M 55 1) → es_Call (d + 20) 171 [.inr (.inr 91), .inl n] M (fun y' M2 => y' = 0 ∧ Inv M2) := by
    intro q
    apply c_Model_end
    rw [rd1 (by decide), x2]
    exact s_m_in (fun q1 q2 => absurd ⟨q1, q2⟩ q) (fun _ => es_f0 ⟨es_b0, rfl, h.th⟩)
  refine ⟨fun q => ⟨es_b0, es_b0, no (by omega)⟩, fun q => ⟨fun q2 => ⟨es_b1, es_b1, ?_⟩, fun q2 => ⟨es_b0, es_b0, no (by omega)⟩⟩⟩
  apply c_Model_end
  have e16 : es_upd (es_upd M 55 1 n) 91 0 0 91 16 = M 55 1 := by simp [es_upd]; exact x2
  rw [e16]
  refine s_m_in (fun _ _ => es_f1 ⟨es_b1, rfl, ?_⟩) (fun q3 => absurd ⟨by omega, q2⟩ q3)
  refine h.text (((Fr.rf.upd rfl).upd rfl).upd rfl) ⟨?_, fun i i0 i1 => ?_⟩
  · simp [es_upd]; omega
  · have i1 : i < n := by simpa [es_upd] using i1
    have := x3 i i0 (by omega)
    simpa [es_upd] using this
end
