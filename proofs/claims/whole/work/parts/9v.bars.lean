/-! PAIRS OF CALLS: bars (2). A town whose bars at a corner are taken away -/
abbrev atF (c j : Int) : Prop := (0 ≤ j ∧ j < 1728) ∧ j / 12 % 12 = c
def Tf (T : es_M) (c : Int) : es_M := fun k j => if k = 9 ∧ atF c j ∧ T 9 j = -1 then 0 else if k = 101 ∧ atF c j ∧ T 101 j = -2 then 0 else T k j
theorem Tf_o {T : es_M} {c : Int} {k : Nat} (h1 : k ≠ 9) (h2 : k ≠ 101) : Tf T c k = T k := by
  funext j
  unfold Tf
  rw [if_neg (fun z => h1 z.1), if_neg (fun z => h2 z.1)]
theorem Tf_9 {T : es_M} {c j : Int} : Tf T c 9 j = if atF c j ∧ T 9 j = -1 then 0 else T 9 j := by
  unfold Tf
  by_cases q : atF c j ∧ T 9 j = -1
  · rw [if_pos ⟨rfl, q⟩, if_pos q]
  · rw [if_neg (fun z => q z.2), if_neg (fun z => absurd z.1 (by decide)), if_neg q]
theorem Tf_101 {T : es_M} {c j : Int} : Tf T c 101 j = if atF c j ∧ T 101 j = -2 then 0 else T 101 j := by
  unfold Tf
  rw [if_neg (fun z => absurd z.1 (by decide))]
  by_cases q : atF c j ∧ T 101 j = -2
  · rw [if_pos ⟨rfl, q⟩, if_pos q]
  · rw [if_neg (fun z => q z.2), if_neg q]
theorem Tf_turns {T : es_M} {c : Int} : turnsN (Tf T c) = turnsN T := by
  funext k
  induction k with
  | zero => rfl
  | succ k ih =>
    show turnsN (Tf T c) k + (if Tf T c 101 k = -1 then 0 else 1) = turnsN T k + (if T 101 k = -1 then 0 else 1)
    rw [ih, Tf_101]
    by_cases q : atF c k ∧ T 101 k = -2
    · rw [if_pos q, if_neg (by decide), if_neg (by rw [q.2]; decide)]
    · rw [if_neg q]
theorem SIhp.congr3 {M M' : es_M} (e : ∀ k, k ≠ 9 → k ≠ 101 → M' k = M k) {n : Int} {h p : Int → Int} (q : SIhp M n h p) : SIhp M' n h p := by
  unfold SIhp at q ⊢
  rw [og_congr (e 2 (by decide) (by decide)) (e 3 (by decide) (by decide)), gl_congr (e 2 (by decide) (by decide)) (e 3 (by decide) (by decide)), ln_congr (e 4 (by decide) (by decide)) (e 5 (by decide) (by decide)), e 1 (by decide) (by decide)]
  exact q
theorem SIor.congr3 {M M' : es_M} (e : ∀ k, k ≠ 9 → k ≠ 101 → M' k = M k) {n : Int} {o g2 g3 : Int → Int} (q : SIor M n o g2 g3) : SIor M' n o g2 g3 := by
  unfold SIor at q ⊢
  rw [canDo_congr (e 4 (by decide) (by decide)) (e 5 (by decide) (by decide)) (e 10 (by decide) (by decide)) (e 13 (by decide) (by decide)), e 1 (by decide) (by decide)]
  exact q
theorem SI.congr3 {M M' : es_M} (e : ∀ k, k ≠ 9 → k ≠ 101 → M' k = M k) {c : Nat} (c0 : 9 < c) (c1 : c < 90) {mv mv' : Nat → Int → Int} (h : SI M c mv) (em : mv' = mv) : SI M' c mv' := by
  obtain ⟨h1, h2, h3, h4, h5, h6, h7, h8, h9⟩ := h
  unfold SI
  rw [e c (by omega) (by omega), e (c + 1) (by omega) (by omega), e (c + 2) (by omega) (by omega), e (c + 3) (by omega) (by omega), e (c + 4) (by omega) (by omega), e (c + 5) (by omega) (by omega), e (c + 6) (by omega) (by omega), e (c + 7) (by omega) (by omega), e (c + 8) (by omega) (by omega), e (c + 9) (by omega) (by omega), em, e 1 (by decide) (by decide)]
  exact ⟨h1, h2, h3, h4.congr3 e, h5.congr3 e, h6, h7, h8, h9⟩
theorem Tf_TI {T : es_M} (hT : TI T) {c : Int} : TI (Tf T c) := by
  have e : ∀ k, k ≠ 9 → k ≠ 101 → Tf T c k = T k := fun k h1 h2 => Tf_o h1 h2
  obtain ⟨h1, h2, h3, h4, h5⟩ := hT
  have mv : mvN (Tf T c) = mvN T := by
    funext k j
    unfold mvN
    rw [e 91 (by decide) (by decide), e 120 (by decide) (by decide), e 125 (by decide) (by decide), e 126 (by decide) (by decide), e 112 (by decide) (by decide), e 113 (by decide) (by decide), e 98 (by decide) (by decide), e 99 (by decide) (by decide), e 100 (by decide) (by decide), e 121 (by decide) (by decide), e 102 (by decide) (by decide)]
  refine ⟨?_, h2.congr3 e (by decide) (by decide) mv, fun i hi => ?_, h4.congr (by rw [e 55 (by decide) (by decide)]) (by rw [e 91 (by decide) (by decide)]) (e 56 (by decide) (by decide)) (e 103 (by decide) (by decide)), fun i a b => by rw [e 109 (by decide) (by decide)]; exact h5 i a b⟩
  · have a6 := e 6 (by decide) (by decide)
    have a2 := e 2 (by decide) (by decide)
    have a3 := e 3 (by decide) (by decide)
    have a10 := e 10 (by decide) (by decide)
    unfold TItown TIst TIsv at h1 ⊢
    rw [e 1 (by decide) (by decide), a2, a3, e 4 (by decide) (by decide), e 5 (by decide) (by decide), a6, e 7 (by decide) (by decide), e 8 (by decide) (by decide), a10, e 11 (by decide) (by decide), e 12 (by decide) (by decide), e 13 (by decide) (by decide), e 93 (by decide) (by decide), e 94 (by decide) (by decide), e 95 (by decide) (by decide), e 96 (by decide) (by decide), e 97 (by decide) (by decide), e 106 (by decide) (by decide), e 107 (by decide) (by decide), e 108 (by decide) (by decide), e 91 (by decide) (by decide), preS_congr a6, oddN_congr a2 a3 a10, Tf_turns]
    refine ⟨h1.1, h1.2.1, h1.2.2.1, h1.2.2.2.1, h1.2.2.2.2.1, fun k k0 k1 => ?_, h1.2.2.2.2.2.2⟩
    have t := h1.2.2.2.2.2.1 k k0 k1
    rw [Tf_9, Tf_101]
    by_cases q : atF c k
    · by_cases w : T 9 k = -1
      · have w2 : T 101 k = -2 := by omega
        rw [if_pos ⟨q, w⟩, if_pos ⟨q, w2⟩]
        exact Or.inr (Or.inr ⟨by decide, rfl⟩)
      · have w2 : ¬ T 101 k = -2 := by omega
        rw [if_neg (fun z => w z.2), if_neg (fun z => w2 z.2)]; exact t
    · rw [if_neg (fun z => q z.1), if_neg (fun z => q z.1)]; exact t
  · obtain ⟨k1, k2, k3⟩ := h3 i hi
    rw [e (25 + 10 * i) (by omega) (by omega), e 137 (by decide) (by decide)]
    exact ⟨k1, k2, fun z => (k3 z).congr3 e (by omega) (by omega) (mvK_congr (e 138 (by decide) (by decide)) _)⟩
/-- is there a round from a, the bars at c taken away -/
def rnd (T : es_M) (a : Int) : Prop := rmF T a a (allF T) 36 0 < 1000000
section
variable {d : Nat} {Q : Int → es_M → Prop} {T M : es_M}
theorem s_m_turnAt {a b c : Int} (a0 : 0 ≤ a ∧ a < 12) (b0 : 0 ≤ b ∧ b < 12) (c0 : 0 ≤ c ∧ c < 12) (h : Q ((a * 12 + b) * 12 + c) M) : es_Call (d + 1) 179 [.inl a, .inl b, .inl c] M Q := by
  apply c_Model_turnAt
  rw [w32_s (k := a * 12) (by omega) (by omega), w32_s (k := a * 12 + b) (by omega) (by omega), w32_s (k := (a * 12 + b) * 12) (by omega) (by omega), w32_s (k := (a * 12 + b) * 12 + c) (by omega) (by omega)]
  exact h
end
