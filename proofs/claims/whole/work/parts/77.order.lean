/-! PAIRS OF CALLS: build, better. An order put in another's place; the search for a better one -/
theorem TI.work {M M' : es_M} (h : TI M) (e : Fr wk M M') (hs : SI M' 14 (mvN M')) : TI M' := by
  obtain ⟨h1, h2, h3, h4, h5⟩ := h
  have c13 : ∀ c, 1 ≤ c ∧ c ≤ 13 → M' c = M c := wk_tow e
  refine ⟨h1.congr (fun c hc => ?_) (e 91 3 rfl) (e 91 23 rfl), hs, h3.congr c13 (fun c hc => ?_) (e.cell 137 fun _ => rfl) (e.cell 138 fun _ => rfl), h4.congr (e 55 1 rfl) (e 91 16 rfl) (e.cell 56 fun _ => rfl) (e.cell 103 fun _ => rfl), fun i a b => by rw [e 109 i rfl]; exact h5 i a b⟩
  · rcases hc with hc | hc | hc | hc
    · exact c13 c hc
    · rcases (show c = 93 ∨ c = 94 ∨ c = 95 ∨ c = 96 ∨ c = 97 by omega) with rfl | rfl | rfl | rfl | rfl <;> exact e.cell _ fun _ => rfl
    · subst hc; exact e.cell _ fun _ => rfl
    · rcases (show c = 106 ∨ c = 107 ∨ c = 108 by omega) with rfl | rfl | rfl <;> exact e.cell _ fun _ => rfl
  · refine e.cell c fun j => ?_
    unfold wk
    have z : ∀ k : Nat, 54 < k → Nat.beq c k = false := fun k hk => by rw [← Bool.not_eq_true, Nat.beq_eq]; omega
    have z1 : Nat.ble c 23 = false := by rw [← Bool.not_eq_true, Nat.ble_eq]; omega
    simp [z1, z 98 (by decide), z 99 (by decide), z 100 (by decide), z 102 (by decide), z 112 (by decide), z 113 (by decide), z 120 (by decide), z 121 (by decide), z 125 (by decide), z 126 (by decide), z 60 (by decide), z 91 (by decide)]
def odW (c : Nat) (j : Int) : Bool := Nat.beq c 17 || Nat.beq c 125 || Nat.beq c 126 || (Nat.beq c 14 && decide (j = 2)) || (Nat.beq c 91 && decide (j = 47))
theorem odW_wk {c : Nat} {j : Int} (h : wk c j = false) : odW c j = false := by
  cases q : odW c j
  · rfl
  · exfalso
    unfold odW at q
    simp only [Bool.or_eq_true, Bool.and_eq_true, decide_eq_true_eq, Nat.beq_eq] at q
    rcases q with (((q | q) | q) | ⟨q, _⟩) | ⟨q, q2⟩
    · subst q; cases h
    · subst q; cases h
    · subst q; cases h
    · subst q; cases h
    · subst q; subst q2; cases h
/-- an order that can stand -/
def Val (T : es_M) (n : Int) (o : Int → Int) : Prop := (∀ i, 0 ≤ i → i < n → (0 ≤ o i ∧ o i < 2 * T 1 1) ∧ canDo T (o i)) ∧ ∀ i j, 0 ≤ i → i < n → 0 ≤ j → j < n → o i / 2 = o j / 2 → i = j
theorem Val.cd {T : es_M} {n : Int} {o : Int → Int} (h : Val T n o) : Cd T n o := fun i i0 i1 => (h.1 i i0 i1).1
theorem TI.val {T : es_M} (h : TI T) : Val T (T 14 2) (T 17) := ⟨fun i i0 i1 => ⟨(h.or i0 i1).1, (h.or i0 i1).2.2.2⟩, fun i j i0 i1 j0 j1 e => h.oi i0 i1 j0 j1 e⟩
theorem TI.ord {T T' : es_M} (h : TI T) (e : Fr odW T T') (n0 : 0 ≤ T' 14 2 ∧ T' 14 2 ≤ 10 ∧ T' 91 47 = T' 14 2) (ho : Val T (T' 14 2) (T' 17)) (hm : ∀ i, 0 ≤ i → i < T' 14 2 → T' 125 i = T' 17 i / 2 ∧ T' 126 i = T' 17 i % 2) : TI T' := by
  have ew : Fr wk T T' := e.mono (fun c j => odW_wk)
  have tw := wk_tow ew
  refine h.work ew ?_
  obtain ⟨h1, h2, h3, h4, h5, h6, h7, h8, h9⟩ := h.S
  have e14 : ∀ j, j ≠ 2 → T' 14 j = T 14 j := fun j hj => e 14 j (by unfold odW; simp [hj]; decide)
  have e91 : ∀ j, j ≠ 47 → T' 91 j = T 91 j := fun j hj => e 91 j (by unfold odW; simp [hj]; decide)
  have ec : ∀ c, c ≠ 17 → c ≠ 125 → c ≠ 126 → c ≠ 14 → c ≠ 91 → T' c = T c := fun c c1 c2 c3 c4 c5 => funext fun j => e c j (by
    unfold odW
    have z : ∀ k : Nat, c ≠ k → Nat.beq c k = false := fun k hk => by rw [← Bool.not_eq_true, Nat.beq_eq]; exact hk
    simp [z _ c1, z _ c2, z _ c3, z _ c4, z _ c5])
  refine ⟨?_, ?_, ?_, ?_, ⟨fun i i0 i1 => ?_, fun i j i0 i1 j0 j1 => ?_⟩, ?_, ?_, ?_, ?_⟩
  · unfold SIsc mvN at h1 ⊢
    simp only [e14 1 (by decide), e14 3 (by decide), e14 5 (by decide), e91 41 (by decide), e91 30 (by decide), e91 13 (by decide)]
    exact ⟨h1.1, n0, h1.2.2⟩
  · unfold mvN at h2 ⊢
    simp only [ec 98 (by decide) (by decide) (by decide) (by decide) (by decide), e14 4 (by decide), tw 1 (by decide)]
    exact h2
  · unfold mvN at h3 ⊢
    simp only [ec 120 (by decide) (by decide) (by decide) (by decide) (by decide), e14 1 (by decide), ec (14 + 1) (by decide) (by decide) (by decide) (by decide) (by decide)]
    exact h3
  · have := h4.congr tw
    simp only [e14 1 (by decide), ec (14 + 1) (by decide) (by decide) (by decide) (by decide) (by decide), ec (14 + 2) (by decide) (by decide) (by decide) (by decide) (by decide)]
    exact this
  · have ecn := canDo_congr (tw 4 (by decide)) (tw 5 (by decide)) (tw 10 (by decide)) (tw 13 (by decide))
    have a := ho.1 i i0 i1
    have b := hm i i0 i1
    rw [ecn, tw 1 (by decide)]
    exact ⟨a.1, b.1, b.2, a.2⟩
  · exact ho.2 i j i0 i1 j0 j1
  · unfold mvN at h6 ⊢
    simp only [ec 112 (by decide) (by decide) (by decide) (by decide) (by decide), ec 113 (by decide) (by decide) (by decide) (by decide) (by decide), e14 3 (by decide), ec (14 + 4) (by decide) (by decide) (by decide) (by decide) (by decide), ec (14 + 5) (by decide) (by decide) (by decide) (by decide) (by decide)]
    exact h6
  · unfold mvN at h7 ⊢
    simp only [ec 121 (by decide) (by decide) (by decide) (by decide) (by decide), ec (14 + 6) (by decide) (by decide) (by decide) (by decide) (by decide)]
    exact h7
  · unfold mvN at h8 ⊢
    simp only [ec 99 (by decide) (by decide) (by decide) (by decide) (by decide), ec 100 (by decide) (by decide) (by decide) (by decide) (by decide), ec (14 + 7) (by decide) (by decide) (by decide) (by decide) (by decide), ec (14 + 8) (by decide) (by decide) (by decide) (by decide) (by decide)]
    exact h8
  · unfold mvN at h9 ⊢
    simp only [ec 102 (by decide) (by decide) (by decide) (by decide) (by decide), ec (14 + 9) (by decide) (by decide) (by decide) (by decide) (by decide)]
    exact h9
/-! what a search holds: the least minutes, and an order that has them -/
abbrev SS : Type := Int × (Int → Int)
def nrm (n : Int) (t : Int → Int) (i : Int) : Int := if 0 ≤ i ∧ i < n then t i else 0
theorem nrm_i {n : Int} {t : Int → Int} {i : Int} (i0 : 0 ≤ i) (i1 : i < n) : nrm n t i = t i := if_pos ⟨i0, i1⟩
theorem nrm_c {n : Int} {t t' : Int → Int} (h : ∀ i, 0 ≤ i → i < n → t i = t' i) : nrm n t = nrm n t' := by
  funext i
  unfold nrm
  split
  · exact h i (by omega) (by omega)
  · rfl
def cns (T : es_M) (n : Int) (t : Int → Int) (s : SS) : SS := if moF T t n < s.1 then (moF T t n, nrm n t) else s
theorem cns_c {T : es_M} {n : Int} {t t' : Int → Int} (n0 : 0 < n) (h : ∀ i, 0 ≤ i → i < n → t i = t' i) : cns T n t = cns T n t' := by
  funext s
  unfold cns
  rw [moF_congr n0 h, nrm_c h]
def RC (b n : Int) (s : SS) (M : es_M) : Prop := M 84 6 = s.1 ∧ s.1 ≤ b ∧ (s.1 < b → ∀ i, 0 ≤ i → i < n → M 86 i = s.2 i)
def RM (b n : Int) (s : SS) (M : es_M) : Prop := M 91 57 = s.1 ∧ s.1 ≤ b ∧ (s.1 < b → ∀ i, 0 ≤ i → i < n → M 132 i = s.2 i / 2 ∧ M 133 i = s.2 i % 2)
section
variable {d : Nat} {Q : Int → es_M → Prop} {T M : es_M}
theorem s_consider (hT : TI T) (hR : RepC T M) (hL : ∀ p q, isP T p → isP T q → M 61 (p * 36 + q) = wyF T p q) {t : Int → Int} {b n : Int} {s : SS} (n0 : 0 < n) (n1 : n ≤ 10) (ht : Cd T n t) (hM : ∀ i, 0 ≤ i → i < n → M 85 i = t i) (hr : RC b n s M) (h : ∀ M', (∀ c, c ≠ 84 → c ≠ 86 → M' c = M c) → (∀ j, j ≠ 6 → M' 84 j = M 84 j) → RC b n (cns T n t s) M' → Q 0 M') : es_Call (d + 4) 153 [.inr (.inr 84), .inl n] M Q := by
  apply c_Orders_consider
  refine s_minutesOf_85 hT hR hL n0 n1 ht hM ?_
  rw [hr.1]
  refine ⟨fun z => h M (fun _ _ _ => rfl) (fun _ _ => rfl) ?_, fun z => ⟨by omega, h _ (fun c c1 c2 => by rw [es_cpy_o c c2, es_upd_o c c1]) (fun j hj => by rw [es_cpy_o 84 (by decide), es_upd_j hj]) ?_⟩⟩
  · unfold cns; rw [if_neg (by omega)]; exact hr
  · unfold cns
    rw [if_pos (by omega)]
    refine ⟨by rw [es_cpy_o 84 (by decide), es_upd_s], by have := hr.2.1; show moF T t n ≤ b; omega, fun _ i i0 i1 => ?_⟩
    unfold es_cpy
    rw [if_pos ⟨rfl, by omega, by omega⟩, es_upd_n (by decide), show 0 + (i - 0) = i by omega, hM i i0 i1]
    exact (nrm_i i0 i1).symm
theorem s_m_tries (hT : TI T) (hR : RepM T M) (hL : ∀ p q, isP T p → isP T q → goes T p → M 127 (p * 36 + q) = wyF T p q) {t : Int → Int} {b n : Int} {s : SS} (n0 : 0 < n) (n1 : n ≤ 10) (ht : Cd T n t) (hM : ∀ i, 0 ≤ i → i < n → M 128 i = t i / 2 ∧ M 129 i = t i % 2) (hr : RM b n s M) (h : ∀ M', (∀ c, c ≠ 91 → c ≠ 132 → c ≠ 133 → M' c = M c) → (∀ j, j ≠ 57 → M' 91 j = M 91 j) → RM b n (cns T n t s) M' → Q 0 M') : es_Call (d + 5) 259 [.inr (.inr 91), .inl n] M Q := by
  apply m_Model_tries
  intro G hG
  apply k_Model_tries_0 hG
  refine s_m_minutesOf_128 hT hR hL n0 n1 ht hM ?_
  rw [hr.1]
  refine ⟨fun z => ?_, fun z => h M (fun _ _ _ _ => rfl) (fun _ _ => rfl) (by unfold cns; rw [if_neg z]; exact hr)⟩
  have ec : cns T n t s = (moF T t n, nrm n t) := by unfold cns; rw [if_pos z]
  refine es_up (P := fun k => ∀ M', (∀ c, c ≠ 91 → c ≠ 132 → c ≠ 133 → M' c = M c) → (∀ j, j ≠ 57 → M' 91 j = M 91 j) → M' 91 57 = moF T t n → (∀ i, 0 ≤ i → i < k → M' 132 i = t i / 2 ∧ M' 133 i = t i % 2) → G 30 [lr 91, li n, none, li k] [] M') (n := n) (by omega) ?_ ?_ _ (fun c c1 _ _ => es_upd_o c c1) (fun j hj => es_upd_j hj) es_upd_s (fun i i0 i1 => absurd i1 (by omega))
  · intro M' f1 f2 f3 f4
    apply k_Model_tries_30 hG
    refine ⟨fun _ => h M' f1 f2 ?_, fun z => absurd (Int.le_refl _) z⟩
    rw [ec]
    exact ⟨f3, by have := hr.2.1; show moF T t n ≤ b; omega, fun _ i i0 i1 => by show M' 132 i = nrm n t i / 2 ∧ M' 133 i = nrm n t i % 2; rw [nrm_i i0 i1]; exact f4 i i0 i1⟩
  · intro k k0 k1 ih M' f1 f2 f3 f4
    apply k_Model_tries_30 hG
    have m := hM k k0 k1
    have e128 : M' 128 = M 128 := f1 128 (by decide) (by decide) (by decide)
    have e129 : M' 129 = M 129 := f1 129 (by decide) (by decide) (by decide)
    rw [es_upd_n (c := 132) (c' := 129) (by decide), e128, e129, m.1, m.2, w32_1 (by omega) (by omega)]
    refine ⟨fun z => absurd z (by omega), fun _ => ⟨by omega, by omega, by omega, by omega, by omega, ih _ (fun c c1 c2 c3 => by rw [es_upd_o c c3, es_upd_o c c2]; exact f1 c c1 c2 c3) (fun j hj => by rw [es_upd_n (by decide), es_upd_n (by decide)]; exact f2 j hj) (by rw [es_upd_n (by decide), es_upd_n (by decide)]; exact f3) (fun i i0 i1 => ?_)⟩⟩
    by_cases e : i = k
    · subst e
      rw [es_upd_n (by decide), es_upd_s, es_upd_s]
      exact ⟨rfl, rfl⟩
    · rw [es_upd_n (by decide), es_upd_j e, es_upd_j e, es_upd_n (by decide)]
      exact f4 i i0 (by omega)
end
