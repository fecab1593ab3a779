/-! PAIRS OF CALLS: keep, again -/
def ofk (k : Nat) (j : Int) : Int := match k with
  | 0 => j
  | 1 => 4 + j
  | 2 => 64 + 2 * j
  | 3 => 65 + 2 * j
  | 4 => 84 + 2 * j
  | 5 => 85 + 2 * j
  | 6 => 108 + 3 * j
  | 7 => 109 + 3 * j
  | 8 => 110 + 3 * j
  | 9 => 162 + j
  | _ => 186 + j
def lnk (k : Nat) : Int := match k with
  | 0 => 4
  | 1 => 60
  | 2 => 10
  | 3 => 10
  | 4 => 12
  | 5 => 12
  | 6 => 18
  | 7 => 18
  | 8 => 18
  | 9 => 24
  | _ => 144
abbrev inr (k : Nat) (j : Int) : Prop := k ≤ 10 ∧ 0 ≤ j ∧ j < lnk k
theorem cases10 {P : Nat → Prop} {k : Nat} (hk : k ≤ 10) (h0 : P 0) (h1 : P 1) (h2 : P 2) (h3 : P 3) (h4 : P 4) (h5 : P 5) (h6 : P 6) (h7 : P 7) (h8 : P 8) (h9 : P 9) (h10 : P 10) : P k := by
  rcases (show k = 0 ∨ k = 1 ∨ k = 2 ∨ k = 3 ∨ k = 4 ∨ k = 5 ∨ k = 6 ∨ k = 7 ∨ k = 8 ∨ k = 9 ∨ k = 10 by omega) with rfl | rfl | rfl | rfl | rfl | rfl | rfl | rfl | rfl | rfl | rfl <;> assumption
theorem mvK_of (T : es_M) (i : Int) (k : Nat) (j : Int) (hk : k ≤ 10) : mvK T i k j = T 138 (i * 400 + ofk k j) := cases10 (P := fun k => mvK T i k j = T 138 (i * 400 + ofk k j)) hk rfl rfl rfl rfl rfl rfl rfl rfl rfl rfl rfl
theorem ofk_r {k : Nat} {j : Int} (h : inr k j) : 0 ≤ ofk k j ∧ ofk k j < 330 := by
  obtain ⟨hk, h⟩ := h
  revert h
  refine cases10 (P := fun k => 0 ≤ j ∧ j < lnk k → 0 ≤ ofk k j ∧ ofk k j < 330) hk ?_ ?_ ?_ ?_ ?_ ?_ ?_ ?_ ?_ ?_ ?_ <;> (unfold lnk ofk; simp only; omega)
/-- the lane of an offset -/
def lane (o : Int) : Nat := if o < 4 then 0 else if o < 64 then 1 else if o < 84 then (if o % 2 = 0 then 2 else 3) else if o < 108 then (if o % 2 = 0 then 4 else 5) else if o < 162 then (if o % 3 = 0 then 6 else if o % 3 = 1 then 7 else 8) else if o < 186 then 9 else 10
theorem lane_of {k : Nat} {j : Int} (h : inr k j) : lane (ofk k j) = k := by
  obtain ⟨hk, h⟩ := h
  revert h
  refine cases10 (P := fun k => 0 ≤ j ∧ j < lnk k → lane (ofk k j) = k) hk ?_ ?_ ?_ ?_ ?_ ?_ ?_ ?_ ?_ ?_ ?_ <;> (unfold lnk ofk lane; simp only; intro h; repeat' split) <;> omega
theorem ofk_inj {k k' : Nat} {j j' : Int} (h : inr k j) (h' : inr k' j') (e : ofk k' j' = ofk k j) : k' = k ∧ j' = j := by
  have e1 : k' = k := by rw [← lane_of h, ← lane_of h', e]
  subst e1
  refine ⟨rfl, ?_⟩
  revert e
  refine cases10 (P := fun k => ofk k j' = ofk k j → j' = j) h.1 ?_ ?_ ?_ ?_ ?_ ?_ ?_ ?_ ?_ ?_ ?_ <;> (unfold ofk; simp only; omega)
def trF (x : Int) : Int := if x = 0 then 0 else 1
def pvF2 (M : es_M) (i b : Int) (k : Nat) (j : Int) : Int := if b = 0 then (if k = 3 ∨ k = 6 then trF (mvN M k j) else mvN M k j) else M 138 (i * 400 + ofk k j)
def nvF (k : Nat) (x : Int) : Int := if k = 3 ∨ k = 6 then (if x = 1 then 1 else 0) else x
def wp (c : Nat) (j : Int) : Bool := Nat.beq c 98 || Nat.beq c 99 || Nat.beq c 100 || Nat.beq c 102 || Nat.beq c 112 || Nat.beq c 113 || Nat.beq c 120 || Nat.beq c 121 || Nat.beq c 125 || Nat.beq c 126 || Nat.beq c 138 || (Nat.beq c 91 && (decide (j = 64) || decide (j = 13) || decide (j = 30) || decide (j = 41) || decide (j = 47)))
def Sv (M : es_M) (i b o1 o2 : Int) (M' : es_M) : Prop := M' 91 64 = o1 ∧ Fr wp M M' ∧ (∀ j, ¬ (i * 400 ≤ j ∧ j < i * 400 + 400) → M' 138 j = M 138 j) ∧
  ∀ k j, inr k j → (ofk k j < o1 → M' 138 (i * 400 + ofk k j) = pvF2 M i b k j) ∧ (o1 ≤ ofk k j → M' 138 (i * 400 + ofk k j) = M 138 (i * 400 + ofk k j)) ∧ (ofk k j < o2 → mvN M' k j = nvF k (pvF2 M i b k j)) ∧ (o2 ≤ ofk k j → mvN M' k j = mvN M k j)
theorem mvu_1 {M : es_M} {j v : Int} : ∀ (k' : Nat) (j' : Int), inr k' j' → mvN (es_upd M 120 j v) k' j' = if k' = 1 ∧ j' = j then v else mvN M k' j' := by
  intro k' j' hr
  refine cases10 (P := fun k' => mvN (es_upd M 120 j v) k' j' = if k' = 1 ∧ j' = j then v else mvN M k' j') hr.1 ?_ ?_ ?_ ?_ ?_ ?_ ?_ ?_ ?_ ?_ ?_ <;> simp [mvN, es_upd]
theorem mvu_2 {M : es_M} {j v : Int} : ∀ (k' : Nat) (j' : Int), inr k' j' → mvN (es_upd M 125 j v) k' j' = if k' = 2 ∧ j' = j then v else mvN M k' j' := by
  intro k' j' hr
  refine cases10 (P := fun k' => mvN (es_upd M 125 j v) k' j' = if k' = 2 ∧ j' = j then v else mvN M k' j') hr.1 ?_ ?_ ?_ ?_ ?_ ?_ ?_ ?_ ?_ ?_ ?_ <;> simp [mvN, es_upd]
theorem mvu_3 {M : es_M} {j v : Int} : ∀ (k' : Nat) (j' : Int), inr k' j' → mvN (es_upd M 126 j v) k' j' = if k' = 3 ∧ j' = j then v else mvN M k' j' := by
  intro k' j' hr
  refine cases10 (P := fun k' => mvN (es_upd M 126 j v) k' j' = if k' = 3 ∧ j' = j then v else mvN M k' j') hr.1 ?_ ?_ ?_ ?_ ?_ ?_ ?_ ?_ ?_ ?_ ?_ <;> simp [mvN, es_upd]
theorem mvu_4 {M : es_M} {j v : Int} : ∀ (k' : Nat) (j' : Int), inr k' j' → mvN (es_upd M 112 j v) k' j' = if k' = 4 ∧ j' = j then v else mvN M k' j' := by
  intro k' j' hr
  refine cases10 (P := fun k' => mvN (es_upd M 112 j v) k' j' = if k' = 4 ∧ j' = j then v else mvN M k' j') hr.1 ?_ ?_ ?_ ?_ ?_ ?_ ?_ ?_ ?_ ?_ ?_ <;> simp [mvN, es_upd]
theorem mvu_5 {M : es_M} {j v : Int} : ∀ (k' : Nat) (j' : Int), inr k' j' → mvN (es_upd M 113 j v) k' j' = if k' = 5 ∧ j' = j then v else mvN M k' j' := by
  intro k' j' hr
  refine cases10 (P := fun k' => mvN (es_upd M 113 j v) k' j' = if k' = 5 ∧ j' = j then v else mvN M k' j') hr.1 ?_ ?_ ?_ ?_ ?_ ?_ ?_ ?_ ?_ ?_ ?_ <;> simp [mvN, es_upd]
theorem mvu_6 {M : es_M} {j v : Int} : ∀ (k' : Nat) (j' : Int), inr k' j' → mvN (es_upd M 98 j v) k' j' = if k' = 6 ∧ j' = j then v else mvN M k' j' := by
  intro k' j' hr
  refine cases10 (P := fun k' => mvN (es_upd M 98 j v) k' j' = if k' = 6 ∧ j' = j then v else mvN M k' j') hr.1 ?_ ?_ ?_ ?_ ?_ ?_ ?_ ?_ ?_ ?_ ?_ <;> simp [mvN, es_upd]
theorem mvu_7 {M : es_M} {j v : Int} : ∀ (k' : Nat) (j' : Int), inr k' j' → mvN (es_upd M 99 j v) k' j' = if k' = 7 ∧ j' = j then v else mvN M k' j' := by
  intro k' j' hr
  refine cases10 (P := fun k' => mvN (es_upd M 99 j v) k' j' = if k' = 7 ∧ j' = j then v else mvN M k' j') hr.1 ?_ ?_ ?_ ?_ ?_ ?_ ?_ ?_ ?_ ?_ ?_ <;> simp [mvN, es_upd]
theorem mvu_8 {M : es_M} {j v : Int} : ∀ (k' : Nat) (j' : Int), inr k' j' → mvN (es_upd M 100 j v) k' j' = if k' = 8 ∧ j' = j then v else mvN M k' j' := by
  intro k' j' hr
  refine cases10 (P := fun k' => mvN (es_upd M 100 j v) k' j' = if k' = 8 ∧ j' = j then v else mvN M k' j') hr.1 ?_ ?_ ?_ ?_ ?_ ?_ ?_ ?_ ?_ ?_ ?_ <;> simp [mvN, es_upd]
theorem mvu_9 {M : es_M} {j v : Int} : ∀ (k' : Nat) (j' : Int), inr k' j' → mvN (es_upd M 121 j v) k' j' = if k' = 9 ∧ j' = j then v else mvN M k' j' := by
  intro k' j' hr
  refine cases10 (P := fun k' => mvN (es_upd M 121 j v) k' j' = if k' = 9 ∧ j' = j then v else mvN M k' j') hr.1 ?_ ?_ ?_ ?_ ?_ ?_ ?_ ?_ ?_ ?_ ?_ <;> simp [mvN, es_upd]
theorem mvu_10 {M : es_M} {j v : Int} : ∀ (k' : Nat) (j' : Int), inr k' j' → mvN (es_upd M 102 j v) k' j' = if k' = 10 ∧ j' = j then v else mvN M k' j' := by
  intro k' j' hr
  refine cases10 (P := fun k' => mvN (es_upd M 102 j v) k' j' = if k' = 10 ∧ j' = j then v else mvN M k' j') hr.1 ?_ ?_ ?_ ?_ ?_ ?_ ?_ ?_ ?_ ?_ ?_ <;> simp [mvN, es_upd]
theorem mvu_00 {M : es_M} {v : Int} : ∀ (k' : Nat) (j' : Int), inr k' j' → mvN (es_upd M 91 41 v) k' j' = if k' = 0 ∧ j' = 0 then v else mvN M k' j' := by
  intro k' j' hr
  by_cases z : k' = 0
  · subst z
    obtain ⟨-, h0, h1⟩ := hr
    have h1 : j' < 4 := h1
    rcases (show j' = 0 ∨ j' = 1 ∨ j' = 2 ∨ j' = 3 by omega) with rfl | rfl | rfl | rfl <;> simp [mvN, es_upd]
  · rw [if_neg fun w => z w.1]
    revert z
    refine cases10 (P := fun k' => ¬ k' = 0 → mvN (es_upd M 91 41 v) k' j' = mvN M k' j') hr.1 ?_ ?_ ?_ ?_ ?_ ?_ ?_ ?_ ?_ ?_ ?_ <;> simp [mvN, es_upd]
theorem mvu_01 {M : es_M} {v : Int} : ∀ (k' : Nat) (j' : Int), inr k' j' → mvN (es_upd M 91 47 v) k' j' = if k' = 0 ∧ j' = 1 then v else mvN M k' j' := by
  intro k' j' hr
  by_cases z : k' = 0
  · subst z
    obtain ⟨-, h0, h1⟩ := hr
    have h1 : j' < 4 := h1
    rcases (show j' = 0 ∨ j' = 1 ∨ j' = 2 ∨ j' = 3 by omega) with rfl | rfl | rfl | rfl <;> simp [mvN, es_upd]
  · rw [if_neg fun w => z w.1]
    revert z
    refine cases10 (P := fun k' => ¬ k' = 0 → mvN (es_upd M 91 47 v) k' j' = mvN M k' j') hr.1 ?_ ?_ ?_ ?_ ?_ ?_ ?_ ?_ ?_ ?_ ?_ <;> simp [mvN, es_upd]
theorem mvu_02 {M : es_M} {v : Int} : ∀ (k' : Nat) (j' : Int), inr k' j' → mvN (es_upd M 91 30 v) k' j' = if k' = 0 ∧ j' = 2 then v else mvN M k' j' := by
  intro k' j' hr
  by_cases z : k' = 0
  · subst z
    obtain ⟨-, h0, h1⟩ := hr
    have h1 : j' < 4 := h1
    rcases (show j' = 0 ∨ j' = 1 ∨ j' = 2 ∨ j' = 3 by omega) with rfl | rfl | rfl | rfl <;> simp [mvN, es_upd]
  · rw [if_neg fun w => z w.1]
    revert z
    refine cases10 (P := fun k' => ¬ k' = 0 → mvN (es_upd M 91 30 v) k' j' = mvN M k' j') hr.1 ?_ ?_ ?_ ?_ ?_ ?_ ?_ ?_ ?_ ?_ ?_ <;> simp [mvN, es_upd]
theorem mvu_03 {M : es_M} {v : Int} : ∀ (k' : Nat) (j' : Int), inr k' j' → mvN (es_upd M 91 13 v) k' j' = if k' = 0 ∧ j' = 3 then v else mvN M k' j' := by
  intro k' j' hr
  by_cases z : k' = 0
  · subst z
    obtain ⟨-, h0, h1⟩ := hr
    have h1 : j' < 4 := h1
    rcases (show j' = 0 ∨ j' = 1 ∨ j' = 2 ∨ j' = 3 by omega) with rfl | rfl | rfl | rfl <;> simp [mvN, es_upd]
  · rw [if_neg fun w => z w.1]
    revert z
    refine cases10 (P := fun k' => ¬ k' = 0 → mvN (es_upd M 91 13 v) k' j' = mvN M k' j') hr.1 ?_ ?_ ?_ ?_ ?_ ?_ ?_ ?_ ?_ ?_ ?_ <;> simp [mvN, es_upd]
theorem Sv.store {M M1 : es_M} {i b o : Int} {c : Nat} {jj v : Int} (h : Sv M i b (o + 1) o M1) (k : Nat) (j : Int) (hr : inr k j) (ho : ofk k j = o) (hw : wp c jj = true) (h64 : ¬ (91 = c ∧ (64 : Int) = jj)) (h138 : 138 ≠ c) (hv : v = nvF k (pvF2 M i b k j)) (hmv : ∀ k' j', inr k' j' → mvN (es_upd M1 c jj v) k' j' = if k' = k ∧ j' = j then v else mvN M1 k' j') : Sv M i b (o + 1) (o + 1) (es_upd M1 c jj v) := by
  obtain ⟨s1, s2, s3, s4⟩ := h
  refine ⟨?_, s2.upd hw, fun q hq => ?_, fun k' j' hr' => ?_⟩
  · unfold es_upd; rw [if_neg h64]; exact s1
  · rw [es_upd_n h138]; exact s3 q hq
  · obtain ⟨t1, t2, t3, t4⟩ := s4 k' j' hr'
    rw [es_upd_n h138, hmv k' j' hr']
    refine ⟨t1, t2, fun z => ?_, fun z => ?_⟩
    · by_cases e : k' = k ∧ j' = j
      · rw [if_pos e, e.1, e.2, hv]
      · rw [if_neg e]
        refine t3 ?_
        have : ofk k' j' ≠ o := fun w => e (ofk_inj hr hr' (w.trans ho.symm))
        omega
    · rw [if_neg]
      · exact t4 (by omega)
      · intro e
        rw [e.1, e.2] at z
        omega
section
variable {d : Nat} {Q : Int → es_M → Prop} {M M' : es_M} {i b o : Int}
theorem mvN_91 {M M1 : es_M} (h : ∀ c, c ≠ 91 → c ≠ 138 → M1 c = M c) (h2 : ∀ j, j ≠ 64 → M1 91 j = M 91 j) : mvN M1 = mvN M := by
  funext k j
  unfold mvN
  rw [h2 41 (by decide), h2 47 (by decide), h2 30 (by decide), h2 13 (by decide), h 120 (by decide) (by decide), h 125 (by decide) (by decide), h 126 (by decide) (by decide), h 112 (by decide) (by decide), h 113 (by decide) (by decide), h 98 (by decide) (by decide), h 99 (by decide) (by decide), h 100 (by decide) (by decide), h 121 (by decide) (by decide), h 102 (by decide) (by decide)]
theorem s_passing (hi : 0 ≤ i ∧ i < 3) (hS : Sv M i b o o M') (k : Nat) (j : Int) (hr : inr k j) (ho : ofk k j = o) {v : Int} (hv : b = 0 → v = pvF2 M i b k j) (h : ∀ M1, Sv M i b (o + 1) o M1 → (∀ c, c ≠ 91 → c ≠ 138 → M1 c = M' c) → (∀ j, j ≠ 64 → M1 91 j = M' 91 j) → Q (pvF2 M i b k j) M1) : es_Call (d + 1) 281 [.inr (.inr 91), .inl i, .inl v, .inl b] M' Q := by
  apply c_Model_passing
  have hof := ofk_r hr
  obtain ⟨s1, s2, s3, s4⟩ := hS
  rw [s1, w32_1 (by omega) (by omega), show w32 (w32 (i * 400) + o) = i * 400 + o from by unfold w32; omega]
  have hb : ¬ b = 0 → M' 138 (i * 400 + o) = pvF2 M i b k j := by
    intro z
    rw [← ho, (s4 k j hr).2.1 (by omega)]
    unfold pvF2; rw [if_neg z]
  have fin : ∀ M1, M1 91 64 = o + 1 → (∀ c, c ≠ 91 → c ≠ 138 → M1 c = M' c) → (∀ j, j ≠ 64 → M1 91 j = M' 91 j) → M1 138 (i * 400 + o) = pvF2 M i b k j → (∀ q, q ≠ i * 400 + o → M1 138 q = M' 138 q) → Q (pvF2 M i b k j) M1 := by
    intro M1 e1 e2 e3 e4 e5
    refine h M1 ⟨e1, fun c q z => ?_, fun q hq => ?_, fun k' j' hr' => ?_⟩ e2 e3
    · by_cases c1 : c = 91
      · subst c1
        by_cases q64 : q = 64
        · subst q64; cases z
        · rw [e3 q q64]; exact s2 _ _ z
      · by_cases c2 : c = 138
        · subst c2; cases z
        · rw [e2 c c1 c2]; exact s2 _ _ z
    · rw [e5 q (by omega)]; exact s3 q hq
    · obtain ⟨t1, t2, t3, t4⟩ := s4 k' j' hr'
      rw [mvN_91 e2 e3]
      refine ⟨fun z => ?_, fun z => ?_, t3, t4⟩
      · by_cases e : ofk k' j' = o
        · obtain ⟨rfl, rfl⟩ := ofk_inj hr hr' (e.trans ho.symm)
          rw [e]; exact e4
        · rw [e5 _ (by omega)]; exact t1 (by omega)
      · rw [e5 _ (by omega)]; exact t2 (by omega)
  refine ⟨fun z => ⟨by omega, ?_⟩, fun z => ⟨by omega, by omega, ?_⟩⟩
  · rw [es_upd_n (by decide), hb z]
    exact fin _ es_upd_s (fun c c1 _ => es_upd_o c c1) (fun q hq => es_upd_j hq) (by rw [es_upd_n (by decide)]; exact hb z) (fun q _ => es_upd_n (by decide))
  · rw [es_upd_s, hv z]
    refine fin _ ?_ (fun c c1 c2 => ?_) (fun q hq => ?_) es_upd_s (fun q hq => ?_)
    · rw [es_upd_n (by decide)]; exact es_upd_s
    · rw [es_upd_o c c2, es_upd_o c c1]
    · rw [es_upd_n (by decide), es_upd_j hq]
    · rw [es_upd_j hq, es_upd_n (by decide)]
theorem Sv.rd (hS : Sv M i b o o M') (k : Nat) (j : Int) (hr : inr k j) (ho : ofk k j = o) (hk : ¬ (k = 3 ∨ k = 6)) : b = 0 → mvN M' k j = pvF2 M i b k j := by
  intro z
  unfold pvF2
  rw [if_pos z, if_neg hk]
  exact (hS.2.2.2 k j hr).2.2.2 (by omega)
theorem Sv.rdt (hS : Sv M i b o o M') (k : Nat) (j : Int) (hr : inr k j) (ho : ofk k j = o) (hk : k = 3 ∨ k = 6) : b = 0 → trF (mvN M' k j) = pvF2 M i b k j := by
  intro z
  unfold pvF2
  rw [if_pos z, if_pos hk, (hS.2.2.2 k j hr).2.2.2 (by omega)]
theorem s_m_truthF {v : Int} (h : Q (trF v) M) : es_Call (d + 1) 176 [.inl v] M Q := by
  unfold trF at h
  refine s_m_truth (fun z => ?_) (fun z => ?_)
  · rw [if_neg z] at h; exact h
  · rw [if_pos z] at h; exact h
theorem s_m_passes (hi : 0 ≤ i ∧ i < 3) (h : ∀ M', Sv M i b 330 330 M' → Q 0 M') : es_Call (d + 2) 280 [.inr (.inr 91), .inl i, .inl b] M Q := by
  apply m_Model_passes
  intro G hG
  have L7 : ∀ M', Sv M i b 330 330 M' → G 319 [lr 91, li i, li b, li 144] [] M' := fun M' hS => by
    apply k_Model_passes_319 hG
    exact ⟨fun _ => h M' hS, fun z => absurd (Int.le_refl _) z⟩
  have L6 : ∀ M', Sv M i b 186 186 M' → G 319 [lr 91, li i, li b, li 0] [] M' := by
    refine es_up (P := fun k => ∀ M', Sv M i b (186 + k) (186 + k) M' → G 319 [lr 91, li i, li b, li k] [] M') (n := 144) (by decide) (fun M' hS => by rw [show (186 : Int) + 144 = 330 by decide] at hS; exact L7 M' hS) ?_
    intro k k0 k1 ih M' hS
    apply k_Model_passes_319 hG
    rw [w32_1 (by omega) (by omega)]
    have hr : inr 10 k := ⟨by decide, k0, k1⟩
    refine ⟨fun z => absurd z (by omega), fun _ => ⟨by omega, s_passing hi hS 10 k hr rfl (hS.rd 10 k hr rfl (by decide)) (fun M1 s1 e1 e2 => ⟨by omega, ?_⟩)⟩⟩
    have := s1.store (c := 102) (jj := k) (v := pvF2 M i b 10 k) 10 k hr rfl rfl (by simp) (by decide) rfl mvu_10
    rw [show 186 + k + 1 = 186 + (k + 1) by omega] at this
    exact ih _ this
  have L5 : ∀ M', Sv M i b 162 162 M' → G 287 [lr 91, li i, li b, li 0] [] M' := by
    refine es_up (P := fun k => ∀ M', Sv M i b (162 + k) (162 + k) M' → G 287 [lr 91, li i, li b, li k] [] M') (n := 24) (by decide) ?_ ?_
    · intro M' hS
      apply k_Model_passes_287 hG
      exact ⟨fun _ => L6 M' hS, fun z => absurd (Int.le_refl _) z⟩
    intro k k0 k1 ih M' hS
    apply k_Model_passes_287 hG
    rw [w32_1 (by omega) (by omega)]
    have hr : inr 9 k := ⟨by decide, k0, k1⟩
    refine ⟨fun z => absurd z (by omega), fun _ => ⟨by omega, s_passing hi hS 9 k hr rfl (hS.rd 9 k hr rfl (by decide)) (fun M1 s1 e1 e2 => ⟨by omega, ?_⟩)⟩⟩
    have := s1.store (c := 121) (jj := k) (v := pvF2 M i b 9 k) 9 k hr rfl rfl (by simp) (by decide) rfl mvu_9
    rw [show 162 + k + 1 = 162 + (k + 1) by omega] at this
    exact ih _ this
  have L4 : ∀ M', Sv M i b 108 108 M' → G 207 [lr 91, li i, li b, li 0] [] M' := by
    refine es_up (P := fun k => ∀ M', Sv M i b (108 + 3 * k) (108 + 3 * k) M' → G 207 [lr 91, li i, li b, li k] [] M') (n := 18) (by decide) ?_ ?_
    · intro M' hS
      apply k_Model_passes_207 hG
      exact ⟨fun _ => L5 M' hS, fun z => absurd (Int.le_refl _) z⟩
    intro k k0 k1 ih M' hS
    apply k_Model_passes_207 hG
    rw [w32_1 (by omega) (by omega)]
    have hr6 : inr 6 k := ⟨by decide, k0, k1⟩
    have hr7 : inr 7 k := ⟨by decide, k0, k1⟩
    have hr8 : inr 8 k := ⟨by decide, k0, k1⟩
    have rest : ∀ M1, Sv M i b (108 + 3 * k + 1) (108 + 3 * k + 1) M1 → es_Call (d + 1) 281 [.inr (.inr 91), .inl i, .inl (M1 99 k), .inl b] M1 (fun y6 M5 => ((0 ≤ k ∧ k < 18) ∧ ((0 ≤ k ∧ k < 18) ∧ es_Call (d + 1) 281 [.inr (.inr 91), .inl i, .inl ((es_upd M5 99 k y6) 100 k), .inl b] (es_upd M5 99 k y6) (fun y8 M7 => ((0 ≤ k ∧ k < 18) ∧ G 207 [lr 91, li i, li b, li (k + 1)] [] (es_upd M7 100 k y8)))))) := by
      intro M1 s1
      have o7 : ofk 7 k = 108 + 3 * k + 1 := by show 109 + 3 * k = _; omega
      have o8 : ofk 8 k = 108 + 3 * k + 1 + 1 := by show 110 + 3 * k = _; omega
      refine s_passing hi s1 7 k hr7 o7 (s1.rd 7 k hr7 o7 (by decide)) (fun M2 s2 e1 e2 => ⟨by omega, by omega, ?_⟩)
      have s3 := s2.store (c := 99) (jj := k) (v := pvF2 M i b 7 k) 7 k hr7 o7 rfl (by simp) (by decide) rfl mvu_7
      refine s_passing hi s3 8 k hr8 o8 (s3.rd 8 k hr8 o8 (by decide)) (fun M3 s4 e3 e4 => ⟨by omega, ?_⟩)
      have s5 := s4.store (c := 100) (jj := k) (v := pvF2 M i b 8 k) 8 k hr8 o8 rfl (by simp) (by decide) rfl mvu_8
      rw [show 108 + 3 * k + 1 + 1 + 1 = 108 + 3 * (k + 1) by omega] at s5
      exact ih _ s5
    refine ⟨fun z => absurd z (by omega), fun _ => ⟨by omega, s_m_truthF ?_⟩⟩
    refine s_passing hi hS 6 k hr6 rfl (hS.rdt 6 k hr6 rfl (by decide)) (fun M1 s1 e1 e2 => ⟨fun z => ⟨by omega, es_b0, by omega, rest _ ?_⟩, fun z => ⟨by omega, es_b1, by omega, rest _ ?_⟩⟩)
    · exact s1.store (c := 98) (jj := k) (v := 0) 6 k hr6 rfl rfl (by simp) (by decide) (by unfold nvF; rw [if_pos (by decide), if_neg z]) mvu_6
    · exact s1.store (c := 98) (jj := k) (v := 1) 6 k hr6 rfl rfl (by simp) (by decide) (by unfold nvF; rw [if_pos (by decide), if_pos z]) mvu_6
  have L3 : ∀ M', Sv M i b 84 84 M' → G 157 [lr 91, li i, li b, li 0] [] M' := by
    refine es_up (P := fun k => ∀ M', Sv M i b (84 + 2 * k) (84 + 2 * k) M' → G 157 [lr 91, li i, li b, li k] [] M') (n := 12) (by decide) ?_ ?_
    · intro M' hS
      apply k_Model_passes_157 hG
      exact ⟨fun _ => L4 M' hS, fun z => absurd (Int.le_refl _) z⟩
    intro k k0 k1 ih M' hS
    apply k_Model_passes_157 hG
    rw [w32_1 (by omega) (by omega)]
    have hr4 : inr 4 k := ⟨by decide, k0, k1⟩
    have hr5 : inr 5 k := ⟨by decide, k0, k1⟩
    have o5 : ofk 5 k = 84 + 2 * k + 1 := by show 85 + 2 * k = _; omega
    refine ⟨fun z => absurd z (by omega), fun _ => ⟨by omega, s_passing hi hS 4 k hr4 rfl (hS.rd 4 k hr4 rfl (by decide)) (fun M1 s1 e1 e2 => ⟨by omega, by omega, ?_⟩)⟩⟩
    have s2 := s1.store (c := 112) (jj := k) (v := pvF2 M i b 4 k) 4 k hr4 rfl rfl (by simp) (by decide) rfl mvu_4
    refine s_passing hi s2 5 k hr5 o5 (s2.rd 5 k hr5 o5 (by decide)) (fun M3 s4 e3 e4 => ⟨by omega, ?_⟩)
    have s5 := s4.store (c := 113) (jj := k) (v := pvF2 M i b 5 k) 5 k hr5 o5 rfl (by simp) (by decide) rfl mvu_5
    rw [show 84 + 2 * k + 1 + 1 = 84 + 2 * (k + 1) by omega] at s5
    exact ih _ s5
  have L2 : ∀ M', Sv M i b 64 64 M' → G 95 [lr 91, li i, li b, li 0] [] M' := by
    refine es_up (P := fun k => ∀ M', Sv M i b (64 + 2 * k) (64 + 2 * k) M' → G 95 [lr 91, li i, li b, li k] [] M') (n := 10) (by decide) ?_ ?_
    · intro M' hS
      apply k_Model_passes_95 hG
      exact ⟨fun _ => L3 M' hS, fun z => absurd (Int.le_refl _) z⟩
    intro k k0 k1 ih M' hS
    apply k_Model_passes_95 hG
    rw [w32_1 (by omega) (by omega)]
    have hr2 : inr 2 k := ⟨by decide, k0, k1⟩
    have hr3 : inr 3 k := ⟨by decide, k0, k1⟩
    have o3 : ofk 3 k = 64 + 2 * k + 1 := by show 65 + 2 * k = _; omega
    refine ⟨fun z => absurd z (by omega), fun _ => ⟨by omega, s_passing hi hS 2 k hr2 rfl (hS.rd 2 k hr2 rfl (by decide)) (fun M1 s1 e1 e2 => ⟨by omega, by omega, s_m_truthF ?_⟩)⟩⟩
    have s2 := s1.store (c := 125) (jj := k) (v := pvF2 M i b 2 k) 2 k hr2 rfl rfl (by simp) (by decide) rfl mvu_2
    refine s_passing hi s2 3 k hr3 o3 (s2.rdt 3 k hr3 o3 (by decide)) (fun M3 s4 e3 e4 => ⟨fun z => ⟨by omega, es_b0, ih _ ?_⟩, fun z => ⟨by omega, es_b1, ih _ ?_⟩⟩)
    · have s5 := s4.store (c := 126) (jj := k) (v := 0) 3 k hr3 o3 rfl (by simp) (by decide) (by unfold nvF; rw [if_pos (by decide), if_neg z]) mvu_3
      rw [show 64 + 2 * k + 1 + 1 = 64 + 2 * (k + 1) by omega] at s5
      exact s5
    · have s5 := s4.store (c := 126) (jj := k) (v := 1) 3 k hr3 o3 rfl (by simp) (by decide) (by unfold nvF; rw [if_pos (by decide), if_pos z]) mvu_3
      rw [show 64 + 2 * k + 1 + 1 = 64 + 2 * (k + 1) by omega] at s5
      exact s5
  have L1 : ∀ M', Sv M i b 4 4 M' → G 63 [lr 91, li i, li b, li 0] [] M' := by
    refine es_up (P := fun k => ∀ M', Sv M i b (4 + k) (4 + k) M' → G 63 [lr 91, li i, li b, li k] [] M') (n := 60) (by decide) ?_ ?_
    · intro M' hS
      apply k_Model_passes_63 hG
      exact ⟨fun _ => L2 M' hS, fun z => absurd (Int.le_refl _) z⟩
    intro k k0 k1 ih M' hS
    apply k_Model_passes_63 hG
    rw [w32_1 (by omega) (by omega)]
    have hr : inr 1 k := ⟨by decide, k0, k1⟩
    refine ⟨fun z => absurd z (by omega), fun _ => ⟨by omega, s_passing hi hS 1 k hr rfl (hS.rd 1 k hr rfl (by decide)) (fun M1 s1 e1 e2 => ⟨by omega, ?_⟩)⟩⟩
    have := s1.store (c := 120) (jj := k) (v := pvF2 M i b 1 k) 1 k hr rfl rfl (by simp) (by decide) rfl mvu_1
    rw [show 4 + k + 1 = 4 + (k + 1) by omega] at this
    exact ih _ this
  apply k_Model_passes_0 hG
  have r0 : inr 0 0 := ⟨by decide, by decide, by decide⟩
  have r1 : inr 0 1 := ⟨by decide, by decide, by decide⟩
  have r2 : inr 0 2 := ⟨by decide, by decide, by decide⟩
  have r3 : inr 0 3 := ⟨by decide, by decide, by decide⟩
  have S0 : Sv M i b 0 0 (es_upd M 91 64 0) := by
    refine ⟨es_upd_s, Fr.rf.upd rfl, fun j _ => es_upd_n (by decide), fun k j hr => ?_⟩
    have := ofk_r hr
    refine ⟨fun z => by omega, fun _ => es_upd_n (by decide), fun z => by omega, fun _ => ?_⟩
    rw [mvN_91 (fun c c1 _ => es_upd_o c c1) (fun q hq => es_upd_j hq)]
  refine s_passing hi S0 0 0 r0 rfl (S0.rd 0 0 r0 rfl (by decide)) (fun M1 s1 _ _ => ?_)
  have t1 := s1.store (c := 91) (jj := 41) (v := pvF2 M i b 0 0) 0 0 r0 rfl rfl (by decide) (by decide) rfl mvu_00
  refine s_passing hi t1 0 1 r1 rfl (t1.rd 0 1 r1 rfl (by decide)) (fun M2 s2 _ _ => ?_)
  have t2 := s2.store (c := 91) (jj := 47) (v := pvF2 M i b 0 1) 0 1 r1 rfl rfl (by decide) (by decide) rfl mvu_01
  refine s_passing hi t2 0 2 r2 rfl (t2.rd 0 2 r2 rfl (by decide)) (fun M3 s3 _ _ => ?_)
  have t3 := s3.store (c := 91) (jj := 30) (v := pvF2 M i b 0 2) 0 2 r2 rfl rfl (by decide) (by decide) rfl mvu_02
  refine s_passing hi t3 0 3 r3 rfl (t3.rd 0 3 r3 rfl (by decide)) (fun M4 s4 _ _ => ?_)
  have t4 := s4.store (c := 91) (jj := 13) (v := pvF2 M i b 0 3) 0 3 r3 rfl rfl (by decide) (by decide) rfl mvu_03
  exact L1 _ t4
end
