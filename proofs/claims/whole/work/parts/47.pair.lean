/-! PAIRS OF CALLS: the class's answer is the model's, and all stands as before. First those that ask little -/
def Pair (d ix im : Nat) (av : List AV) (M : es_M) : Prop := es_Call d ix (.inr (.inr 0) :: av) M (fun y M1 => es_Call d im (.inr (.inr 91) :: av) M1 (fun y' M2 => y' = y ∧ Inv M2))
/-- frames: places outside W are as they were -/
def Fr (W : Nat → Int → Bool) (M M' : es_M) : Prop := ∀ c j, W c j = false → M' c j = M c j
theorem Fr.rf {W : Nat → Int → Bool} {M : es_M} : Fr W M M := fun _ _ _ => rfl
theorem Fr.upd {W : Nat → Int → Bool} {M M' : es_M} {c : Nat} {j v : Int} (h : Fr W M M') (hw : W c j = true) : Fr W M (es_upd M' c j v) := by
  intro c' j' h'
  unfold es_upd
  by_cases q : c' = c ∧ j' = j
  · rw [q.1, q.2, hw] at h'; cases h'
  · rw [if_neg q]; exact h c' j' h'
theorem Fr.cpy {W : Nat → Int → Bool} {M M' : es_M} {a b : Nat} {sp dp n : Int} (h : Fr W M M') (hw : ∀ j, W b j = true) : Fr W M (es_cpy M' a sp b dp n) := by
  intro c' j' h'
  unfold es_cpy
  by_cases q : c' = b ∧ dp ≤ j' ∧ j' < dp + n
  · rw [q.1, hw] at h'; cases h'
  · rw [if_neg q]; exact h c' j' h'
theorem Fr.trans {W : Nat → Int → Bool} {M M' M'' : es_M} (h : Fr W M M') (h2 : Fr W M' M'') : Fr W M M'' := fun c j q => (h2 c j q).trans (h c j q)
theorem Fr.mono {W W' : Nat → Int → Bool} {M M' : es_M} (h : Fr W M M') (hw : ∀ c j, W' c j = false → W c j = false) : Fr W' M M' := fun c j q => h c j (hw c j q)
theorem Fr.cell {W : Nat → Int → Bool} {M M' : es_M} (h : Fr W M M') (c : Nat) (hc : ∀ j, W c j = false) : M' c = M c := funext fun j => h c j (hc j)
/-- the places of a state of work -/
def wk (c : Nat) (j : Int) : Bool := (Nat.ble 14 c && Nat.ble c 23) || Nat.beq c 98 || Nat.beq c 99 || Nat.beq c 100 || Nat.beq c 102 || Nat.beq c 112 || Nat.beq c 113 || Nat.beq c 120 || Nat.beq c 121 || Nat.beq c 125 || Nat.beq c 126 || (Nat.beq c 60 && decide (j = 5)) || (Nat.beq c 91 && (decide (j = 0) || decide (j = 13) || decide (j = 30) || decide (j = 41) || decide (j = 47)))
theorem Inv.work {M M' : es_M} (h : Inv M) (e : Fr wk M M') (hs : SI M' 14 (mvN M')) (hc : CacheOK M' M') : Inv M' := by
  obtain ⟨⟨h1, h2, h3, h4, h5⟩, hr, -⟩ := h
  have c13 : ∀ c, 1 ≤ c ∧ c ≤ 13 → M' c = M c := by
    intro c hc
    rcases (show c = 1 ∨ c = 2 ∨ c = 3 ∨ c = 4 ∨ c = 5 ∨ c = 6 ∨ c = 7 ∨ c = 8 ∨ c = 9 ∨ c = 10 ∨ c = 11 ∨ c = 12 ∨ c = 13 by omega) with rfl | rfl | rfl | rfl | rfl | rfl | rfl | rfl | rfl | rfl | rfl | rfl | rfl <;> exact e.cell _ fun _ => rfl
  refine ⟨⟨h1.congr (fun c hc => ?_) (e 91 3 rfl) (e 91 23 rfl), hs, h3.congr c13 (fun c hc => ?_) (e.cell 137 fun _ => rfl) (e.cell 138 fun _ => rfl), h4.congr (e 55 1 rfl) (e 91 16 rfl) (e.cell 56 fun _ => rfl) (e.cell 103 fun _ => rfl), fun i a b => by rw [e 109 i rfl]; exact h5 i a b⟩, ?_, hc⟩
  · rcases hc with hc | hc | hc | hc
    · exact c13 c hc
    · rcases (show c = 93 ∨ c = 94 ∨ c = 95 ∨ c = 96 ∨ c = 97 by omega) with rfl | rfl | rfl | rfl | rfl <;> exact e.cell _ fun _ => rfl
    · subst hc; exact e.cell _ fun _ => rfl
    · rcases (show c = 106 ∨ c = 107 ∨ c = 108 by omega) with rfl | rfl | rfl <;> exact e.cell _ fun _ => rfl
  · refine e.cell c fun j => ?_
    unfold wk
    have z : ∀ k : Nat, 54 < k → Nat.beq c k = false := fun k hk => by rw [← Bool.not_eq_true, Nat.beq_eq]; omega
    have z1 : Nat.ble c 23 = false := by rw [← Bool.not_eq_true, Nat.ble_eq]; omega
    simp [z1, z 98 (by decide), z 99 (by decide), z 100 (by decide), z 102 (by decide), z 112 (by decide), z 113 (by decide), z 120 (by decide), z 121 (by decide), z 125 (by decide), z 126 (by decide), z 60 (by decide), z 91 (by decide)]
  · unfold RowEq at hr ⊢
    rw [e.cell 58 fun _ => rfl, e.cell 59 fun _ => rfl, e 91 1 rfl, e.cell 92 fun _ => rfl]
    exact hr
/-- the cache stays where nothing of it and nothing that it rests on was changed -/
theorem Inv.cache {M M' : es_M} (h : Inv M) (e : Fr wk M M') (e0 : M' 60 5 = M 60 5) (e4 : M' 14 4 = M 14 4) (e5 : M' 14 5 = M 14 5) : CacheOK M' M' := by
  have c1 : M' 1 = M 1 := e.cell _ fun _ => rfl
  refine h.2.2.congr ?_ c1 e0 (e.cell 61 fun _ => rfl) (e.cell 62 fun _ => rfl) (e.cell 63 fun _ => rfl)
  funext c p q
  unfold stp cr tb tmF goes
  rw [og_congr (e.cell 2 fun _ => rfl) (e.cell 3 fun _ => rfl), gl_congr (e.cell 2 fun _ => rfl) (e.cell 3 fun _ => rfl), ln_congr (e.cell 4 fun _ => rfl) (e.cell 5 fun _ => rfl), e.cell 9 fun _ => rfl, e4, e5]
theorem wk_tow {M M' : es_M} (e : Fr wk M M') : tow M M' := by
  intro c hc
  rcases (show c = 1 ∨ c = 2 ∨ c = 3 ∨ c = 4 ∨ c = 5 ∨ c = 6 ∨ c = 7 ∨ c = 8 ∨ c = 9 ∨ c = 10 ∨ c = 11 ∨ c = 12 ∨ c = 13 by omega) with rfl | rfl | rfl | rfl | rfl | rfl | rfl | rfl | rfl | rfl | rfl | rfl | rfl <;> exact e.cell _ fun _ => rfl
section
variable {d : Nat} {M : es_M}
theorem rep0 : RepM M (es_upd M 91 0 0) := (RepM.rf M).upd rfl
theorem P_between (h : Inv M) {a b : Int} : Pair (d + 20) 7 189 [.inl a, .inl b] M := by
  refine c_EveryStreet_between (s_joining (RepC.rf M) (c_Model_between ?_))
  rw [es_upd_j (by decide), h.1.n.2.2]
  exact s_m_streetBetween h.1 rep0 rfl ⟨rfl, h.th⟩
theorem P_turn (h : Inv M) {a b c : Int} : Pair (d + 20) 8 190 [.inl a, .inl b, .inl c] M := by
  apply c_EveryStreet_turn
  refine s_isCorner (fun a0 a1 => es_t1 ?_) (fun a0 => es_t0 ?_)
  · refine s_isCorner (fun b0 b1 => es_t1 ?_) (fun b0 => es_t0 ?_)
    · refine s_isCorner (fun c0 c1 => es_t1 ⟨fun z => ?_, fun z => ⟨fun w => ?_, fun w => ?_⟩⟩) (fun c0 => es_t0 ?_)
      · exact c_Model_turn (s_m_isCorner (fun _ _ => es_t1 (s_m_isCorner (fun _ _ => es_t1 (s_m_isCorner (fun _ _ => es_t1 ⟨fun _ => ⟨rfl, h.th⟩, fun q => absurd z q⟩) (fun q => absurd ⟨c0, c1⟩ q))) (fun q => absurd ⟨b0, b1⟩ q))) (fun q => absurd ⟨a0, a1⟩ q))
      · refine s_turnMinutes (RepC.rf M) ⟨a0, a1⟩ ⟨b0, b1⟩ ⟨c0, c1⟩ rfl ?_
        exact c_Model_turn (s_m_isCorner (fun _ _ => es_t1 (s_m_isCorner (fun _ _ => es_t1 (s_m_isCorner (fun _ _ => es_t1 ⟨fun q => absurd q z, fun _ => ⟨fun q => absurd q w, fun _ => s_m_turnOf h.1 rep0 ⟨a0, a1⟩ ⟨b0, b1⟩ ⟨c0, c1⟩ ⟨rfl, h.th⟩⟩⟩) (fun q => absurd ⟨c0, c1⟩ q))) (fun q => absurd ⟨b0, b1⟩ q))) (fun q => absurd ⟨a0, a1⟩ q))
      · exact c_Model_turn (s_m_isCorner (fun _ _ => es_t1 (s_m_isCorner (fun _ _ => es_t1 (s_m_isCorner (fun _ _ => es_t1 ⟨fun q => absurd q z, fun _ => ⟨fun _ => ⟨rfl, h.th⟩, fun q => absurd w q⟩⟩) (fun q => absurd ⟨c0, c1⟩ q))) (fun q => absurd ⟨b0, b1⟩ q))) (fun q => absurd ⟨a0, a1⟩ q))
      · exact c_Model_turn (s_m_isCorner (fun _ _ => es_t1 (s_m_isCorner (fun _ _ => es_t1 (s_m_isCorner (fun q1 q2 => absurd ⟨q1, q2⟩ c0) (fun _ => es_t0 ⟨rfl, h.th⟩))) (fun q => absurd ⟨b0, b1⟩ q))) (fun q => absurd ⟨a0, a1⟩ q))
    · exact c_Model_turn (s_m_isCorner (fun _ _ => es_t1 (s_m_isCorner (fun q1 q2 => absurd ⟨q1, q2⟩ b0) (fun _ => es_t0 ⟨rfl, h.th⟩))) (fun q => absurd ⟨a0, a1⟩ q))
  · exact c_Model_turn (s_m_isCorner (fun q1 q2 => absurd ⟨q1, q2⟩ a0) (fun _ => es_t0 ⟨rfl, h.th⟩))
theorem P_service (h : Inv M) {a w : Int} : Pair (d + 20) 9 193 [.inl a, .inl w] M := by
  apply c_EveryStreet_service
  have hv := h.1.v
  have hn := h.1.n
  have th : ∀ y : Int, y = y ∧ Inv (es_upd M 91 0 0) := fun y => ⟨rfl, h.th⟩
  refine s_isService (RepC.rf M) (fun a0 a1 => es_f1 ?_) (fun z => es_f0 ?_)
  · have hs := h.1.sr a0 a1
    have hst := h.1.st hs.1.1 hs.1.2
    have hm := h.1.mv a0 a1
    have hah := h.1.ah (v := a) a0 (by omega)
    have rd : ∀ c j, c ≠ 91 → es_upd M 91 0 0 c j = M c j := fun c j q => es_upd_n q
    have ba : 0 ≤ a ∧ a < 10 := by omega
    have model : ∀ y : Int, ((w < 0 ∨ 3 < w) → y = -1) → (w = 0 → y = M 10 a) → (w = 1 → y = M 11 a) → (w = 2 → y = M 7 (M 10 a)) → (w = 3 → y = M 12 a) → es_Call (d + 20) 193 [.inr (.inr 91), .inl a, .inl w] M (fun y' M2 => y' = y ∧ Inv M2) := by
      intro y e1 e2 e3 e4 e5
      apply c_Model_service
      refine s_m_isService h.1 rep0 (fun _ _ => es_f1 ?_) (fun q => absurd ⟨a0, a1⟩ q)
      rw [rd 106 _ (by decide), rd 107 _ (by decide), rd 97 _ (by decide), rd 108 _ (by decide), hm.1, hm.2, hah.1, hst.2.2.2.2.2.2.2.2.2.2.2.1]
      exact ⟨fun q => ⟨(e1 q).symm, h.th⟩, fun q => ⟨ba, (e2 q).symm, h.th⟩, fun q => ⟨ba, (e3 q).symm, h.th⟩, fun q => ⟨ba, by omega, (e4 q).symm, h.th⟩, fun q => ⟨ba, (e5 q).symm, h.th⟩, trivial⟩
    refine ⟨fun q => model _ (fun _ => rfl) (fun _ => by omega) (fun _ => by omega) (fun _ => by omega) (fun _ => by omega), fun q => ⟨ba, model _ (fun _ => by omega) (fun _ => rfl) (fun _ => by omega) (fun _ => by omega) (fun _ => by omega)⟩, fun q => ⟨ba, model _ (fun _ => by omega) (fun _ => by omega) (fun _ => rfl) (fun _ => by omega) (fun _ => by omega)⟩, fun q => ⟨ba, by omega, model _ (fun _ => by omega) (fun _ => by omega) (fun _ => by omega) (fun _ => rfl) (fun _ => by omega)⟩, fun q => ⟨ba, model _ (fun _ => by omega) (fun _ => by omega) (fun _ => by omega) (fun _ => by omega) (fun _ => rfl)⟩, trivial⟩
  · exact c_Model_service (s_m_isService h.1 rep0 (fun q1 q2 => absurd ⟨q1, q2⟩ z) (fun _ => es_f0 ⟨rfl, h.th⟩))
theorem P_back (h : Inv M) {v : Int} : Pair (d + 20) 4 188 [.inl v] M := by
  apply c_EveryStreet_back
  have hb := h.1.bk
  have no : ¬ (0 ≤ v ∧ v ≤ 99) → es_Call (d + 20) 188 [.inr (.inr 91), .inl v] M (fun y' M2 => y' = -1 ∧ Inv M2) := fun q => c_Model_back (s_m_in (fun q1 q2 => absurd ⟨q1, q2⟩ q) (fun _ => es_f0 ⟨rfl, h.th⟩))
  refine ⟨fun q => no (by omega), fun q => ⟨fun q2 => ⟨es_b1, ?_⟩, fun q2 => no (by omega)⟩⟩
  refine c_Model_back (s_m_in (fun _ _ => es_f1 ⟨?_, ?_⟩) (fun q3 => absurd ⟨by omega, q2⟩ q3))
  · rw [es_upd_j (by decide), es_upd_n (by decide), es_upd_n (by decide)]; exact hb.2.2
  · have e : Fr wk M (es_upd (es_upd (es_upd (es_upd M 14 5 v) 60 5 1) 91 0 0) 91 13 v) := (((Fr.rf.upd rfl).upd rfl).upd rfl).upd rfl
    refine h.work e ?_ (CacheOK.stale ?_)
    · obtain ⟨h1, h2, h3, h4, h5, h6, h7, h8, h9⟩ := h.1.S
      have c15 : es_upd (es_upd (es_upd (es_upd M 14 5 v) 60 5 1) 91 0 0) 91 13 v 14 1 = M 14 1 := by simp [es_upd]
      refine ⟨?_, ?_, ?_, ?_, ?_, ?_, ?_, ?_, ?_⟩
      · unfold SIsc mvN at h1 ⊢
        simp [es_upd] at h1 ⊢
        omega
      · simpa [es_upd, mvN, SIsh] using h2
      · simpa [es_upd, mvN, SIhd] using h3
      · have := h4.congr (wk_tow e)
        simpa [es_upd, SIhp] using this
      · have := h5.congr (wk_tow e)
        simpa [es_upd, mvN, SIor] using this
      · simpa [es_upd, mvN, SIcu] using h6
      · simpa [es_upd, mvN, SIbz] using h7
      · simpa [es_upd, mvN, SIop] using h8
      · simpa [es_upd, mvN, SIst] using h9
    · simp [es_upd]
end
