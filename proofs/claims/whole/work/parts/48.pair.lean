/-! PAIRS OF CALLS: street, shut, prove, drop, undo, open, pass -/
section
variable {d : Nat} {M : es_M}
theorem rd0 {c : Nat} {j : Int} (q : c ≠ 91) : es_upd M 91 0 0 c j = M c j := es_upd_n q
theorem rd1 {j : Int} (q : j ≠ 0) : es_upd M 91 0 0 91 j = M 91 j := es_upd_j q
theorem P_street (h : Inv M) {a w : Int} : Pair (d + 20) 5 185 [.inl a, .inl w] M := by
  apply c_EveryStreet_street
  have hn := h.1.n
  refine s_isStreet (RepC.rf M) (fun a0 a1 => es_f1 ?_) (fun z => es_f0 ?_)
  · obtain ⟨t1, t2, t3, t4, t5, t6, t7, t8, t9, t10, t11, t12, t13, -⟩ := h.1.st a0 a1
    obtain ⟨b1, b2⟩ := h.1.sh.2 a a0 (by omega)
    have ba : 0 ≤ a ∧ a < 18 := by omega
    have ba2 : 0 ≤ a ∧ a < 36 := by omega
    have model : ∀ y : Int, ((w < 0 ∨ 6 < w) → y = -1) → (w = 0 → y = M 2 a) → (w = 1 → y = M 3 a) → (w = 2 → y = M 4 a) → (w = 3 → y = M 5 a) → (w = 4 → y = M 6 a) → (w = 5 → y = M 7 a) → (w = 6 → y = M 98 a) → es_Call (d + 20) 185 [.inr (.inr 91), .inl a, .inl w] M (fun y' M2 => y' = y ∧ Inv M2) := by
      intro y e1 e2 e3 e4 e5 e6 e7 e8
      apply c_Model_street
      refine s_m_isStreet h.1 rep0 (fun _ _ => es_t1 ?_) (fun q => absurd ⟨a0, a1⟩ q)
      apply c_Model_lookUp
      rw [show w32 (w32 (2 * a) + 1) = 2 * a + 1 from by unfold w32; omega, show w32 (2 * a) = 2 * a from by unfold w32; omega, rd0 (by decide), rd0 (by decide), rd0 (by decide), rd0 (by decide), rd0 (by decide), rd0 (by decide), rd0 (by decide), t6, t7, t8, t9, t11, t12]
      refine ⟨fun q => ⟨(e1 q).symm, h.th⟩, fun q => ⟨ba2, (e2 q).symm, h.th⟩, fun q => ⟨ba2, (e3 q).symm, h.th⟩, fun q => ⟨by omega, (e4 q).symm, h.th⟩, fun q => ⟨by omega, fun r => ⟨by have := e5 q; omega, h.th⟩, fun r => ⟨by omega, (e5 q).symm, h.th⟩⟩, fun q => ⟨ba2, (e6 q).symm, h.th⟩, fun q => ⟨ba2, (e7 q).symm, h.th⟩, fun q => ⟨ba, ?_⟩, trivial⟩
      have e8 := e8 q
      refine s_m_truth (fun r => ⟨?_, h.th⟩) (fun r => ⟨?_, h.th⟩)
      · by_cases z : ebit (M 14 4) a
        · rw [e8, (b1 z).1]
        · exact absurd (b2 z) r
      · omega
    refine ⟨fun q => model _ (fun _ => rfl) (fun _ => by omega) (fun _ => by omega) (fun _ => by omega) (fun _ => by omega) (fun _ => by omega) (fun _ => by omega) (fun _ => by omega),
      fun q => ⟨ba, model _ (fun _ => by omega) (fun _ => rfl) (fun _ => by omega) (fun _ => by omega) (fun _ => by omega) (fun _ => by omega) (fun _ => by omega) (fun _ => by omega)⟩,
      fun q => ⟨ba, model _ (fun _ => by omega) (fun _ => by omega) (fun _ => rfl) (fun _ => by omega) (fun _ => by omega) (fun _ => by omega) (fun _ => by omega) (fun _ => by omega)⟩,
      fun q => ⟨ba, model _ (fun _ => by omega) (fun _ => by omega) (fun _ => by omega) (fun _ => rfl) (fun _ => by omega) (fun _ => by omega) (fun _ => by omega) (fun _ => by omega)⟩,
      fun q => ⟨ba, model _ (fun _ => by omega) (fun _ => by omega) (fun _ => by omega) (fun _ => by omega) (fun _ => rfl) (fun _ => by omega) (fun _ => by omega) (fun _ => by omega)⟩,
      fun q => ⟨ba, model _ (fun _ => by omega) (fun _ => by omega) (fun _ => by omega) (fun _ => by omega) (fun _ => by omega) (fun _ => rfl) (fun _ => by omega) (fun _ => by omega)⟩,
      fun q => ⟨ba, model _ (fun _ => by omega) (fun _ => by omega) (fun _ => by omega) (fun _ => by omega) (fun _ => by omega) (fun _ => by omega) (fun _ => rfl) (fun _ => by omega)⟩,
      fun q => ?_, trivial⟩
    refine s_has h.1.sh.1.1 (by have := h.1.sh.1.2; omega) a0 (by omega) (fun z => es_t1 ?_) (fun z => es_t0 ?_)
    · exact model _ (fun _ => by omega) (fun _ => by omega) (fun _ => by omega) (fun _ => by omega) (fun _ => by omega) (fun _ => by omega) (fun _ => by omega) (fun _ => (b1 z).1.symm)
    · exact model _ (fun _ => by omega) (fun _ => by omega) (fun _ => by omega) (fun _ => by omega) (fun _ => by omega) (fun _ => by omega) (fun _ => by omega) (fun _ => (b2 z).symm)
  · exact c_Model_street (s_m_isStreet h.1 rep0 (fun q1 q2 => absurd ⟨q1, q2⟩ z) (fun _ => es_t0 ⟨rfl, h.th⟩))
theorem bit_or {b s t : Int} (b0 : 0 ≤ b) (s0 : 0 ≤ s) (t0 : 0 ≤ t) : ebit ((b.toNat ||| 2 ^ s.toNat : Nat) : Int) t ↔ ebit b t ∨ t = s := by
  unfold ebit
  rw [Int.toNat_natCast, Nat.testBit_or, Nat.testBit_two_pow, Bool.or_eq_true, decide_eq_true_eq]
  constructor
  · rintro (q | q)
    · exact Or.inl q
    · exact Or.inr (by omega)
  · rintro (q | q)
    · exact Or.inl q
    · exact Or.inr (by rw [q])
theorem bit_dif {b s t : Int} (b0 : 0 ≤ b) (s0 : 0 ≤ s) (t0 : 0 ≤ t) : ebit ((es_dif b.toNat (2 ^ s.toNat) : Nat) : Int) t ↔ ebit b t ∧ ¬ t = s := by
  unfold ebit
  rw [Int.toNat_natCast, es_dif_bit, Nat.testBit_two_pow, Bool.and_eq_true, Bool.not_eq_true', decide_eq_false_iff_not]
  constructor
  · rintro ⟨q, r⟩
    exact ⟨q, fun z => r (by rw [z])⟩
  · rintro ⟨q, r⟩
    exact ⟨q, fun z => r (by omega)⟩
theorem ei_dif {a b : Int} (a0 : 0 ≤ a) (a1 : a < 2147483648) (b0 : 0 ≤ b) (b1 : b < 2147483648) : es_and a (es_xor b (-1)) = ((es_dif a.toNat b.toNat : Nat) : Int) := by
  obtain ⟨x, rfl⟩ := Int.eq_ofNat_of_zero_le a0
  obtain ⟨y, rfl⟩ := Int.eq_ofNat_of_zero_le b0
  exact eb_dif (by omega) (by omega)
theorem P_shut (h : Inv M) {a w : Int} (hw : w = 0 ∨ w = 1) : Pair (d + 20) 11 198 [.inl a, .inl w] M := by
  apply c_EveryStreet_shut
  have hn := h.1.n
  refine s_isStreet (RepC.rf M) (fun a0 a1 => es_f1 ?_) (fun z => es_f0 ⟨es_b0, ?_⟩)
  · have hsh := h.1.sh
    have hp := pow31 a0 (show a < 31 by omega)
    have go : ∀ b' : Int, (0 ≤ b' ∧ b' < 262144) → (∀ s, 0 ≤ s → s < 18 → (ebit b' s → (if s = a then w else M 98 s) = 1 ∧ s < M 1 0) ∧ (¬ ebit b' s → (if s = a then w else M 98 s) = 0)) → es_Call (d + 20) 198 [.inr (.inr 91), .inl a, .inl w] (es_upd (es_upd M 14 4 b') 60 5 1) (fun y' M2 => y' = 1 ∧ Inv M2) := by
      intro b' hb hbit
      have e0 : Rep (es_upd (es_upd M 14 4 b') 60 5 1) (es_upd (es_upd (es_upd M 14 4 b') 60 5 1) 91 0 0) := (Rep.rf _).upd rfl
      apply c_Model_shut
      have e3 : es_upd (es_upd (es_upd M 14 4 b') 60 5 1) 91 0 0 91 3 = M 1 0 := by simp [es_upd]; exact hn.2.2
      apply c_Model_isStreet
      rw [e3, show w32 (M 1 0 - 1) = M 1 0 - 1 from by unfold w32; omega]
      refine s_m_in (fun _ _ => ⟨es_b1, es_f1 ⟨by omega, hw, es_b1, rfl, ?_⟩⟩) (fun q => absurd ⟨a0, by omega⟩ q)
      have e : Fr wk M (es_upd (es_upd (es_upd (es_upd M 14 4 b') 60 5 1) 91 0 0) 98 a w) := (((Fr.rf.upd rfl).upd rfl).upd rfl).upd rfl
      refine h.work e ?_ (CacheOK.stale (by simp [es_upd]))
      obtain ⟨h1, h2, h3, h4, h5, h6, h7, h8, h9⟩ := h.1.S
      refine ⟨?_, ?_, ?_, ?_, ?_, ?_, ?_, ?_, ?_⟩
      · simpa [es_upd, SIsc, mvN] using h1
      · refine ⟨by simpa [es_upd] using hb, fun s s0 s1 => ?_⟩
        have := hbit s s0 s1
        simpa [es_upd, mvN] using this
      · simpa [es_upd, mvN, SIhd] using h3
      · have := h4.congr (wk_tow e)
        simpa [es_upd, SIhp] using this
      · have := h5.congr (wk_tow e)
        simpa [es_upd, mvN, SIor] using this
      · simpa [es_upd, mvN, SIcu] using h6
      · simpa [es_upd, mvN, SIbz] using h7
      · simpa [es_upd, mvN, SIop] using h8
      · simpa [es_upd, mvN, SIst] using h9
    refine ⟨fun q => ⟨es_b1, es_b1, ?_⟩, fun q => ⟨es_b1, es_b1, ?_⟩⟩
    · rw [ei_shl a0 (by omega), ei_dif hsh.1.1 (by omega) (by omega) (by omega), hp.2.2]
      refine go _ ?_ (fun s s0 s1 => ?_)
      · have h1 : es_dif (M 14 4).toNat (2 ^ a.toNat) < 2 ^ 18 := Nat.xor_lt_two_pow (by omega) (Nat.lt_of_le_of_lt Nat.and_le_left (by omega))
        omega
      · rw [bit_dif hsh.1.1 a0 s0]
        have hs := hsh.2 s s0 s1
        by_cases e : s = a
        · rw [if_pos e]; exact ⟨fun z => absurd e z.2, fun _ => q⟩
        · rw [if_neg e]; exact ⟨fun z => hs.1 z.1, fun z => hs.2 (fun w => z ⟨w, e⟩)⟩
    · rw [ei_or1 hsh.1.1 (by omega) a0 (by omega)]
      refine go _ ?_ (fun s s0 s1 => ?_)
      · have h2 : 2 ^ a.toNat < 2 ^ 18 := Nat.pow_lt_pow_right (by decide) (by omega)
        have h1 : (M 14 4).toNat ||| 2 ^ a.toNat < 2 ^ 18 := Nat.or_lt_two_pow (by omega) h2
        omega
      · rw [bit_or hsh.1.1 a0 s0]
        have hs := hsh.2 s s0 s1
        by_cases e : s = a
        · rw [if_pos e]; exact ⟨fun _ => ⟨by omega, by omega⟩, fun z => absurd (Or.inr e) z⟩
        · rw [if_neg e]; exact ⟨fun z => hs.1 (z.resolve_right e), fun z => hs.2 (fun w => z (Or.inl w))⟩
  · exact c_Model_shut (s_m_isStreet h.1 rep0 (fun q1 q2 => absurd ⟨q1, q2⟩ z) (fun _ => es_f0 ⟨es_b0, rfl, h.th⟩))
theorem P_drop (h : Inv M) : Pair (d + 20) 20 216 [] M := by
  apply c_EveryStreet_drop
  apply c_Model_drop
  obtain ⟨h1, h2, h3, h4, h5, h6, h7, h8, h9⟩ := h.1.S
  refine ⟨?_, ?_⟩
  · have := h1.2.2.1.2.2
    simpa [es_upd, mvN] using this
  · have e : Fr wk M (es_upd (es_upd (es_upd M 14 3 0) 91 0 0) 91 30 0) := ((Fr.rf.upd rfl).upd rfl).upd rfl
    refine h.work e ?_ (h.cache e (by simp [es_upd]) (by simp [es_upd]) (by simp [es_upd]))
    refine ⟨?_, ?_, ?_, ?_, ?_, ?_, ?_, ?_, ?_⟩
    · unfold SIsc mvN at h1 ⊢
      simp [es_upd] at h1 ⊢
      omega
    · simpa [es_upd, mvN, SIsh] using h2
    · simpa [es_upd, mvN, SIhd] using h3
    · have := h4.congr (wk_tow e)
      simpa [es_upd, SIhp] using this
    · have := h5.congr (wk_tow e)
      simpa [es_upd, mvN, SIor] using this
    · intro i i0 i1
      simp [es_upd] at i1
      omega
    · simpa [es_upd, mvN, SIbz] using h7
    · simpa [es_upd, mvN, SIop] using h8
    · simpa [es_upd, mvN, SIst] using h9
theorem P_undo (h : Inv M) {n : Int} : Pair (d + 20) 27 240 [.inl n] M := by
  apply c_EveryStreet_undo
  obtain ⟨h1, h2, h3, h4, h5, h6, h7, h8, h9⟩ := h.1.S
  have hh : M 91 41 = M 14 1 := h1.1.2.2
  have no : ¬ (0 ≤ n ∧ n ≤ M 14 1) → es_Call (d + 20) 240 [.inr (.inr 91), .inl n] M (fun y' M2 => y' = 0 ∧ Inv M2) := by
    intro q
    apply c_Model_undo
    rw [rd1 (by decide), hh]
    exact s_m_in (fun q1 q2 => absurd ⟨q1, q2⟩ q) (fun _ => es_f0 ⟨es_b0, rfl, h.th⟩)
  refine ⟨fun q => ⟨es_b0, no (by omega)⟩, fun q => ⟨fun q2 => ⟨es_b1, ?_⟩, fun q2 => ⟨es_b0, no (by omega)⟩⟩⟩
  apply c_Model_undo
  have e41 : es_upd (es_upd M 14 1 n) 91 0 0 91 41 = M 14 1 := by simp [es_upd]; exact hh
  rw [e41]
  refine s_m_in (fun _ _ => es_f1 ⟨es_b1, rfl, ?_⟩) (fun q3 => absurd ⟨by omega, q2⟩ q3)
  have e : Fr wk M (es_upd (es_upd (es_upd M 14 1 n) 91 0 0) 91 41 n) := ((Fr.rf.upd rfl).upd rfl).upd rfl
  refine h.work e ?_ (h.cache e (by simp [es_upd]) (by simp [es_upd]) (by simp [es_upd]))
  have hr := h1.1
  refine ⟨?_, ?_, ?_, ?_, ?_, ?_, ?_, ?_, ?_⟩
  · unfold SIsc mvN at h1 ⊢
    simp [es_upd] at h1 ⊢
    omega
  · simpa [es_upd, mvN, SIsh] using h2
  · intro i i0 i1
    have i1 : i < n := by simpa [es_upd] using i1
    have := h3 i i0 (by omega)
    simpa [es_upd, mvN] using this
  · intro i i0 i1
    have i1 : i + 1 < n := by simpa [es_upd] using i1
    have := (h4.congr (wk_tow e)) i i0 (by omega)
    simpa [es_upd] using this
  · have := h5.congr (wk_tow e)
    simpa [es_upd, mvN, SIor] using this
  · simpa [es_upd, mvN, SIcu] using h6
  · simpa [es_upd, mvN, SIbz] using h7
  · simpa [es_upd, mvN, SIop] using h8
  · simpa [es_upd, mvN, SIst] using h9
theorem P_prove (h : Inv M) {b k : Int} : Pair (d + 20) 18 214 [.inl b, .inl k] M := by
  apply c_EveryStreet_prove
  obtain ⟨h1, h2, h3, h4, h5, h6, h7, h8, h9⟩ := h.1.S
  have hh : M 91 30 = M 14 3 := h1.2.2.1.2.2
  have hr := h1.2.2.1
  have no : ¬ ((0 ≤ b ∧ b ≤ 4095) ∧ (1 ≤ k ∧ k ≤ 99) ∧ M 14 3 < 12) → es_Call (d + 20) 214 [.inr (.inr 91), .inl b, .inl k] M (fun y' M2 => y' = -1 ∧ Inv M2) := by
    intro q
    apply c_Model_prove
    refine s_m_in (fun q1 q2 => es_t1 (s_m_in (fun q3 q4 => es_t1 ⟨fun z => ?_, fun z => ⟨rfl, h.th⟩⟩) (fun _ => es_t0 ⟨rfl, h.th⟩))) (fun _ => es_t0 ⟨rfl, h.th⟩)
    rw [rd1 (by decide), hh] at z
    omega
  refine ⟨fun q => no (by omega), fun q1 => ⟨fun q => no (by omega), fun q2 => ⟨fun q => no (by omega), fun q3 => ⟨fun q => no (by omega), fun q4 => ⟨fun q5 => ⟨by omega, ?_, ?_⟩, fun q => no (by omega)⟩⟩⟩⟩⟩
  · rw [es_upd_n (by decide)]; omega
  · rw [es_upd_s, es_upd_n (c := 18) (by decide), es_upd_n (c := 19) (by decide), es_upd_n (c := 18) (by decide), show w32 (M 14 3 + 1) = M 14 3 + 1 from by unfold w32; omega]
    apply c_Model_prove
    have e30 : es_upd (es_upd (es_upd (es_upd M 18 (M 14 3) b) 19 (M 14 3) k) 14 3 (M 14 3 + 1)) 91 0 0 91 30 = M 14 3 := by simp [es_upd]; exact hh
    refine s_m_in (fun _ _ => es_t1 (s_m_in (fun _ _ => es_t1 ⟨fun z => ?_, fun z => ?_⟩) (fun q => absurd ⟨by omega, by omega⟩ q))) (fun q => absurd ⟨by omega, by omega⟩ q)
    · rw [es_upd_s, es_upd_n (c := 113) (by decide), es_upd_n (c := 112) (by decide), e30, show w32 (M 14 3 + 1) = M 14 3 + 1 from by unfold w32; omega]
      refine ⟨by omega, by omega, rfl, ?_⟩
      have e : Fr wk M (es_upd (es_upd (es_upd (es_upd (es_upd (es_upd (es_upd M 18 (M 14 3) b) 19 (M 14 3) k) 14 3 (M 14 3 + 1)) 91 0 0) 112 (M 14 3) b) 113 (M 14 3) k) 91 30 (M 14 3 + 1)) := ((((((Fr.rf.upd rfl).upd rfl).upd rfl).upd rfl).upd rfl).upd rfl).upd rfl
      refine h.work e ?_ (h.cache e (by simp [es_upd]) (by simp [es_upd]) (by simp [es_upd]))
      refine ⟨?_, ?_, ?_, ?_, ?_, ?_, ?_, ?_, ?_⟩
      · unfold SIsc mvN at h1 ⊢
        simp [es_upd] at h1 ⊢
        omega
      · simpa [es_upd, mvN, SIsh] using h2
      · simpa [es_upd, mvN, SIhd] using h3
      · have := h4.congr (wk_tow e)
        simpa [es_upd, SIhp] using this
      · have := h5.congr (wk_tow e)
        simpa [es_upd, mvN, SIor] using this
      · intro i i0 i1
        have i1 : i < M 14 3 + 1 := by simpa [es_upd] using i1
        by_cases z : i = M 14 3
        · subst z
          simp [es_upd, mvN]
          omega
        · have := h6 i i0 (by omega)
          simpa [es_upd, mvN, z] using this
      · simpa [es_upd, mvN, SIbz] using h7
      · simpa [es_upd, mvN, SIop] using h8
      · simpa [es_upd, mvN, SIst] using h9
    · rw [e30] at z; omega
theorem P_open (h : Inv M) {s a b : Int} : Pair (d + 20) 34 248 [.inl s, .inl a, .inl b] M := by
  apply c_EveryStreet_open
  have hn := h.1.n
  obtain ⟨h1, h2, h3, h4, h5, h6, h7, h8, h9⟩ := h.1.S
  have no : ¬ ((0 ≤ s ∧ s < M 1 0) ∧ (0 ≤ a ∧ a < 1440) ∧ (0 ≤ b ∧ b < 1440) ∧ a ≤ b) → es_Call (d + 20) 248 [.inr (.inr 91), .inl s, .inl a, .inl b] M (fun y' M2 => y' = 0 ∧ Inv M2) := by
    intro q
    apply c_Model_open
    refine s_m_isStreet h.1 rep0 (fun q1 q2 => es_t1 (s_m_in (fun q3 q4 => es_t1 (s_m_in (fun q5 q6 => absurd ⟨⟨q1, q2⟩, ⟨q3, by omega⟩, ⟨by omega, by omega⟩, q5⟩ q) (fun _ => es_f0 ⟨es_b0, rfl, h.th⟩))) (fun _ => es_t0 ⟨es_b0, rfl, h.th⟩))) (fun _ => es_t0 ⟨es_b0, rfl, h.th⟩)
  refine s_isStreet (RepC.rf M) (fun s0 s1 => es_t1 ?_) (fun q => es_t0 ⟨es_b0, no (fun z => q z.1)⟩)
  refine s_isMinute (fun a0 a1 => es_t1 ?_) (fun q => es_t0 ⟨es_b0, no (fun z => q z.2.1)⟩)
  refine s_isMinute (fun b0 b1 => es_t1 ?_) (fun q => es_t0 ⟨es_b0, no (fun z => q z.2.2.1)⟩)
  refine ⟨fun q => ⟨by omega, by omega, es_b1, ?_⟩, fun q => ⟨es_b0, no (fun z => q z.2.2.2)⟩⟩
  apply c_Model_open
  have e3 : es_upd (es_upd (es_upd M 21 s a) 22 s b) 91 0 0 91 3 = M 1 0 := by simp [es_upd]; exact hn.2.2
  apply c_Model_isStreet
  rw [e3, show w32 (M 1 0 - 1) = M 1 0 - 1 from by unfold w32; omega]
  refine s_m_in (fun _ _ => ⟨es_b1, es_t1 (s_m_in (fun _ _ => es_t1 (s_m_in (fun _ _ => es_f1 ⟨by omega, by omega, es_b1, rfl, ?_⟩) (fun q => absurd ⟨by omega, by omega⟩ q))) (fun q => absurd ⟨by omega, by omega⟩ q))⟩) (fun q => absurd ⟨by omega, by omega⟩ q)
  have e : Fr wk M (es_upd (es_upd (es_upd (es_upd (es_upd M 21 s a) 22 s b) 91 0 0) 99 s a) 100 s b) := ((((Fr.rf.upd rfl).upd rfl).upd rfl).upd rfl).upd rfl
  refine h.work e ?_ (h.cache e (by simp [es_upd]) (by simp [es_upd]) (by simp [es_upd]))
  refine ⟨?_, ?_, ?_, ?_, ?_, ?_, ?_, ?_, ?_⟩
  · simpa [es_upd, SIsc, mvN] using h1
  · simpa [es_upd, mvN, SIsh] using h2
  · simpa [es_upd, mvN, SIhd] using h3
  · have := h4.congr (wk_tow e)
    simpa [es_upd, SIhp] using this
  · have := h5.congr (wk_tow e)
    simpa [es_upd, mvN, SIor] using this
  · simpa [es_upd, mvN, SIcu] using h6
  · simpa [es_upd, mvN, SIbz] using h7
  · intro t t0 t1
    by_cases z : t = s
    · subst z
      simp [es_upd, mvN]
      omega
    · have := h8 t t0 t1
      simpa [es_upd, mvN, z] using this
  · simpa [es_upd, mvN, SIst] using h9
theorem P_pass (h : Inv M) {i w : Int} : Pair (d + 20) 40 265 [.inl i, .inl w] M := by
  apply c_EveryStreet_pass
  obtain ⟨h1, h2, h3, h4, h5, h6, h7, h8, h9⟩ := h.1.S
  have hh : M 91 47 = M 14 2 := h1.2.1.2.2
  have hr := h1.2.1
  have hv := h.1.v
  have model : ∀ y : Int, (¬ (0 ≤ i ∧ i < M 14 2) ∨ ¬ (w = 0 ∨ w = 1) → y = -1) → (0 ≤ i → i < M 14 2 → w = 0 → y = M 17 i / 2) → (0 ≤ i → i < M 14 2 → w = 1 → y = M 17 i % 2) → es_Call (d + 20) 265 [.inr (.inr 91), .inl i, .inl w] M (fun y' M2 => y' = y ∧ Inv M2) := by
    intro y e1 e2 e3
    apply c_Model_pass
    rw [rd1 (by decide), hh, show w32 (M 14 2 - 1) = M 14 2 - 1 from by unfold w32; omega]
    refine s_m_in (fun q1 q2 => es_t1 (s_m_in (fun q3 q4 => es_f1 ⟨fun z => ⟨by omega, ?_⟩, fun z => ⟨by omega, ?_⟩⟩) (fun q => es_f0 ⟨(e1 (Or.inr (by omega))).symm, h.th⟩))) (fun q => es_t0 ⟨(e1 (Or.inl (by omega))).symm, h.th⟩)
    · have h5i : M 126 i = M 17 i % 2 := (h5.1 i (by omega) (by omega)).2.2.1
      have e3 := e3 (by omega) (by omega) (by omega)
      rw [rd0 (by decide), h5i]
      refine s_m_truth (fun q => ⟨by omega, h.th⟩) (fun q => ⟨by omega, h.th⟩)
    · have h5i : M 125 i = M 17 i / 2 := (h5.1 i (by omega) (by omega)).2.1
      rw [rd0 (by decide), h5i]
      exact ⟨(e2 (by omega) (by omega) z).symm, h.th⟩
  refine ⟨fun q => model _ (fun _ => rfl) (fun _ => by omega) (fun _ => by omega), fun q => ⟨fun q2 => ?_, fun q2 => model _ (fun _ => rfl) (fun _ => by omega) (fun _ => by omega)⟩⟩
  have h5i := (h5.1 i (by omega) (by omega)).1
  have h5i : 0 ≤ M 17 i ∧ M 17 i < 2 * M 1 1 := h5i
  rw [ei_shr1 h5i.1 (by omega), ei_and1 h5i.1 (by omega)]
  exact ⟨fun z => model _ (fun _ => rfl) (fun _ _ _ => by omega) (fun _ _ _ => by omega), fun z => ⟨by omega, model _ (fun _ => by omega) (fun _ _ _ => rfl) (fun _ _ _ => by omega)⟩, fun z => ⟨fun z2 => ⟨by omega, model _ (fun _ => by omega) (fun _ _ _ => by omega) (fun _ _ _ => rfl)⟩, fun _ => trivial⟩⟩
end
