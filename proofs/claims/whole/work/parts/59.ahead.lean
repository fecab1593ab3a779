/-! PAIRS OF CALLS: ahead -/
def swN (T : es_M) : Nat → Nat → Nat
  | 0, b => b
  | k + 1, b => if (swN T k b).testBit k then swN T k b ||| (T 12 k).toNat else swN T k b
def rdN (T : es_M) (n : Nat) : Nat → Nat → Nat
  | 0, b => b
  | r + 1, b => swN T n (rdN T n r b)
theorem swN_up {T : es_M} (b i : Nat) : ∀ k, b.testBit i = true → (swN T k b).testBit i = true := by
  intro k h
  induction k with
  | zero => exact h
  | succ k ih =>
    show (if (swN T k b).testBit k then swN T k b ||| (T 12 k).toNat else swN T k b).testBit i = true
    split
    · rw [Nat.testBit_or, ih]; rfl
    · exact ih
theorem swN_lt {T : es_M} (hT : TI T) {b : Nat} (hb : b < 2 ^ (T 1 1).toNat) : ∀ k : Nat, (k : Int) ≤ T 1 1 → swN T k b < 2 ^ (T 1 1).toNat := by
  intro k
  have hv := hT.v
  induction k with
  | zero => intro _; exact hb
  | succ k ih =>
    intro hk
    show (if (swN T k b).testBit k then swN T k b ||| (T 12 k).toNat else swN T k b) < _
    have a := hT.ah (v := k) (by omega) (by omega)
    have e : (2 : Int) ^ (T 1 1).toNat = ((2 ^ (T 1 1).toNat : Nat) : Int) := by simp
    split
    · exact Nat.or_lt_two_pow (ih (by omega)) (by omega)
    · exact ih (by omega)
theorem rdN_lt {T : es_M} (hT : TI T) {b : Nat} (hb : b < 2 ^ (T 1 1).toNat) : ∀ r, rdN T (T 1 1).toNat r b < 2 ^ (T 1 1).toNat := by
  intro r
  have hv := hT.v
  induction r with
  | zero => exact hb
  | succ r ih => exact swN_lt hT ih (T 1 1).toNat (by omega)
theorem pcN_mono {a b : Nat} : ∀ m, (∀ i, i < m → a.testBit i = true → b.testBit i = true) → pcN m a ≤ pcN m b ∧ ((∃ i, i < m ∧ a.testBit i = false ∧ b.testBit i = true) → pcN m a < pcN m b) := by
  intro m
  induction m with
  | zero => intro _; exact ⟨Nat.le_refl _, fun ⟨i, hi, _⟩ => by omega⟩
  | succ m ih =>
    intro h
    obtain ⟨i1, i2⟩ := ih (fun i hi => h i (by omega))
    show pcN m a + (if a.testBit m then 1 else 0) ≤ pcN m b + (if b.testBit m then 1 else 0) ∧ (_ → pcN m a + (if a.testBit m then 1 else 0) < pcN m b + (if b.testBit m then 1 else 0))
    have hm := h m (by omega)
    constructor
    · by_cases q : a.testBit m = true
      · rw [if_pos q, if_pos (hm q)]; omega
      · rw [if_neg q]; split <;> omega
    · rintro ⟨i, hi, p1, p2⟩
      by_cases e : i = m
      · subst e
        rw [p1, p2]
        simp only [if_true]
        simp
        omega
      · have := i2 ⟨i, by omega, p1, p2⟩
        by_cases q : a.testBit m = true
        · rw [if_pos q, if_pos (hm q)]; omega
        · rw [if_neg q]; split <;> omega
theorem bits_ne {n a b : Nat} (ha : a < 2 ^ n) (hb : b < 2 ^ n) (hu : ∀ i, a.testBit i = true → b.testBit i = true) (h : b ≠ a) : ∃ i, i < n ∧ a.testBit i = false ∧ b.testBit i = true := by
  refine Classical.byContradiction fun z => h ?_
  apply Nat.eq_of_testBit_eq
  intro i
  by_cases q : i < n
  · by_cases p : a.testBit i = true
    · rw [p, hu i p]
    · rw [Bool.not_eq_true] at p
      rw [p, ← Bool.not_eq_true]
      exact fun w => z ⟨i, q, p, w⟩
  · have e : 2 ^ n ≤ 2 ^ i := Nat.pow_le_pow_right (by decide) (by omega)
    rw [Nat.testBit_lt_two_pow (by omega), Nat.testBit_lt_two_pow (by omega)]
theorem rdN_fix {T : es_M} (hT : TI T) {b : Nat} (hb : b < 2 ^ (T 1 1).toNat) : rdN T (T 1 1).toNat 10 b = rdN T (T 1 1).toNat (T 1 1).toNat b := by
  have hv := hT.v
  have hl := rdN_lt hT hb
  have fx : ∀ r, rdN T (T 1 1).toNat (r + 1) b = rdN T (T 1 1).toNat r b → ∀ s, rdN T (T 1 1).toNat (r + s) b = rdN T (T 1 1).toNat r b := by
    intro r h s
    induction s with
    | zero => rfl
    | succ s ih => show swN T (T 1 1).toNat (rdN T (T 1 1).toNat (r + s) b) = _; rw [ih]; exact h
  have key : ∀ r, (∃ r', r' < r ∧ rdN T (T 1 1).toNat (r' + 1) b = rdN T (T 1 1).toNat r' b) ∨ r ≤ pcN (T 1 1).toNat (rdN T (T 1 1).toNat r b) := by
    intro r
    induction r with
    | zero => exact Or.inr (Nat.zero_le _)
    | succ r ih =>
      rcases ih with ⟨r', h1, h2⟩ | ih
      · exact Or.inl ⟨r', by omega, h2⟩
      · by_cases q : rdN T (T 1 1).toNat (r + 1) b = rdN T (T 1 1).toNat r b
        · exact Or.inl ⟨r, by omega, q⟩
        · refine Or.inr ?_
          have hu : ∀ i, (rdN T (T 1 1).toNat r b).testBit i = true → (rdN T (T 1 1).toNat (r + 1) b).testBit i = true := fun i p => swN_up _ i _ p
          have := (pcN_mono (T 1 1).toNat (fun i _ => hu i)).2 (bits_ne (hl r) (hl (r + 1)) hu q)
          omega
  rcases key ((T 1 1).toNat + 1) with ⟨r, h1, h2⟩ | h
  · have e1 := fx r h2 (10 - r)
    have e2 := fx r h2 ((T 1 1).toNat - r)
    rw [show r + (10 - r) = 10 by omega] at e1
    rw [show r + ((T 1 1).toNat - r) = (T 1 1).toNat by omega] at e2
    rw [e1, e2]
  · have := pcN_le (T 1 1).toNat (rdN T (T 1 1).toNat ((T 1 1).toNat + 1) b)
    omega
def aaF (T : es_M) (v : Int) : Nat := rdN T (T 1 1).toNat (T 1 1).toNat (T 12 v).toNat
theorem swN_s {T : es_M} {b : Nat} {k : Int} (k0 : 0 ≤ k) : swN T (k + 1).toNat b = if ebit (swN T k.toNat b : Nat) k then swN T k.toNat b ||| (T 12 k).toNat else swN T k.toNat b := by
  rw [toN1 k0]
  show (if (swN T k.toNat b).testBit k.toNat then swN T k.toNat b ||| (T 12 (k.toNat : Nat)).toNat else swN T k.toNat b) = _
  rw [toNI k0]
  unfold ebit
  rw [Int.toNat_natCast]
section
variable {d : Nat} {Q : Int → es_M → Prop} {T M : es_M}
theorem ah0 (hT : TI T) {v : Int} (v0 : 0 ≤ v) (v1 : v < 10) : (T 12 v).toNat < 2 ^ (T 1 1).toNat ∧ (2 : Nat) ^ (T 1 1).toNat ≤ 1024 := by
  have a := hT.ah v0 v1
  have hv := hT.v
  have e : (2 : Int) ^ (T 1 1).toNat = ((2 ^ (T 1 1).toNat : Nat) : Int) := by simp
  have : (2 : Nat) ^ (T 1 1).toNat ≤ 2 ^ 10 := Nat.pow_le_pow_right (by decide) (by omega)
  omega
theorem s_allAheadOf (hT : TI T) (hR : RepC T M) {v : Int} (v0 : 0 ≤ v) (v1 : v < T 1 1) (h : Q (aaF T v : Nat) M) : es_Call (d + 2) 57 [.inr (.inr 1), .inl v] M Q := by
  apply m_Town_allAheadOf
  intro G hG
  apply k_Town_allAheadOf_0 hG
  have hv := hT.v
  obtain ⟨a0, a1⟩ := ah0 hT v0 (show v < 10 by omega)
  have an := (hT.ah v0 (show v < 10 by omega)).2.1
  rw [hR 12 _ rfl]
  refine ⟨by omega, ?_⟩
  have : G 9 [lr 1, none, li (rdN T (T 1 1).toNat (0 : Int).toNat (T 12 v).toNat : Nat), li 0, none] [] M := by
    refine es_up (P := fun r => G 9 [lr 1, none, li (rdN T (T 1 1).toNat r.toNat (T 12 v).toNat : Nat), li r, none] [] M) (n := 10) (by decide) ?_ ?_
    · apply k_Town_allAheadOf_9 hG
      refine ⟨fun _ => ?_, fun z => absurd (Int.le_refl _) z⟩
      show Q (rdN T (T 1 1).toNat 10 (T 12 v).toNat : Nat) M
      rw [rdN_fix hT a0]; exact h
    · intro r r0 r1 ih
      apply k_Town_allAheadOf_9 hG
      refine ⟨fun z => absurd z (by omega), fun _ => ?_⟩
      have hl := rdN_lt hT a0 r.toNat
      rw [toN1 r0] at ih
      refine es_up (P := fun k => G 18 [lr 1, none, li (swN T k.toNat (rdN T (T 1 1).toNat r.toNat (T 12 v).toNat) : Nat), li r, li k] [] M) hv.1 ?_ ?_
      · apply k_Town_allAheadOf_18 hG
        rw [hR 1 1 rfl, w32_1 (k := r) (by omega) (by omega)]
        exact ⟨fun _ => ih, fun z => absurd (Int.le_refl _) z⟩
      · intro k k0 k1 ih2
        apply k_Town_allAheadOf_18 hG
        have hs := swN_lt hT hl k.toNat (by omega)
        obtain ⟨c0, -⟩ := ah0 hT k0 (show k < 10 by omega)
        have cn := (hT.ah k0 (show k < 10 by omega)).2.1
        rw [hR 1 1 rfl, w32_1 (k := k) (by omega) (by omega)]
        rw [swN_s k0] at ih2
        refine ⟨fun z => absurd z (by omega), fun _ => s_has (by omega) (by omega) k0 (by omega) (fun q => es_t1 ⟨by omega, ?_⟩) (fun q => es_t0 ?_)⟩
        · rw [if_pos q] at ih2
          rw [hR 12 _ rfl, ei_or (by omega) (by omega) cn (by omega), Int.toNat_natCast]; exact ih2
        · rw [if_neg q] at ih2; exact ih2
  rw [show (rdN T (T 1 1).toNat (0 : Int).toNat (T 12 v).toNat : Nat) = (T 12 v).toNat from rfl, toNI an] at this
  exact this
theorem s_m_allAhead (hT : TI T) (hR : RepM T M) {v : Int} (v0 : 0 ≤ v) (v1 : v < T 1 1) (h : Q (aaF T v : Nat) M) : es_Call (d + 2) 196 [.inr (.inr 91), .inl v] M Q := by
  apply m_Model_allAhead
  intro G hG
  apply k_Model_allAhead_0 hG
  have hv := hT.v
  obtain ⟨a0, a1⟩ := ah0 hT v0 (show v < 10 by omega)
  have an := (hT.ah v0 (show v < 10 by omega))
  rw [hR 108 _ rfl, an.1]
  refine ⟨by omega, ?_⟩
  have : G 9 [lr 91, none, li (rdN T (T 1 1).toNat (0 : Int).toNat (T 12 v).toNat : Nat), li 0, none] [] M := by
    refine es_up (P := fun r => G 9 [lr 91, none, li (rdN T (T 1 1).toNat r.toNat (T 12 v).toNat : Nat), li r, none] [] M) hv.1 ?_ ?_
    · apply k_Model_allAhead_9 hG
      rw [hR 91 23 rfl, hv.2.2]
      exact ⟨fun _ => h, fun z => absurd (Int.le_refl _) z⟩
    · intro r r0 r1 ih
      apply k_Model_allAhead_9 hG
      rw [hR 91 23 rfl, hv.2.2]
      refine ⟨fun z => absurd z (by omega), fun _ => ?_⟩
      have hl := rdN_lt hT a0 r.toNat
      rw [toN1 r0] at ih
      refine es_up (P := fun k => G 20 [lr 91, none, li (swN T k.toNat (rdN T (T 1 1).toNat r.toNat (T 12 v).toNat) : Nat), li r, li k] [] M) hv.1 ?_ ?_
      · apply k_Model_allAhead_20 hG
        rw [hR 91 23 rfl, hv.2.2, w32_1 (k := r) (by omega) (by omega)]
        exact ⟨fun _ => ih, fun z => absurd (Int.le_refl _) z⟩
      · intro k k0 k1 ih2
        apply k_Model_allAhead_20 hG
        have hs := swN_lt hT hl k.toNat (by omega)
        obtain ⟨c0, -⟩ := ah0 hT k0 (show k < 10 by omega)
        have cn := (hT.ah k0 (show k < 10 by omega))
        rw [hR 91 23 rfl, hv.2.2, w32_1 (k := k) (by omega) (by omega)]
        rw [swN_s k0] at ih2
        refine ⟨fun z => absurd z (by omega), fun _ => s_m_has (by omega) (by omega) k0 (by omega) (fun q => es_t1 ⟨by omega, ?_⟩) (fun q => es_t0 ?_)⟩
        · rw [if_pos q] at ih2
          rw [hR 108 _ rfl, cn.1, ei_or (by omega) (by omega) cn.2.1 (by omega), Int.toNat_natCast]; exact ih2
        · rw [if_neg q] at ih2
          rw [ei_or0 (by omega) (by omega)]; exact ih2
  rw [show (rdN T (T 1 1).toNat (0 : Int).toNat (T 12 v).toNat : Nat) = (T 12 v).toNat from rfl, toNI an.2.1] at this
  exact this
end
/-! frames with another order of services -/
def tow2 (M M' : es_M) : Prop := ∀ c, 1 ≤ c ∧ c ≤ 13 ∧ c ≠ 12 → M' c = M c
theorem SIhp.congr2 {M M' : es_M} (e : tow2 M M') {n : Int} {h p : Int → Int} (q : SIhp M n h p) : SIhp M' n h p := by
  unfold SIhp at q ⊢
  rw [og_congr (e 2 (by decide)) (e 3 (by decide)), gl_congr (e 2 (by decide)) (e 3 (by decide)), ln_congr (e 4 (by decide)) (e 5 (by decide)), e 1 (by decide)]
  exact q
theorem SIor.congr2 {M M' : es_M} (e : tow2 M M') {n : Int} {o g2 g3 : Int → Int} (q : SIor M n o g2 g3) : SIor M' n o g2 g3 := by
  unfold SIor at q ⊢
  rw [canDo_congr (e 4 (by decide)) (e 5 (by decide)) (e 10 (by decide)) (e 13 (by decide)), e 1 (by decide)]
  exact q
theorem SI.congr2 {M M' : es_M} (e : tow2 M M') {c : Nat} {mv mv' : Nat → Int → Int} (h : SI M c mv) (ec : ∀ i, i ≤ 9 → M' (c + i) = M (c + i)) (em : mv' = mv) : SI M' c mv' := by
  obtain ⟨h1, h2, h3, h4, h5, h6, h7, h8, h9⟩ := h
  have e0 : M' c = M c := ec 0 (by omega)
  unfold SI
  rw [e0, ec 1 (by omega), ec 2 (by omega), ec 3 (by omega), ec 4 (by omega), ec 5 (by omega), ec 6 (by omega), ec 7 (by omega), ec 8 (by omega), ec 9 (by omega), em, e 1 (by decide)]
  exact ⟨h1, h2, h3, h4.congr2 e, h5.congr2 e, h6, h7, h8, h9⟩
theorem TItown.congr2 {M M' : es_M} (h : TItown M) (e : ∀ c, ((1 ≤ c ∧ c ≤ 13) ∨ (93 ≤ c ∧ c ≤ 97) ∨ c = 101 ∨ (106 ≤ c ∧ c ≤ 107)) ∧ c ≠ 12 → M' c = M c) (e3 : M' 91 3 = M 91 3) (e23 : M' 91 23 = M 91 23) (ha : ∀ v, 0 ≤ v → v < 10 → M' 108 v = M' 12 v ∧ 0 ≤ M' 12 v ∧ M' 12 v < 2 ^ (M 1 1).toNat ∧ (M 1 1 ≤ v → M' 12 v = 0) ∧ ¬ ebit (M' 12 v) v) : TItown M' := by
  have a1 := e 1 (by decide)
  have a2 := e 2 (by decide)
  have a3 := e 3 (by decide)
  have a4 := e 4 (by decide)
  have a5 := e 5 (by decide)
  have a6 := e 6 (by decide)
  have a7 := e 7 (by decide)
  have a8 := e 8 (by decide)
  have a9 := e 9 (by decide)
  have a10 := e 10 (by decide)
  have a11 := e 11 (by decide)
  have a13 := e 13 (by decide)
  have b3 := e 93 (by decide)
  have b4 := e 94 (by decide)
  have b5 := e 95 (by decide)
  have b6 := e 96 (by decide)
  have b7 := e 97 (by decide)
  have c1 := e 101 (by decide)
  have c6 := e 106 (by decide)
  have c7 := e 107 (by decide)
  unfold TItown TIst TIsv at h ⊢
  rw [a1, a2, a3, a4, a5, a6, a7, a8, a9, a10, a11, a13, b3, b4, b5, b6, b7, c6, c7, e3, e23, preS_congr a6, oddN_congr a2 a3 a10, turnsN_congr c1, c1]
  exact ⟨h.1, h.2.1, h.2.2.1, h.2.2.2.1, h.2.2.2.2.1, h.2.2.2.2.2.1, h.2.2.2.2.2.2.1, h.2.2.2.2.2.2.2.1, h.2.2.2.2.2.2.2.2.1, h.2.2.2.2.2.2.2.2.2.1, ha, h.2.2.2.2.2.2.2.2.2.2.2⟩
def wa (c : Nat) (j : Int) : Bool := Nat.beq c 12 || Nat.beq c 108 || (Nat.beq c 91 && decide (j = 0))
theorem Inv.ahead {M M' : es_M} (h : Inv M) (e : Fr wa M M') (ha : ∀ v, 0 ≤ v → v < 10 → M' 108 v = M' 12 v ∧ 0 ≤ M' 12 v ∧ M' 12 v < 2 ^ (M 1 1).toNat ∧ (M 1 1 ≤ v → M' 12 v = 0) ∧ ¬ ebit (M' 12 v) v) : Inv M' := by
  obtain ⟨⟨h1, h2, h3, h4, h5⟩, hr, hc⟩ := h
  have c54 : ∀ c, c ≤ 54 → c ≠ 12 → M' c = M c := by
    intro c hc hn
    refine e.cell c fun j => ?_
    unfold wa
    have z : ∀ k : Nat, 54 < k → Nat.beq c k = false := fun k hk => by rw [← Bool.not_eq_true, Nat.beq_eq]; omega
    have z2 : Nat.beq c 12 = false := by rw [← Bool.not_eq_true, Nat.beq_eq]; exact hn
    simp [z 108 (by decide), z2, z 91 (by decide)]
  have tw : tow2 M M' := fun c hc => c54 c (by omega) (by omega)
  refine ⟨⟨h1.congr2 (fun c hc => ?_) (e 91 3 rfl) (e 91 23 rfl) ha, h2.congr2 tw (fun i hi => c54 _ (by omega) (by omega)) ?_, ?_, h4.congr (e 55 1 rfl) (e 91 16 rfl) (e.cell 56 fun _ => rfl) (e.cell 103 fun _ => rfl), fun i a b => by rw [e 109 i rfl]; exact h5 i a b⟩, ?_, ?_⟩
  · obtain ⟨hc, hn⟩ := hc
    rcases hc with hc | hc | hc | hc
    · exact c54 c (by omega) hn
    · rcases (show c = 93 ∨ c = 94 ∨ c = 95 ∨ c = 96 ∨ c = 97 by omega) with rfl | rfl | rfl | rfl | rfl <;> exact e.cell _ fun _ => rfl
    · subst hc; exact e.cell _ fun _ => rfl
    · rcases (show c = 106 ∨ c = 107 by omega) with rfl | rfl <;> exact e.cell _ fun _ => rfl
  · funext k j
    unfold mvN
    rw [e 91 41 rfl, e 91 47 rfl, e 91 30 rfl, e 91 13 rfl, e 120 j rfl, e 125 j rfl, e 126 j rfl, e 112 j rfl, e 113 j rfl, e 98 j rfl, e 99 j rfl, e 100 j rfl, e 121 j rfl, e 102 j rfl]
  · intro i hi
    obtain ⟨k1, k2, k3⟩ := h3 i hi
    rw [c54 (25 + 10 * i) (by omega) (by omega), e 137 _ rfl]
    exact ⟨k1, k2, fun z => (k3 z).congr2 tw (fun j hj => c54 _ (by omega) (by omega)) (mvK_congr (e.cell 138 fun _ => rfl) _)⟩
  · unfold RowEq at hr ⊢
    rw [e.cell 58 fun _ => rfl, e.cell 59 fun _ => rfl, e 91 1 rfl, e.cell 92 fun _ => rfl]
    exact hr
  · exact hc.congr (stp_congr (c54 2 (by omega) (by omega)) (c54 3 (by omega) (by omega)) (c54 4 (by omega) (by omega)) (c54 5 (by omega) (by omega)) (c54 9 (by omega) (by omega)) (c54 14 (by omega) (by omega))) (c54 1 (by omega) (by omega)) (e 60 5 rfl) (e.cell 61 fun _ => rfl) (e.cell 62 fun _ => rfl) (e.cell 63 fun _ => rfl)
section
variable {d : Nat} {M : es_M}
theorem P_ahead (h : Inv M) {a b : Int} : Pair (d + 20) 10 195 [.inl a, .inl b] M := by
  apply c_EveryStreet_ahead
  have hv := h.1.v
  refine s_isService (RepC.rf M) (fun a0 a1 => es_t1 ?_) (fun z => es_t0 ⟨es_b0, ?_⟩)
  · refine s_isService (RepC.rf M) (fun b0 b1 => es_f1 ?_) (fun z => es_f0 ⟨es_b0, ?_⟩)
    · refine s_allAheadOf h.1 (RepC.rf M) a0 a1 ?_
      obtain ⟨x0, x1⟩ := ah0 h.1 a0 (show a < 10 by omega)
      have hl : aaF M a < 1024 := by
        have := rdN_lt h.1 x0 (M 1 1).toNat
        unfold aaF; omega
      have hp := pow1024 (v := a) (by omega)
      rw [ei_or1 (by omega) (by omega) a0 (by omega), Int.toNat_natCast]
      have hor := or_lt1024 hl hp
      have hb := bit_or (b := (aaF M a : Nat)) (s := a) (t := b) (by omega) a0 b0
      rw [Int.toNat_natCast] at hb
      refine s_has (by omega) (by omega) b0 (by omega) (fun q => es_t1 ⟨es_b0, ?_⟩) (fun q => es_t0 ?_)
      · rw [hb] at q
        apply c_Model_ahead
        refine s_m_isService h.1 rep0 (fun _ _ => es_t1 (s_m_isService h.1 rep0 (fun _ _ => es_t1 ⟨fun _ => ⟨es_b0, rfl, h.th⟩, fun ne => ?_⟩) (fun z => absurd ⟨b0, b1⟩ z))) (fun z => absurd ⟨a0, a1⟩ z)
        refine s_m_allAhead h.1 rep0 a0 a1 (s_m_has (by omega) (by omega) b0 (by omega) (fun _ => es_t1 ⟨es_b0, rfl, h.th⟩) (fun z => ?_))
        exact absurd (q.resolve_right fun w => ne w.symm) z
      · rw [hb] at q
        refine ⟨by omega, by omega, es_b1, ?_⟩
        have hb' := h.1.ah (v := b) b0 (by omega)
        obtain ⟨y0, y1⟩ := ah0 h.1 b0 (show b < 10 by omega)
        rw [ei_or1 hb'.2.1 (by omega) a0 (by omega)]
        have hnv : ((M 12 b).toNat ||| 2 ^ a.toNat) < 2 ^ (M 1 1).toNat := Nat.or_lt_two_pow y0 (Nat.pow_lt_pow_right (by decide) (by omega))
        generalize hg : (M 12 b).toNat ||| 2 ^ a.toNat = v at hnv ⊢
        apply c_Model_ahead
        have hR : RepM M (es_upd (es_upd M 12 b (v : Nat)) 91 0 0) := ((RepM.rf M).upd rfl).upd rfl
        refine s_m_isService h.1 hR (fun _ _ => es_t1 (s_m_isService h.1 hR (fun _ _ => es_t1 ⟨fun z => absurd (Or.inr z.symm) q, fun _ => ?_⟩) (fun z => absurd ⟨b0, b1⟩ z))) (fun z => absurd ⟨a0, a1⟩ z)
        refine s_m_allAhead h.1 hR a0 a1 (s_m_has (by omega) (by omega) b0 (by omega) (fun z => absurd (Or.inl z) q) (fun _ => es_t0 ⟨by omega, by omega, es_b1, rfl, ?_⟩))
        rw [hR 108 b rfl, hb'.1, ei_or1 hb'.2.1 (by omega) a0 (by omega), hg]
        have e : (2 : Int) ^ (M 1 1).toNat = ((2 ^ (M 1 1).toNat : Nat) : Int) := by simp
        refine h.ahead (((Fr.rf.upd rfl).upd rfl).upd rfl) (fun w w0 w1 => ?_)
        have hw := h.1.ah w0 w1
        rw [es_upd_c, es_upd_n (show 12 ≠ 108 by decide), es_upd_n (show 12 ≠ 91 by decide), es_upd_c, es_upd_n (show 108 ≠ 91 by decide), es_upd_n (show 108 ≠ 12 by decide)]
        by_cases z : w = b
        · rw [if_pos z, if_pos z]
          refine ⟨rfl, by omega, by omega, fun _ => by omega, fun u => ?_⟩
          have ns := h.1.ns (v := b) b0 (by omega)
          unfold ebit at u ns
          rw [z, Int.toNat_natCast, ← hg, Nat.testBit_or, Nat.testBit_two_pow] at u
          cases y : (M 12 b).toNat.testBit b.toNat
          · rw [y] at u
            have : a.toNat = b.toNat := by simpa using u
            exact q (Or.inr (by omega))
          · exact ns y
        · rw [if_neg z, if_neg z]; exact ⟨hw.1, hw.2.1, hw.2.2.1, hw.2.2.2, h.1.ns w0 w1⟩
    · exact c_Model_ahead (s_m_isService h.1 rep0 (fun _ _ => es_t1 (s_m_isService h.1 rep0 (fun q1 q2 => absurd ⟨q1, q2⟩ z) (fun _ => es_t0 ⟨es_b0, rfl, h.th⟩))) (fun q => absurd ⟨a0, a1⟩ q))
  · exact c_Model_ahead (s_m_isService h.1 rep0 (fun q1 q2 => absurd ⟨q1, q2⟩ z) (fun _ => es_t0 ⟨es_b0, rfl, h.th⟩))
end
