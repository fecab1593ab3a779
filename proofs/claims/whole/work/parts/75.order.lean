/-! PAIRS OF CALLS: order. The model's ways, and what an order of codes takes -/
theorem stp_c {T : es_M} {c c' p q : Int} (h : p ≠ 36) : stp T c p q = stp T c' p q := by
  unfold stp cr
  rw [if_neg h, if_neg h]
def jnT (T : es_M) (y a b : Int) (M : es_M) : Prop := ∀ p q, isP T p → isP T q → (1 ≤ M 127 (p * 36 + q) ∧ M 127 (p * 36 + q) ≤ 1000000) ∧ (goes T p → M 127 (p * 36 + q) = if p < a ∨ (p = a ∧ q < b) then wyN T (y.toNat + 1) p q else wyN T y.toNat p q)
section
variable {d : Nat} {Q : Int → es_M → Prop} {T M : es_M}
theorem rep127 {M' : es_M} (hR : RepM T M) (h : ∀ c, c ≠ 127 → M' c = M c) : RepM T M' := by
  intro c j q
  by_cases e : c = 127
  · subst e; cases q
  · rw [h c e]; exact hR _ _ q
theorem s_m_joins (hT : TI T) (hR : RepM T M) (h : ∀ M', (∀ c, c ≠ 127 → M' c = M c) → (∀ p q, isP T p → isP T q → goes T p → M' 127 (p * 36 + q) = wyF T p q) → Q 0 M') : es_Call (d + 5) 255 [.inr (.inr 91)] M Q := by
  apply m_Model_joins
  intro G hG
  apply k_Model_joins_0 hG
  have hn := hT.n
  rw [hR 91 3 rfl, hn.2.2, w32_s (by omega) (by omega)]
  have L2 : ∀ M', (∀ c, c ≠ 127 → M' c = M c) → jnT T 0 0 0 M' → G 67 [lr 91, li (2 * T 1 0), li 0, none, none] [] M' := by
    refine es_up (P := fun y => ∀ M', (∀ c, c ≠ 127 → M' c = M c) → jnT T y 0 0 M' → G 67 [lr 91, li (2 * T 1 0), li y, none, none] [] M') (n := 2 * T 1 0) (by omega) ?_ ?_
    · intro M' f1 f2
      apply k_Model_joins_67 hG
      refine ⟨fun _ => h M' f1 (fun p q hp hq g => ?_), fun z => absurd (Int.le_refl _) z⟩
      rw [(f2 p q hp hq).2 g, if_neg (by have := hp.1; have := hq.1; omega)]; rfl
    · intro y y0 y1 ih M' f1 f2
      have hy : isP T y := ⟨y0, y1⟩
      have yn : ((y.toNat : Nat) : Int) = y := by omega
      apply k_Model_joins_67 hG
      refine ⟨fun z => absurd z (by omega), fun _ => ?_⟩
      refine es_up (P := fun a => ∀ M', (∀ c, c ≠ 127 → M' c = M c) → jnT T y a 0 M' → G 74 [lr 91, li (2 * T 1 0), li y, li a, none] [] M') (n := 2 * T 1 0) (by omega) ?_ ?_ M' f1 f2
      · intro M' f1 f2
        apply k_Model_joins_74 hG
        rw [w32_1 (k := y) (by omega) (by omega)]
        refine ⟨fun _ => ih M' f1 (fun p q hp hq => ⟨(f2 p q hp hq).1, fun g => ?_⟩), fun z => absurd (Int.le_refl _) z⟩
        rw [(f2 p q hp hq).2 g, if_pos (Or.inl hp.2), if_neg (by have := hp.1; have := hq.1; omega), show (y + 1).toNat = y.toNat + 1 by omega]
      · intro a a0 a1 ih2 M' f1 f2
        have ha : isP T a := ⟨a0, a1⟩
        apply k_Model_joins_74 hG
        refine ⟨fun z => absurd z (by omega), fun _ => ?_⟩
        refine es_up (P := fun b => ∀ M', (∀ c, c ≠ 127 → M' c = M c) → jnT T y a b M' → G 82 [lr 91, li (2 * T 1 0), li y, li a, li b] [] M') (n := 2 * T 1 0) (by omega) ?_ ?_ M' f1 f2
        · intro M' f1 f2
          apply k_Model_joins_82 hG
          rw [w32_1 (k := a) (by omega) (by omega)]
          refine ⟨fun _ => ih2 M' f1 (fun p q hp hq => ⟨(f2 p q hp hq).1, fun g => ?_⟩), fun z => absurd (Int.le_refl _) z⟩
          have hq1 := hq.1
          have hq2 := hq.2
          rw [(f2 p q hp hq).2 g]
          by_cases e2 : p < a + 1
          · rw [if_pos (by omega), if_pos (Or.inl e2)]
          · rw [if_neg (by omega), if_neg (by omega)]
        · intro b b0 b1 ih3 M' f1 f2
          have hb : isP T b := ⟨b0, b1⟩
          apply k_Model_joins_82 hG
          obtain ⟨p1, p2, p3⟩ := w1296 (a := a) (b := b) (by omega) (by omega)
          obtain ⟨q1, q2, q3⟩ := w1296 (a := a) (b := y) (by omega) (by omega)
          obtain ⟨r1, r2, r3⟩ := w1296 (a := y) (b := b) (by omega) (by omega)
          obtain ⟨x1, x2⟩ := f2 a b ha hb
          obtain ⟨l1, l2⟩ := f2 a y ha hy
          obtain ⟨m1, m2⟩ := f2 y b hy hb
          rw [p1, q1, r1, w32_1 (k := b) (by omega) (by omega), w32_s (k := M' 127 (a * 36 + y) + M' 127 (y * 36 + b)) (by omega) (by omega)]
          refine ⟨fun z => absurd z (by omega), fun _ => ⟨⟨p2, p3⟩, ⟨q2, q3⟩, ⟨r2, r3⟩, ⟨p2, p3⟩, ih3 _ (fun c hc => by rw [es_upd_o c hc]; exact f1 c hc) (fun p q hp hq => ?_)⟩⟩
          have hp1 := hp.1
          have hq1 := hq.1
          have hq2 := hq.2
          rw [es_upd_c]
          by_cases e : p = a ∧ q = b
          · rw [e.1, e.2, if_pos rfl, if_pos (by omega)]
            refine ⟨by omega, fun g => ?_⟩
            have x3 := x2 g
            rw [if_neg (by omega)] at x3
            have l3 : M' 127 (a * 36 + y) = wyN T y.toNat a y := by
              rw [l2 g]
              split
              · have := wyN_col hT (k := y.toNat) (by omega) ha
                rw [yn] at this
                exact this
              · rfl
            have ss : wyN T (y.toNat + 1) a b = min (wyN T y.toNat a b) (wyN T y.toNat a y + wyN T y.toNat y b) := by rw [wyN_s, yn]
            by_cases gy : goes T y
            · have m3 : M' 127 (y * 36 + b) = wyN T y.toNat y b := by
                rw [m2 gy]
                split
                · have := wyN_row hT (k := y.toNat) (by omega) hb
                  rw [yn] at this
                  exact this
                · rfl
              rw [x3, l3, m3, ss]
            · have ng := wyN_ng hT hy gy y.toNat (by omega) a ha
              have r0 := wyN_r hT y.toNat (by omega) y b hy hb
              rw [ss, x3, l3]
              rw [x3] at x1
              omega
          · rw [if_neg (by omega)]
            refine ⟨(f2 p q hp hq).1, fun g => ?_⟩
            rw [(f2 p q hp hq).2 g]
            by_cases e2 : p < a ∨ (p = a ∧ q < b)
            · rw [if_pos e2, if_pos (by omega)]
            · rw [if_neg e2, if_neg (by omega)]
  refine es_up (P := fun a => ∀ M', (∀ c, c ≠ 127 → M' c = M c) → (∀ p q, isP T p → isP T q → p < a → M' 127 (p * 36 + q) = if goes T p then stp T 0 p q else 1000000) → G 9 [lr 91, li (2 * T 1 0), li a, none, none] [] M') (n := 2 * T 1 0) (by omega) ?_ ?_ M (fun _ _ => rfl) (fun p q hp hq h1 => absurd h1 (by have := hp.1; omega))
  · intro M' f1 f2
    apply k_Model_joins_9 hG
    refine ⟨fun _ => L2 M' f1 (fun p q hp hq => ?_), fun z => absurd (Int.le_refl _) z⟩
    have r := wyN_r hT 0 (by omega) p q hp hq
    have r' : 1 ≤ stp T 0 p q ∧ stp T 0 p q ≤ 1000000 := r
    rw [f2 p q hp hq hp.2]
    by_cases g : goes T p
    · rw [if_pos g, if_neg (by have := hp.1; have := hq.1; omega)]
      exact ⟨r, fun _ => rfl⟩
    · rw [if_neg g]
      exact ⟨by omega, fun z => absurd z g⟩
  · intro a a0 a1 ih M' f1 f2
    have ha : isP T a := ⟨a0, a1⟩
    apply k_Model_joins_9 hG
    refine ⟨fun z => absurd z (by omega), fun _ => ?_⟩
    refine es_up (P := fun b => ∀ M', (∀ c, c ≠ 127 → M' c = M c) → (∀ p q, isP T p → isP T q → p < a ∨ (p = a ∧ q < b) → M' 127 (p * 36 + q) = if goes T p then stp T 0 p q else 1000000) → G 16 [lr 91, li (2 * T 1 0), li a, li b, none] [] M') (n := 2 * T 1 0) (by omega) ?_ ?_ M' f1 (fun p q hp hq h1 => f2 p q hp hq (by have := hq.1; omega))
    · intro M' f1 f2
      apply k_Model_joins_16 hG
      rw [w32_1 (k := a) (by omega) (by omega)]
      exact ⟨fun _ => ih M' f1 (fun p q hp hq h1 => f2 p q hp hq (by have := hq.2; omega)), fun z => absurd (Int.le_refl _) z⟩
    · intro b b0 b1 ih2 M' f1 f2
      have hb : isP T b := ⟨b0, b1⟩
      have fin : ∀ v, v = (if goes T a then stp T 0 a b else 1000000) → G 16 [lr 91, li (2 * T 1 0), li a, li (b + 1), none] [] (es_upd M' 127 (a * 36 + b) v) := by
        intro v hv
        refine ih2 _ (fun c hc => by rw [es_upd_o c hc]; exact f1 c hc) (fun p q hp hq h1 => ?_)
        have hp1 := hp.1
        have hq1 := hq.1
        have hq2 := hq.2
        rw [es_upd_c]
        by_cases e : p = a ∧ q = b
        · rw [e.1, e.2, if_pos rfl, hv]
        · rw [if_neg (by omega)]; exact f2 p q hp hq (by omega)
      obtain ⟨p1, p2, p3⟩ := w1296 (a := a) (b := b) (by omega) (by omega)
      apply k_Model_joins_16 hG
      rw [p1, w32_1 (k := b) (by omega) (by omega)]
      refine ⟨fun z => absurd z (by omega), fun _ => s_m_isPass hT (rep127 hR f1) a0 a1 (fun g => es_t1 (s_m_step hT (rep127 hR f1) (Or.inr ha) hb ⟨⟨p2, p3⟩, fin _ ?_⟩)) (fun g => es_t0 ⟨⟨p2, p3⟩, fin _ ?_⟩)⟩
      · rw [if_pos g]; exact stp_c (by omega)
      · rw [if_neg g]
end
/-- what the codes o 0 .. o i take -/
def msN (T : es_M) (o : Int → Int) : Nat → Int
  | 0 => ln T (poF T (o 0))
  | i + 1 => msN T o i + wyF T (poF T (o (i : Nat))) (poF T (o ((i + 1 : Nat) : Int)))
def moF (T : es_M) (o : Int → Int) (n : Int) : Int := if goes T (poF T (o 0)) then min (msN T o (n - 1).toNat) 1000000 else 1000000
theorem ln_r {T : es_M} (hT : TI T) {p : Int} (hp : isP T p) : ln T p = -1 ∨ (1 ≤ ln T p ∧ ln T p ≤ 99) := by
  obtain ⟨-, -, -, a4, a5, -⟩ := hT.st (s := p / 2) (by have := hp.1; omega) (by have := hp.2; omega)
  unfold ln
  split <;> omega
/-- codes that are there -/
def Cd (T : es_M) (n : Int) (o : Int → Int) : Prop := ∀ i, 0 ≤ i → i < n → 0 ≤ o i ∧ o i < 2 * T 1 1
theorem Cd.p {T : es_M} (hT : TI T) {n : Int} {o : Int → Int} (h : Cd T n o) {i : Int} (i0 : 0 ≤ i) (i1 : i < n) : isP T (poF T (o i)) := by
  have := poF_r hT (h i i0 i1).1 (h i i0 i1).2
  exact ⟨this.1, this.2.1⟩
theorem msN_r {T : es_M} (hT : TI T) {n : Int} {o : Int → Int} (h : Cd T n o) (n0 : 0 < n) (hg : goes T (poF T (o 0))) : ∀ k : Nat, (k : Int) < n → 1 ≤ msN T o k ∧ msN T o k ≤ 99 + 1000000 * k := by
  intro k
  induction k with
  | zero =>
    intro _
    have := ln_r hT (h.p hT (Int.le_refl 0) n0)
    have := hg.1
    show 1 ≤ ln T (poF T (o 0)) ∧ ln T (poF T (o 0)) ≤ 99 + 1000000 * ((0 : Nat) : Int)
    omega
  | succ k ih =>
    intro hk
    have := ih (by omega)
    have w := wyF_r hT (h.p hT (i := (k : Nat)) (by omega) (by omega)) (h.p hT (i := ((k + 1 : Nat) : Int)) (by omega) (by omega))
    show 1 ≤ msN T o k + wyF T (poF T (o (k : Nat))) (poF T (o ((k + 1 : Nat) : Int))) ∧ msN T o k + wyF T (poF T (o (k : Nat))) (poF T (o ((k + 1 : Nat) : Int))) ≤ _
    omega
theorem msN_mono {T : es_M} (hT : TI T) {n : Int} {o : Int → Int} (h : Cd T n o) : ∀ (j k : Nat), (k + j : Int) < n → msN T o k ≤ msN T o (k + j) := by
  intro j
  induction j with
  | zero => intro k _; exact Int.le_refl _
  | succ j ih =>
    intro k hk
    have := ih k (by omega)
    have w := wyF_r hT (h.p hT (i := ((k + j : Nat) : Int)) (by omega) (by omega)) (h.p hT (i := ((k + j + 1 : Nat) : Int)) (by omega) (by omega))
    show _ ≤ msN T o (k + j) + wyF T (poF T (o ((k + j : Nat) : Int))) (poF T (o ((k + j + 1 : Nat) : Int)))
    omega
theorem msN_s {T : es_M} {o : Int → Int} {k : Int} (k0 : 1 ≤ k) : msN T o k.toNat = msN T o (k - 1).toNat + wyF T (poF T (o (k - 1))) (poF T (o k)) := by
  obtain ⟨K, rfl⟩ : ∃ K : Nat, k = ((K + 1 : Nat) : Int) := ⟨(k - 1).toNat, by omega⟩
  rw [show ((((K + 1 : Nat) : Int)) - 1).toNat = K by omega, show (((K + 1 : Nat) : Int)).toNat = K + 1 by omega, show ((K + 1 : Nat) : Int) - 1 = (K : Int) by omega]
  rfl
theorem moF_r {T : es_M} (hT : TI T) {n : Int} {o : Int → Int} (h : Cd T n o) (n0 : 0 < n) : 1 ≤ moF T o n ∧ moF T o n ≤ 1000000 := by
  unfold moF
  split
  · have := msN_r hT h n0 (by assumption) (n - 1).toNat (by omega)
    omega
  · omega
theorem msN_congr {T : es_M} {o o' : Int → Int} {n : Int} (h : ∀ i, 0 ≤ i → i < n → o i = o' i) : ∀ k : Nat, (k : Int) < n → msN T o k = msN T o' k := by
  intro k
  induction k with
  | zero => intro hk; show ln T (poF T (o 0)) = ln T (poF T (o' 0)); rw [h 0 (by omega) (by omega)]
  | succ k ih =>
    intro hk
    show msN T o k + wyF T (poF T (o (k : Nat))) (poF T (o ((k + 1 : Nat) : Int))) = msN T o' k + wyF T (poF T (o' (k : Nat))) (poF T (o' ((k + 1 : Nat) : Int)))
    rw [ih (by omega), h _ (by omega) (by omega), h _ (by omega) (by omega)]
theorem moF_congr {T : es_M} {o o' : Int → Int} {n : Int} (n0 : 0 < n) (h : ∀ i, 0 ≤ i → i < n → o i = o' i) : moF T o n = moF T o' n := by
  unfold moF
  rw [h 0 (by omega) n0, msN_congr h (n - 1).toNat (by omega)]
section
variable {d : Nat} {Q : Int → es_M → Prop} {T M : es_M}
theorem s_minutesOf_17 (hT : TI T) (hR : RepC T M) (hL : ∀ p q, isP T p → isP T q → M 61 (p * 36 + q) = wyF T p q) {o : Int → Int} {n : Int} (n0 : 0 < n) (n1 : n ≤ 10) (ho : Cd T n o) (hM : ∀ i, 0 ≤ i → i < n → M 17 i = o i) (h : Q (moF T o n) M) : es_Call (d + 3) 150 [.inr (.inr 84), .inr (.inr 17), .inl n] M Q := by
  apply m_Orders_minutesOf_84_17
  intro G hG
  apply k_Orders_minutesOf_84_17_0 hG
  rw [hM 0 (by omega) (by omega)]
  have hv := hT.v
  have hn := hT.n
  have h0 := ho 0 (by omega) (by omega)
  have p0 := poF_r hT h0.1 h0.2
  unfold moF at h
  refine ⟨by omega, s_passOf hT hR h0.1 h0.2 (s_goes hT hR p0.1 p0.2.2.1 (fun g => es_f1 (s_length hR p0.1 p0.2.2.1 ?_)) (fun g => es_f0 (by rw [if_neg g] at h; exact h)))⟩
  rw [if_pos g] at h
  refine es_upl (P := fun k => G 38 [lr 84, lr 17, li n, li (poF T (o (k - 1))), li (msN T o (k - 1).toNat), li k, none] [] M) (lo := 1) (n := n) (by omega) ?_ ?_
  · apply k_Orders_minutesOf_84_17_38 hG
    exact ⟨fun _ => h, fun z => absurd (Int.le_refl _) z⟩
  · intro k k0 k1 ih
    apply k_Orders_minutesOf_84_17_38 hG
    have hk := ho k (by omega) (by omega)
    have pk := ho.p hT (i := k) (by omega) (by omega)
    have pj := ho.p hT (i := k - 1) (by omega) (by omega)
    have mr := msN_r hT ho n0 g (k - 1).toNat (by omega)
    have wr := wyF_r hT pj pk
    obtain ⟨p1, p2, p3⟩ := w1296 (a := poF T (o (k - 1))) (b := poF T (o k)) ⟨pj.1, by have := pj.2; omega⟩ ⟨pk.1, by have := pk.2; omega⟩
    rw [hM k (by omega) (by omega), w32_1 (k := k) (by omega) (by omega)]
    refine ⟨fun z => absurd z (by omega), fun _ => ⟨by omega, s_passOf hT hR hk.1 hk.2 (c_Ways_leastMinutes ?_)⟩⟩
    rw [p1, hL _ _ pj pk, w32_s (by omega) (by omega)]
    refine ⟨⟨p2, p3⟩, ?_⟩
    rw [← msN_s k0]
    rw [show k + 1 - 1 = k by omega] at ih
    exact ih
theorem s_minutesOf_85 (hT : TI T) (hR : RepC T M) (hL : ∀ p q, isP T p → isP T q → M 61 (p * 36 + q) = wyF T p q) {o : Int → Int} {n : Int} (n0 : 0 < n) (n1 : n ≤ 10) (ho : Cd T n o) (hM : ∀ i, 0 ≤ i → i < n → M 85 i = o i) (h : Q (moF T o n) M) : es_Call (d + 3) 150 [.inr (.inr 84), .inr (.inr 85), .inl n] M Q := by
  apply m_Orders_minutesOf_84_85
  intro G hG
  apply k_Orders_minutesOf_84_85_0 hG
  rw [hM 0 (by omega) (by omega)]
  have hv := hT.v
  have hn := hT.n
  have h0 := ho 0 (by omega) (by omega)
  have p0 := poF_r hT h0.1 h0.2
  unfold moF at h
  refine ⟨by omega, s_passOf hT hR h0.1 h0.2 (s_goes hT hR p0.1 p0.2.2.1 (fun g => es_f1 (s_length hR p0.1 p0.2.2.1 ?_)) (fun g => es_f0 (by rw [if_neg g] at h; exact h)))⟩
  rw [if_pos g] at h
  refine es_upl (P := fun k => G 38 [lr 84, lr 85, li n, li (poF T (o (k - 1))), li (msN T o (k - 1).toNat), li k, none] [] M) (lo := 1) (n := n) (by omega) ?_ ?_
  · apply k_Orders_minutesOf_84_85_38 hG
    exact ⟨fun _ => h, fun z => absurd (Int.le_refl _) z⟩
  · intro k k0 k1 ih
    apply k_Orders_minutesOf_84_85_38 hG
    have hk := ho k (by omega) (by omega)
    have pk := ho.p hT (i := k) (by omega) (by omega)
    have pj := ho.p hT (i := k - 1) (by omega) (by omega)
    have mr := msN_r hT ho n0 g (k - 1).toNat (by omega)
    have wr := wyF_r hT pj pk
    obtain ⟨p1, p2, p3⟩ := w1296 (a := poF T (o (k - 1))) (b := poF T (o k)) ⟨pj.1, by have := pj.2; omega⟩ ⟨pk.1, by have := pk.2; omega⟩
    rw [hM k (by omega) (by omega), w32_1 (k := k) (by omega) (by omega)]
    refine ⟨fun z => absurd z (by omega), fun _ => ⟨by omega, s_passOf hT hR hk.1 hk.2 (c_Ways_leastMinutes ?_)⟩⟩
    rw [p1, hL _ _ pj pk, w32_s (by omega) (by omega)]
    refine ⟨⟨p2, p3⟩, ?_⟩
    rw [← msN_s k0]
    rw [show k + 1 - 1 = k by omega] at ih
    exact ih
theorem s_m_passOf_125 (hT : TI T) (h106 : ∀ v, 0 ≤ v → v < T 1 1 → M 106 v = T 10 v) {o : Int → Int} {n i : Int} (n1 : n ≤ 10) (ho : Cd T n o) (hM : ∀ i, 0 ≤ i → i < n → M 125 i = o i / 2 ∧ M 126 i = o i % 2) (i0 : 0 ≤ i) (i1 : i < n) (h : Q (poF T (o i)) M) : es_Call (d + 2) 257 [.inr (.inr 125), .inr (.inr 126), .inr (.inr 106), .inl i] M Q := by
  apply c_Model_passOf_125_126_106
  have hv := hT.v
  have hn := hT.n
  have hi := ho i i0 i1
  have sr := hT.sr (v := o i / 2) (by omega) (by omega)
  rw [(hM i i0 i1).1, (hM i i0 i1).2, h106 _ (by omega) (by omega), w32_s (k := 2 * T 10 (o i / 2)) (by omega) (by omega)]
  refine ⟨by omega, by omega, by omega, s_m_truth (fun z => ?_) (fun z => ?_)⟩
  · rw [w32_s (by omega) (by omega)]
    unfold poF at h
    rw [show o i % 2 = 1 by omega] at h
    exact h
  · rw [w32_s (by omega) (by omega)]
    unfold poF at h
    rw [z] at h
    exact h
theorem s_m_minutesOf_125 (hT : TI T) (hR : RepM T M) (hL : ∀ p q, isP T p → isP T q → goes T p → M 127 (p * 36 + q) = wyF T p q) {o : Int → Int} {n : Int} (n0 : 0 < n) (n1 : n ≤ 10) (ho : Cd T n o) (hM : ∀ i, 0 ≤ i → i < n → M 125 i = o i / 2 ∧ M 126 i = o i % 2) (h : Q (moF T o n) M) : es_Call (d + 4) 256 [.inr (.inr 91), .inr (.inr 125), .inr (.inr 126), .inl n] M Q := by
  apply m_Model_minutesOf_91_125_126
  intro G hG
  apply k_Model_minutesOf_91_125_126_0 hG
  have hv := hT.v
  have hn := hT.n
  have h106 : ∀ v, 0 ≤ v → v < T 1 1 → M 106 v = T 10 v := fun v v0 v1 => by rw [hR 106 _ rfl]; exact (hT.mv v0 v1).1
  have p0 := ho.p hT (i := 0) (by omega) (by omega)
  -- from the second on
  have L : goes T (poF T (o 0)) → G 6 [lr 91, lr 125, lr 126, li n, li (msN T o (1 - 1 : Int).toNat), li 1, none] [] M := by
    intro g0
    have hmo : moF T o n = min (msN T o (n - 1).toNat) 1000000 := by unfold moF; rw [if_pos g0]
    have key : ∀ (r : Nat) (k : Int), 1 ≤ k → k + r = n → msN T o (k - 1).toNat < 1000000 → goes T (poF T (o (k - 1))) → G 6 [lr 91, lr 125, lr 126, li n, li (msN T o (k - 1).toNat), li k, none] [] M := by
      intro r
      induction r with
      | zero =>
        intro k k0 kr km g
        apply k_Model_minutesOf_91_125_126_6 hG
        have ek : k = n := by omega
        subst ek
        refine ⟨fun _ => ?_, fun z => absurd (Int.le_refl _) z⟩
        rw [hmo, show min (msN T o (k - 1).toNat) 1000000 = msN T o (k - 1).toNat by omega] at h
        exact h
      | succ r ih =>
        intro k k0 kr km g
        apply k_Model_minutesOf_91_125_126_6 hG
        have pk := ho.p hT (i := k) (by omega) (by omega)
        have pj := ho.p hT (i := k - 1) (by omega) (by omega)
        have mr := msN_r hT ho n0 g0 (k - 1).toNat (by omega)
        have wr := wyF_r hT pj pk
        have mm := msN_mono hT ho (n - 1 - k).toNat k.toNat (by omega)
        rw [show k.toNat + (n - 1 - k).toNat = (n - 1).toNat by omega] at mm
        have ms := msN_s (T := T) (o := o) k0
        obtain ⟨p1, p2, p3⟩ := w1296 (a := poF T (o (k - 1))) (b := poF T (o k)) ⟨pj.1, by have := pj.2; omega⟩ ⟨pk.1, by have := pk.2; omega⟩
        refine ⟨fun z => absurd z (by omega), fun _ => s_m_passOf_125 hT h106 n1 ho hM (by omega) (by omega) (s_m_isPass hT hR pk.1 pk.2 (fun gk => es_f1 ⟨fun _ => ?_, fun z => absurd z (by omega)⟩) (fun gk => es_f0 ?_))⟩
        · rw [w32_m (by omega) (by omega)]
          refine s_m_passOf_125 hT h106 n1 ho hM (by omega) (by omega) ?_
          rw [p1, hL _ _ pj pk g, w32_s (k := msN T o (k - 1).toNat + wyF T (poF T (o (k - 1))) (poF T (o k))) (by omega) (by omega), ← ms, w32_1 (by omega) (by omega)]
          refine ⟨⟨p2, p3⟩, fun z => ?_, fun z => ?_⟩
          · have := ih (k + 1) (by omega) (by omega)
            rw [show k + 1 - 1 = k by omega] at this
            exact this z gk
          · rw [hmo, show min (msN T o (n - 1).toNat) 1000000 = 1000000 by omega] at h
            exact h
        · have := wyF_ng hT pj pk gk
          rw [hmo, show min (msN T o (n - 1).toNat) 1000000 = 1000000 by omega] at h
          exact h
    have m0 := msN_r hT ho n0 g0 0 (by omega)
    exact key (n - 1).toNat 1 (by omega) (by omega) (by show msN T o 0 < 1000000; omega) g0
  apply k_Model_minutesOf_91_125_126_6 hG
  refine ⟨fun z => absurd z (by omega), fun _ => s_m_passOf_125 hT h106 n1 ho hM (by omega) (by omega) (s_m_isPass hT hR p0.1 p0.2 (fun g => es_f1 ⟨fun z => absurd rfl z, fun _ => ?_⟩) (fun g => es_f0 ?_))⟩
  · have lr := ln_r hT p0
    have g1 := g.1
    have el : M 95 (poF T (o 0)) = ln T (poF T (o 0)) := by
      rw [hR 95 _ rfl]
      obtain ⟨-, -, -, -, -, -, -, b1, b2, -⟩ := hT.st (s := poF T (o 0) / 2) (by have := p0.1; omega) (by have := p0.2; omega)
      unfold ln
      by_cases e : poF T (o 0) % 2 = 0
      · rw [if_pos e, ← b1, show 2 * (poF T (o 0) / 2) = poF T (o 0) by omega]
      · rw [if_neg e, ← b2, show 2 * (poF T (o 0) / 2) + 1 = poF T (o 0) by omega]
    have em : w32 (0 + ln T (poF T (o 0))) = msN T o (1 - 1 : Int).toNat := by
      show _ = ln T (poF T (o 0))
      rw [w32_s (by omega) (by omega)]; omega
    rw [el, em]
    refine ⟨⟨p0.1, by have := p0.2; omega⟩, fun _ => L g, fun z => absurd (show ln T (poF T (o 0)) < 1000000 by omega) z⟩
  · unfold moF at h; rw [if_neg g] at h; exact h
theorem s_m_passOf_128 (hT : TI T) (h106 : ∀ v, 0 ≤ v → v < T 1 1 → M 106 v = T 10 v) {o : Int → Int} {n i : Int} (n1 : n ≤ 10) (ho : Cd T n o) (hM : ∀ i, 0 ≤ i → i < n → M 128 i = o i / 2 ∧ M 129 i = o i % 2) (i0 : 0 ≤ i) (i1 : i < n) (h : Q (poF T (o i)) M) : es_Call (d + 2) 257 [.inr (.inr 128), .inr (.inr 129), .inr (.inr 106), .inl i] M Q := by
  apply c_Model_passOf_128_129_106
  have hv := hT.v
  have hn := hT.n
  have hi := ho i i0 i1
  have sr := hT.sr (v := o i / 2) (by omega) (by omega)
  rw [(hM i i0 i1).1, (hM i i0 i1).2, h106 _ (by omega) (by omega), w32_s (k := 2 * T 10 (o i / 2)) (by omega) (by omega)]
  refine ⟨by omega, by omega, by omega, s_m_truth (fun z => ?_) (fun z => ?_)⟩
  · rw [w32_s (by omega) (by omega)]
    unfold poF at h
    rw [show o i % 2 = 1 by omega] at h
    exact h
  · rw [w32_s (by omega) (by omega)]
    unfold poF at h
    rw [z] at h
    exact h
theorem s_m_minutesOf_128 (hT : TI T) (hR : RepM T M) (hL : ∀ p q, isP T p → isP T q → goes T p → M 127 (p * 36 + q) = wyF T p q) {o : Int → Int} {n : Int} (n0 : 0 < n) (n1 : n ≤ 10) (ho : Cd T n o) (hM : ∀ i, 0 ≤ i → i < n → M 128 i = o i / 2 ∧ M 129 i = o i % 2) (h : Q (moF T o n) M) : es_Call (d + 4) 256 [.inr (.inr 91), .inr (.inr 128), .inr (.inr 129), .inl n] M Q := by
  apply m_Model_minutesOf_91_128_129
  intro G hG
  apply k_Model_minutesOf_91_128_129_0 hG
  have hv := hT.v
  have hn := hT.n
  have h106 : ∀ v, 0 ≤ v → v < T 1 1 → M 106 v = T 10 v := fun v v0 v1 => by rw [hR 106 _ rfl]; exact (hT.mv v0 v1).1
  have p0 := ho.p hT (i := 0) (by omega) (by omega)
  -- from the second on
  have L : goes T (poF T (o 0)) → G 6 [lr 91, lr 128, lr 129, li n, li (msN T o (1 - 1 : Int).toNat), li 1, none] [] M := by
    intro g0
    have hmo : moF T o n = min (msN T o (n - 1).toNat) 1000000 := by unfold moF; rw [if_pos g0]
    have key : ∀ (r : Nat) (k : Int), 1 ≤ k → k + r = n → msN T o (k - 1).toNat < 1000000 → goes T (poF T (o (k - 1))) → G 6 [lr 91, lr 128, lr 129, li n, li (msN T o (k - 1).toNat), li k, none] [] M := by
      intro r
      induction r with
      | zero =>
        intro k k0 kr km g
        apply k_Model_minutesOf_91_128_129_6 hG
        have ek : k = n := by omega
        subst ek
        refine ⟨fun _ => ?_, fun z => absurd (Int.le_refl _) z⟩
        rw [hmo, show min (msN T o (k - 1).toNat) 1000000 = msN T o (k - 1).toNat by omega] at h
        exact h
      | succ r ih =>
        intro k k0 kr km g
        apply k_Model_minutesOf_91_128_129_6 hG
        have pk := ho.p hT (i := k) (by omega) (by omega)
        have pj := ho.p hT (i := k - 1) (by omega) (by omega)
        have mr := msN_r hT ho n0 g0 (k - 1).toNat (by omega)
        have wr := wyF_r hT pj pk
        have mm := msN_mono hT ho (n - 1 - k).toNat k.toNat (by omega)
        rw [show k.toNat + (n - 1 - k).toNat = (n - 1).toNat by omega] at mm
        have ms := msN_s (T := T) (o := o) k0
        obtain ⟨p1, p2, p3⟩ := w1296 (a := poF T (o (k - 1))) (b := poF T (o k)) ⟨pj.1, by have := pj.2; omega⟩ ⟨pk.1, by have := pk.2; omega⟩
        refine ⟨fun z => absurd z (by omega), fun _ => s_m_passOf_128 hT h106 n1 ho hM (by omega) (by omega) (s_m_isPass hT hR pk.1 pk.2 (fun gk => es_f1 ⟨fun _ => ?_, fun z => absurd z (by omega)⟩) (fun gk => es_f0 ?_))⟩
        · rw [w32_m (by omega) (by omega)]
          refine s_m_passOf_128 hT h106 n1 ho hM (by omega) (by omega) ?_
          rw [p1, hL _ _ pj pk g, w32_s (k := msN T o (k - 1).toNat + wyF T (poF T (o (k - 1))) (poF T (o k))) (by omega) (by omega), ← ms, w32_1 (by omega) (by omega)]
          refine ⟨⟨p2, p3⟩, fun z => ?_, fun z => ?_⟩
          · have := ih (k + 1) (by omega) (by omega)
            rw [show k + 1 - 1 = k by omega] at this
            exact this z gk
          · rw [hmo, show min (msN T o (n - 1).toNat) 1000000 = 1000000 by omega] at h
            exact h
        · have := wyF_ng hT pj pk gk
          rw [hmo, show min (msN T o (n - 1).toNat) 1000000 = 1000000 by omega] at h
          exact h
    have m0 := msN_r hT ho n0 g0 0 (by omega)
    exact key (n - 1).toNat 1 (by omega) (by omega) (by show msN T o 0 < 1000000; omega) g0
  apply k_Model_minutesOf_91_128_129_6 hG
  refine ⟨fun z => absurd z (by omega), fun _ => s_m_passOf_128 hT h106 n1 ho hM (by omega) (by omega) (s_m_isPass hT hR p0.1 p0.2 (fun g => es_f1 ⟨fun z => absurd rfl z, fun _ => ?_⟩) (fun g => es_f0 ?_))⟩
  · have lr := ln_r hT p0
    have g1 := g.1
    have el : M 95 (poF T (o 0)) = ln T (poF T (o 0)) := by
      rw [hR 95 _ rfl]
      obtain ⟨-, -, -, -, -, -, -, b1, b2, -⟩ := hT.st (s := poF T (o 0) / 2) (by have := p0.1; omega) (by have := p0.2; omega)
      unfold ln
      by_cases e : poF T (o 0) % 2 = 0
      · rw [if_pos e, ← b1, show 2 * (poF T (o 0) / 2) = poF T (o 0) by omega]
      · rw [if_neg e, ← b2, show 2 * (poF T (o 0) / 2) + 1 = poF T (o 0) by omega]
    have em : w32 (0 + ln T (poF T (o 0))) = msN T o (1 - 1 : Int).toNat := by
      show _ = ln T (poF T (o 0))
      rw [w32_s (by omega) (by omega)]; omega
    rw [el, em]
    refine ⟨⟨p0.1, by have := p0.2; omega⟩, fun _ => L g, fun z => absurd (show ln T (poF T (o 0)) < 1000000 by omega) z⟩
  · unfold moF at h; rw [if_neg g] at h; exact h
end
