/-! the class's ways are made anew -/
def nextsAt (T M : es_M) (p : Int) : Prop := (0 ≤ M 63 p ∧ M 63 p ≤ 12) ∧ (∀ i, 0 ≤ i → i < M 63 p → isP T (M 62 (p * 12 + i)) ∧ stp T 0 p (M 62 (p * 12 + i)) < 1000000) ∧ ∀ q, isP T q → stp T 0 p q < 1000000 → ∃ i, 0 ≤ i ∧ i < M 63 p ∧ M 62 (p * 12 + i) = q
theorem gl_r {T : es_M} (hT : TI T) {p : Int} (hp : isP T p) : (0 ≤ gl T p ∧ gl T p < 12) ∧ (0 ≤ og T p ∧ og T p < 12) := by
  obtain ⟨a1, a2, -⟩ := hT.st (s := p / 2) (by have := hp.1; omega) (by have := hp.2; omega)
  unfold gl og
  split <;> exact ⟨by assumption, by assumption⟩
theorem stp_og {T : es_M} (hT : TI T) {p q : Int} (hp : isP T p) (hq : isP T q) (h : stp T 0 p q < 1000000) : og T q = gl T p ∧ goes T q := by
  rcases stp_r hT (c := 0) (Or.inr hp) hq with z | ⟨-, z1, z2, -⟩
  · omega
  · have hn := hT.n
    rw [show cr T 0 p = gl T p from if_neg (by have := hp.2; omega)] at z2
    exact ⟨z2, z1⟩
theorem next_inj {T : es_M} (hT : TI T) {p q r : Int} (hp : isP T p) (hq : isP T q) (hr : isP T r) (h1 : stp T 0 p q < 1000000) (h2 : stp T 0 p r < 1000000) (e : gl T q = gl T r) : q = r := by
  have a := stp_og hT hp hq h1
  have b := stp_og hT hp hr h2
  have c := pbF_in hT hq.1 hq.2 a.1 rfl a.2.1
  have f := pbF_in hT hr.1 hr.2 b.1 rfl b.2.1
  rw [e, f] at c
  exact c.symm
section
variable {d : Nat} {Q : Int → es_M → Prop} {T M : es_M}
theorem w1296 {a b : Int} (ha : 0 ≤ a ∧ a < 36) (hb : 0 ≤ b ∧ b < 36) : w32 (w32 (a * 36) + b) = a * 36 + b ∧ 0 ≤ a * 36 + b ∧ a * 36 + b < 1296 := by
  refine ⟨by unfold w32; omega, by omega, by omega⟩
theorem w432 {a b : Int} (ha : 0 ≤ a ∧ a < 36) (hb : 0 ≤ b ∧ b < 12) : w32 (w32 (a * 12) + b) = a * 12 + b ∧ 0 ≤ a * 12 + b ∧ a * 12 + b < 432 := by
  refine ⟨by unfold w32; omega, by omega, by omega⟩
abbrev offW (M M' : es_M) : Prop := ∀ c, c ≠ 61 → c ≠ 62 → c ≠ 63 → M' c = M c
theorem repW {M' : es_M} (hR : RepC T M) (h : offW M M') : RepC T M' := by
  intro c j q
  rw [h c (by rintro rfl; cases q) (by rintro rfl; cases q) (by rintro rfl; cases q)]
  exact hR _ _ q
theorem s_listNexts (hT : TI T) (hR : RepC T M) {p : Int} (hp : isP T p) (h : ∀ M', offW M M' → (∀ p' q, isP T p' → isP T q → p' ≠ p → M' 61 (p' * 36 + q) = M 61 (p' * 36 + q)) → (∀ q, isP T q → M' 61 (p * 36 + q) = stp T 0 p q) → (∀ p', isP T p' → p' ≠ p → nextsAt T M p' → nextsAt T M' p') → nextsAt T M' p → Q 0 M') : es_Call (d + 4) 93 [.inr (.inr 60), .inl p, .inl (2 * T 1 0)] M Q := by
  apply m_Ways_listNexts
  intro G hG
  apply k_Ways_listNexts_0 hG
  have hn := hT.n
  have hp1 := hp.1
  have hp2 := hp.2
  refine es_up (P := fun k => ∀ (a : Int) M', offW M M' → (∀ p' q, isP T p' → isP T q → p' ≠ p → M' 61 (p' * 36 + q) = M 61 (p' * 36 + q)) → (∀ q, isP T q → q < k → M' 61 (p * 36 + q) = stp T 0 p q) → (M' 63 = M 63) → (∀ j, j < p * 12 ∨ p * 12 + 12 ≤ j → M' 62 j = M 62 j) → (0 ≤ a ∧ a ≤ 12) → (∀ i, 0 ≤ i → i < a → isP T (M' 62 (p * 12 + i)) ∧ stp T 0 p (M' 62 (p * 12 + i)) < 1000000 ∧ M' 62 (p * 12 + i) < k) → (∀ i j, 0 ≤ i → i < a → 0 ≤ j → j < a → M' 62 (p * 12 + i) = M' 62 (p * 12 + j) → i = j) → (∀ q, isP T q → stp T 0 p q < 1000000 → q < k → ∃ i, 0 ≤ i ∧ i < a ∧ M' 62 (p * 12 + i) = q) → G 5 [lr 60, li p, li (2 * T 1 0), li a, li k, none] [] M') (n := 2 * T 1 0) (by omega) ?_ ?_ 0 M (fun _ _ _ _ => rfl) (fun _ _ _ _ _ => rfl) (fun q hq h2 => absurd h2 (by have := hq.1; omega)) rfl (fun _ _ => rfl) (by omega) (fun i i0 i1 => absurd i1 (by omega)) (fun i j i0 i1 => absurd i1 (by omega)) (fun q hq _ h2 => absurd h2 (by have := hq.1; omega))
  · intro a M' f0 f1 f2 f3 f4 f5 f6 f7 f8
    apply k_Ways_listNexts_5 hG
    refine ⟨fun _ => ⟨by omega, ?_⟩, fun z => absurd (Int.le_refl _) z⟩
    refine h _ (fun c c1 c2 c3 => by rw [es_upd_o c c3]; exact f0 c c1 c2 c3) (fun p' q h1 h2 h3 => by rw [es_upd_n (by decide)]; exact f1 p' q h1 h2 h3) (fun q hq => by rw [es_upd_n (by decide)]; exact f2 q hq hq.2) (fun p' h1 h2 h3 => ?_) ?_
    · unfold nextsAt at h3 ⊢
      have e63 : es_upd M' 63 p a 63 p' = M 63 p' := by rw [es_upd_j h2, f3]
      have e62 : ∀ i, 0 ≤ i → i < M 63 p' → es_upd M' 63 p a 62 (p' * 12 + i) = M 62 (p' * 12 + i) := fun i i0 i1 => by
        rw [es_upd_n (by decide)]
        exact f4 _ (by have := h3.1; omega)
      rw [e63]
      refine ⟨h3.1, fun i i0 i1 => by rw [e62 i i0 i1]; exact h3.2.1 i i0 i1, fun q hq hs => ?_⟩
      obtain ⟨i, i0, i1, i2⟩ := h3.2.2 q hq hs
      exact ⟨i, i0, i1, by rw [e62 i i0 i1]; exact i2⟩
    · unfold nextsAt
      rw [es_upd_s]
      have e62 : ∀ j, es_upd M' 63 p a 62 j = M' 62 j := fun j => es_upd_n (by decide)
      refine ⟨f5, fun i i0 i1 => by rw [e62]; exact ⟨(f6 i i0 i1).1, (f6 i i0 i1).2.1⟩, fun q hq hs => ?_⟩
      obtain ⟨i, i0, i1, i2⟩ := f8 q hq hs hq.2
      exact ⟨i, i0, i1, by rw [e62]; exact i2⟩
  · intro k k0 k1 ih a M' f0 f1 f2 f3 f4 f5 f6 f7 f8
    apply k_Ways_listNexts_5 hG
    have hk : isP T k := ⟨k0, k1⟩
    obtain ⟨p1, p2, p3⟩ := w1296 (a := p) (b := k) (by omega) (by omega)
    rw [p1, w32_1 (k := k) (by omega) (by omega)]
    refine ⟨fun z => absurd z (by omega), fun _ => s_step hT (repW hR f0) (c := 0) hp hk ⟨⟨p2, p3⟩, fun z => ?_, fun z => ?_⟩⟩
    · refine ih a _ (fun c c1 c2 c3 => by rw [es_upd_o c c1]; exact f0 c c1 c2 c3) (fun p' q h1 h2 h3 => ?_) (fun q hq h2 => ?_) (by rw [es_upd_o _ (by decide)]; exact f3) (fun j hj => by rw [es_upd_n (by decide)]; exact f4 j hj) f5 (fun i i0 i1 => by rw [es_upd_n (by decide)]; have := f6 i i0 i1; exact ⟨this.1, this.2.1, by omega⟩) (fun i j i0 i1 j0 j1 e => by rw [es_upd_n (by decide), es_upd_n (by decide)] at e; exact f7 i j i0 i1 j0 j1 e) (fun q hq hs h2 => ?_)
      · rw [es_upd_j (by have := h1.1; have := h2.1; have := h2.2; omega)]; exact f1 p' q h1 h2 h3
      · rw [es_upd_c]
        by_cases e : q = k
        · rw [if_pos (by omega), e]
        · rw [if_neg (by omega)]; exact f2 q hq (by omega)
      · have : q ≠ k := by rintro rfl; omega
        obtain ⟨i, i0, i1, i2⟩ := f8 q hq hs (by omega)
        exact ⟨i, i0, i1, by rw [es_upd_n (by decide)]; exact i2⟩
    · have hs : stp T 0 p k < 1000000 := by omega
      have a12 : a < 12 := by
        have := pigeon 12 (a + 1).toNat (fun i => if i < a then gl T (M' 62 (p * 12 + i)) else gl T k) (fun i i0 i1 => ?_) (fun i j i0 i1 j0 j1 e => ?_)
        · omega
        · by_cases e : i < a
          · simp only [if_pos e]
            have := (gl_r hT (f6 i i0 e).1).1
            omega
          · simp only [if_neg e]
            have := (gl_r hT hk).1
            omega
        · by_cases e1 : i < a
          · by_cases e2 : j < a
            · simp only [if_pos e1, if_pos e2] at e
              exact f7 i j i0 e1 j0 e2 (next_inj hT hp (f6 i i0 e1).1 (f6 j j0 e2).1 (f6 i i0 e1).2.1 (f6 j j0 e2).2.1 e)
            · simp only [if_pos e1, if_neg e2] at e
              have := next_inj hT hp (f6 i i0 e1).1 hk (f6 i i0 e1).2.1 hs e
              have := (f6 i i0 e1).2.2
              omega
          · by_cases e2 : j < a
            · simp only [if_neg e1, if_pos e2] at e
              have := next_inj hT hp hk (f6 j j0 e2).1 hs (f6 j j0 e2).2.1 e
              have := (f6 j j0 e2).2.2
              omega
            · omega
      refine ⟨fun z => absurd z (by omega), fun _ => ?_⟩
      obtain ⟨q1, q2, q3⟩ := w432 (a := p) (b := a) (by omega) (by omega)
      rw [q1, w32_1 (k := a) (by omega) (by omega)]
      refine ⟨⟨q2, q3⟩, ih (a + 1) _ (fun c c1 c2 c3 => by rw [es_upd_o c c2, es_upd_o c c1]; exact f0 c c1 c2 c3) (fun p' q h1 h2 h3 => ?_) (fun q hq h2 => ?_) (by rw [es_upd_o _ (by decide), es_upd_o _ (by decide)]; exact f3) (fun j hj => by rw [es_upd_j (by omega), es_upd_n (by decide)]; exact f4 j hj) (by omega) (fun i i0 i1 => ?_) (fun i j i0 i1 j0 j1 e => ?_) (fun q hq hs2 h2 => ?_)⟩
      · rw [es_upd_n (by decide), es_upd_j (by have := h1.1; have := h2.1; have := h2.2; omega)]; exact f1 p' q h1 h2 h3
      · rw [es_upd_n (by decide), es_upd_c]
        by_cases e : q = k
        · rw [if_pos (by omega), e]
        · rw [if_neg (by omega)]; exact f2 q hq (by omega)
      · rw [es_upd_c]
        by_cases e : i = a
        · rw [if_pos (by omega)]; exact ⟨hk, hs, by omega⟩
        · rw [if_neg (by omega), es_upd_n (by decide)]
          have := f6 i i0 (by omega)
          exact ⟨this.1, this.2.1, by omega⟩
      · rw [es_upd_c, es_upd_c, es_upd_n (by decide), es_upd_n (by decide)] at e
        by_cases e1 : i = a
        · by_cases e2 : j = a
          · omega
          · rw [if_pos (by omega), if_neg (by omega)] at e
            have := (f6 j j0 (by omega)).2.2
            omega
        · by_cases e2 : j = a
          · rw [if_neg (by omega), if_pos (by omega)] at e
            have := (f6 i i0 (by omega)).2.2
            omega
          · rw [if_neg (by omega), if_neg (by omega)] at e
            exact f7 i j i0 (by omega) j0 (by omega) e
      · by_cases e : q = k
        · exact ⟨a, by omega, by omega, by rw [es_upd_s, e]⟩
        · obtain ⟨i, i0, i1, i2⟩ := f8 q hq hs2 (by omega)
          exact ⟨i, i0, by omega, by rw [es_upd_j (by omega), es_upd_n (by decide)]; exact i2⟩
/-- the table in the midst of a step -/
def wyT (T : es_M) (y a b : Int) (M : es_M) : Prop := ∀ p q, isP T p → isP T q → M 61 (p * 36 + q) = if p < a ∨ (p = a ∧ q < b) then wyN T (y.toNat + 1) p q else wyN T y.toNat p q
theorem s_shorten (hT : TI T) {y : Int} (hy : isP T y) (h0 : wyT T y 0 0 M) (h : ∀ M', (∀ c, c ≠ 61 → M' c = M c) → wyT T (y + 1) 0 0 M' → Q 0 M') : es_Call (d + 1) 96 [.inr (.inr 60), .inl y, .inl (2 * T 1 0)] M Q := by
  apply m_Ways_shorten
  intro G hG
  apply k_Ways_shorten_0 hG
  have hn := hT.n
  have y0 := hy.1
  have y1 := hy.2
  have yn : ((y.toNat : Nat) : Int) = y := by omega
  refine es_up (P := fun a => ∀ M', (∀ c, c ≠ 61 → M' c = M c) → wyT T y a 0 M' → G 2 [lr 60, li y, li (2 * T 1 0), li a, none, none, none] [] M') (n := 2 * T 1 0) (by omega) ?_ ?_ M (fun _ _ => rfl) h0
  · intro M' f1 f2
    apply k_Ways_shorten_2 hG
    refine ⟨fun _ => h M' f1 (fun p q hp hq => ?_), fun z => absurd (Int.le_refl _) z⟩
    rw [f2 p q hp hq, if_pos (Or.inl hp.2), if_neg (by have := hp.1; have := hq.1; omega), show (y + 1).toNat = y.toNat + 1 by omega]
  · intro a a0 a1 ih M' f1 f2
    have ha : isP T a := ⟨a0, a1⟩
    obtain ⟨p1, p2, p3⟩ := w1296 (a := a) (b := y) (by omega) (by omega)
    have half : M' 61 (a * 36 + y) = wyN T y.toNat a y := by
      rw [f2 a y ha hy]
      split
      · rename_i z
        have := hy.1
        omega
      · rfl
    have hr := wyN_r hT y.toNat (by omega) a y ha hy
    apply k_Ways_shorten_2 hG
    rw [p1, half, w32_1 (k := a) (by omega) (by omega)]
    refine ⟨fun z => absurd z (by omega), fun _ => ⟨⟨p2, p3⟩, fun z => ih M' f1 (fun p q hp hq => ?_), fun z => ?_⟩⟩
    · rw [f2 p q hp hq]
      have hq1 := hq.1
      by_cases e : p = a
      · subst e
        rw [if_neg (by have := hq.1; omega), if_pos (by omega)]
        exact (wyN_skip hT (by omega) hp hq (by rw [yn]; exact z)).symm
      · by_cases e2 : p < a
        · rw [if_pos (by omega), if_pos (by omega)]
        · rw [if_neg (by omega), if_neg (by omega)]
    · refine es_up (P := fun b => ∀ M', (∀ c, c ≠ 61 → M' c = M c) → wyT T y a b M' → G 30 [lr 60, li y, li (2 * T 1 0), li a, li (wyN T y.toNat a y), li b, none] [] M') (n := 2 * T 1 0) (by omega) ?_ ?_ M' f1 f2
      · intro M' f1 f2
        apply k_Ways_shorten_30 hG
        rw [w32_1 (k := a) (by omega) (by omega)]
        refine ⟨fun _ => ih M' f1 (fun p q hp hq => ?_), fun z => absurd (Int.le_refl _) z⟩
        rw [f2 p q hp hq]
        have hq2 := hq.2
        have hq1 := hq.1
        by_cases e2 : p < a + 1
        · rw [if_pos (by omega), if_pos (Or.inl e2)]
        · rw [if_neg (by omega), if_neg (by omega)]
      · intro b b0 b1 ih2 M' f1 f2
        have hb : isP T b := ⟨b0, b1⟩
        obtain ⟨q1, q2, q3⟩ := w1296 (a := y) (b := b) (by omega) (by omega)
        obtain ⟨r1, r2, r3⟩ := w1296 (a := a) (b := b) (by omega) (by omega)
        have hr2 := wyN_r hT y.toNat (by omega) y b hy hb
        have row : M' 61 (y * 36 + b) = wyN T y.toNat y b := by
          rw [f2 y b hy hb]
          split
          · have := wyN_row hT (k := y.toNat) (by omega) hb
            rw [yn] at this
            exact this
          · rfl
        have own : M' 61 (a * 36 + b) = wyN T y.toNat a b := by
          rw [f2 a b ha hb, if_neg (by omega)]
        have st : wyN T (y.toNat + 1) a b = min (wyN T y.toNat a b) (wyN T y.toNat a y + wyN T y.toNat y b) := by
          rw [wyN_s, yn]
        apply k_Ways_shorten_30 hG
        rw [q1, r1, row, own, w32_1 (k := b) (by omega) (by omega), w32_s (k := wyN T y.toNat a y + wyN T y.toNat y b) (by omega) (by omega)]
        refine ⟨fun z => absurd z (by omega), fun _ => ⟨⟨q2, q3⟩, ⟨r2, r3⟩, fun z => ih2 M' f1 (fun p q hp hq => ?_), fun z => ⟨⟨r2, r3⟩, ih2 _ (fun c hc => by rw [es_upd_o c hc]; exact f1 c hc) (fun p q hp hq => ?_)⟩⟩⟩
        · rw [f2 p q hp hq]
          by_cases e : p = a ∧ q = b
          · rw [e.1, e.2, if_neg (by omega), if_pos (by omega)]
            omega
          · by_cases e2 : p < a ∨ (p = a ∧ q < b)
            · rw [if_pos e2, if_pos (by omega)]
            · rw [if_neg e2, if_neg (by omega)]
        · rw [es_upd_c]
          have hq1 := hq.1
          have hq2 := hq.2
          by_cases e : p = a ∧ q = b
          · rw [e.1, e.2, if_pos rfl, if_pos (by omega)]
            omega
          · rw [if_neg (by omega), f2 p q hp hq]
            by_cases e2 : p < a ∨ (p = a ∧ q < b)
            · rw [if_pos e2, if_pos (by omega)]
            · rw [if_neg e2, if_neg (by omega)]
theorem s_refresh (hT : TI T) (hR : RepC T M) (hC : CacheOK T M) (h : ∀ M', (∀ c, c ≠ 60 → c ≠ 61 → c ≠ 62 → c ≠ 63 → M' c = M c) → (∀ j, j ≠ 5 → M' 60 j = M 60 j) → M' 60 5 = 0 → (∀ p q, isP T p → isP T q → M' 61 (p * 36 + q) = wyF T p q) → nextsOK T M' → Q 0 M') : es_Call (d + 5) 92 [.inr (.inr 60)] M Q := by
  apply m_Ways_refresh
  intro G hG
  apply k_Ways_refresh_0 hG
  have hn := hT.n
  rw [hR 1 0 rfl, w32_s (by omega) (by omega)]
  refine ⟨fun z => ?_, fun z => h M (fun _ _ _ _ _ => rfl) (fun _ _ => rfl) z (fun p q hp hq => (hC.2 z).1.eq hT hp hq) (hC.2 z).2⟩
  have L2 : ∀ M', offW M M' → wyT T 0 0 0 M' → nextsOK T M' → G 39 [lr 60, li (2 * T 1 0), li 0] [] M' := by
    refine es_up (P := fun y => ∀ M', offW M M' → wyT T y 0 0 M' → nextsOK T M' → G 39 [lr 60, li (2 * T 1 0), li y] [] M') (n := 2 * T 1 0) (by omega) ?_ ?_
    · intro M' f1 f2 f3
      apply k_Ways_refresh_39 hG
      refine ⟨fun _ => ⟨Or.inl rfl, h _ (fun c c0 c1 c2 c3 => by rw [es_upd_o c c0]; exact f1 c c1 c2 c3) (fun j hj => by rw [es_upd_j hj, f1 60 (by decide) (by decide) (by decide)]) es_upd_s (fun p q hp hq => ?_) (fun p hp => ?_)⟩, fun z => absurd (Int.le_refl _) z⟩
      · rw [es_upd_n (by decide), f2 p q hp hq, if_neg (by have := hp.1; have := hq.1; omega)]; rfl
      · rw [es_upd_o 62 (by decide), es_upd_o 63 (by decide)]; exact f3 p hp
    · intro y y0 y1 ih M' f1 f2 f3
      have hy : isP T y := ⟨y0, y1⟩
      apply k_Ways_refresh_39 hG
      rw [w32_1 (k := y) (by omega) (by omega)]
      refine ⟨fun z => absurd z (by omega), fun _ => s_goes hT (repW hR f1) y0 (by omega) (fun g => es_t1 (s_shorten hT hy f2 fun M2 g1 g2 => ih M2 (fun c c1 c2 c3 => by rw [g1 c c1]; exact f1 c c1 c2 c3) g2 (fun p hp => ?_))) (fun g => es_t0 (ih M' f1 (fun p q hp hq => ?_) f3))⟩
      · rw [g1 62 (by decide), g1 63 (by decide)]; exact f3 p hp
      · have hp1 := hp.1
        have hq1 := hq.1
        rw [f2 p q hp hq, if_neg (by omega), if_neg (by omega), show (y + 1).toNat = y.toNat + 1 by omega]
        refine (wyN_skip hT (by omega) hp hq ?_).symm
        rw [show ((y.toNat : Nat) : Int) = y by omega, wyN_ng hT hy g _ (by omega) p hp]
        exact Int.le_refl _
  refine es_up (P := fun k => ∀ M', offW M M' → (∀ p q, isP T p → isP T q → p < k → M' 61 (p * 36 + q) = stp T 0 p q) → (∀ p, isP T p → p < k → nextsAt T M' p) → G 20 [lr 60, li (2 * T 1 0), li k] [] M') (n := 2 * T 1 0) (by omega) ?_ ?_ M (fun _ _ _ _ => rfl) (fun p q hp _ hk => absurd hk (by have := hp.1; omega)) (fun p hp hk => absurd hk (by have := hp.1; omega))
  · intro M' f1 f2 f3
    apply k_Ways_refresh_20 hG
    refine ⟨fun _ => L2 M' f1 (fun p q hp hq => ?_) (fun p hp => f3 p hp hp.2), fun z => absurd (Int.le_refl _) z⟩
    rw [f2 p q hp hq hp.2, if_neg (by have := hp.1; have := hq.1; omega)]; rfl
  · intro k k0 k1 ih M' f1 f2 f3
    have hk : isP T k := ⟨k0, k1⟩
    apply k_Ways_refresh_20 hG
    rw [w32_1 (k := k) (by omega) (by omega)]
    refine ⟨fun z => absurd z (by omega), fun _ => s_listNexts hT (repW hR f1) hk (fun M2 g1 g2 g3 g4 g5 => ih M2 (fun c c1 c2 c3 => by rw [g1 c c1 c2 c3]; exact f1 c c1 c2 c3) (fun p q hp hq h1 => ?_) (fun p hp h1 => ?_))⟩
    · by_cases e : p = k
      · rw [e]; exact g3 q hq
      · rw [g2 p q hp hq e]; exact f2 p q hp hq (by omega)
    · by_cases e : p = k
      · rw [e]; exact g5
      · exact g4 p hp e (f3 p hp (by omega))
end
