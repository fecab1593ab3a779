/-! PAIRS OF CALLS: bars (8). Which passes can be last, by all that is done -/
def hst (X : es_M) (a D p k : Int) : Prop := (isK X k ∧ due X (allF X) D k) ∧ wyE X a p (poF X k)
def hRc (X : es_M) (a D p : Int) : Prop := ∃ l, ch X a (allF X) 36 0 l D ∧ pl X 36 l = p
def hSn (X : es_M) (a n E q : Int) : Prop := ∃ D p k, (0 ≤ D ∧ D < n) ∧ hRc X a D p ∧ hst X a D p k ∧ wth D (k / 2) = E ∧ poF X k = q
def hSk (X : es_M) (a D n E q : Int) : Prop := hSn X a D E q ∨ ∃ p k, k < n ∧ hRc X a D p ∧ hst X a D p k ∧ wth D (k / 2) = E ∧ poF X k = q
theorem ch_snoc {T : es_M} {a W : Int} : ∀ (l : List Int) (p d k D : Int), ch T a W p d (l ++ [k]) D ↔ ∃ D', ch T a W p d l D' ∧ ((isK T k ∧ due T W D' k) ∧ wyE T a (pl T p l) (poF T k)) ∧ wth D' (k / 2) = D
  | [], p, d, k, D => ⟨fun h => ⟨d, rfl, h.1, h.2⟩, fun ⟨D', h1, h2, h3⟩ => by rw [← show d = D' from h1] at h2 h3; exact ⟨h2, h3⟩⟩
  | x :: l, p, d, k, D => by
    show ((_ ∧ _) ∧ ch T a W (poF T x) (wth d (x / 2)) (l ++ [k]) D) ↔ ∃ D', ((_ ∧ _) ∧ ch T a W (poF T x) (wth d (x / 2)) l D') ∧ _
    rw [ch_snoc l (poF T x) (wth d (x / 2)) k D]
    exact ⟨fun ⟨h1, D', h2, h3⟩ => ⟨D', ⟨h1, h2⟩, h3⟩, fun ⟨D', ⟨h1, h2⟩, h3⟩ => ⟨h1, D', h2, h3⟩⟩
theorem ch_nn {T : es_M} {a W : Int} : ∀ (l : List Int) (p d D : Int), 0 ≤ d → ch T a W p d l D → 0 ≤ D
  | [], _, d, D, h0, h => by rw [← show d = D from h]; exact h0
  | _ :: l, _, _, _, _, h => ch_nn l _ _ _ wth_nn h.2
theorem li_snoc {l : List Int} (h : l ≠ []) : ∃ m k, l = m ++ [k] := ⟨l.dropLast, l.getLast h, (List.dropLast_concat_getLast h).symm⟩
theorem hR_ne {X : es_M} {a D p : Int} (h : hRc X a D p) (h0 : D ≠ 0 ∨ p ≠ 36) : hSn X a D D p := by
  obtain ⟨l, l1, l2⟩ := h
  have ne : l ≠ [] := fun e => by
    subst e
    have e1 : (0 : Int) = D := l1
    have e2 : (36 : Int) = p := l2
    omega
  obtain ⟨m, k, e⟩ := li_snoc ne
  subst e
  obtain ⟨D', d1, d2, d3⟩ := (ch_snoc m 36 0 k D).mp l1
  have n0 := ch_nn m 36 0 D' (Int.le_refl _) d1
  have gt := wth_gt (v := k / 2) n0 d2.1.2.2.1.2
  rw [d3] at gt
  rw [pl_last] at l2
  exact ⟨D', pl X 36 m, k, ⟨n0, gt⟩, ⟨m, d1, rfl⟩, d2, d3, l2⟩
theorem hS_R {X : es_M} {a n E q : Int} (h : hSn X a n E q) : hRc X a E q := by
  obtain ⟨D, p, k, -, ⟨l, l1, l2⟩, h2, h3, h4⟩ := h
  exact ⟨l ++ [k], (ch_snoc l 36 0 k E).mpr ⟨D, l1, by rw [l2]; exact h2, h3⟩, by rw [pl_last]; exact h4⟩
theorem hR_S {X : es_M} {a E q : Int} (h0 : 0 < E) : hRc X a E q ↔ hSn X a E E q := ⟨fun h => hR_ne h (Or.inl (by omega)), hS_R⟩
theorem hR_0 {X : es_M} {a q : Int} : hRc X a 0 q ↔ q = 36 := by
  constructor
  · intro h
    refine Classical.byContradiction fun e => ?_
    obtain ⟨D, p, k, h1, -⟩ := hR_ne h (Or.inr e)
    omega
  · rintro rfl; exact ⟨[], rfl, rfl⟩
theorem hR_P {X : es_M} (hX : TI X) {a D p : Int} (h : hRc X a D p) (h0 : 0 < D) : isP X p ∧ goes X p := by
  obtain ⟨D', p', k, -, -, h2, -, h4⟩ := (hR_S h0).mp h
  have kp := poF_r hX h2.1.1.1 h2.1.1.2
  rw [← h4]
  exact ⟨⟨kp.1, kp.2.1⟩, h2.1.2.1.2⟩
theorem hSk_0 {X : es_M} {a D E q : Int} : hSk X a D 0 E q ↔ hSn X a D E q := ⟨fun h => h.elim id (fun ⟨_, k, h1, _, h2, _⟩ => absurd h2.1.1.1 (by omega)), Or.inl⟩
theorem hSk_e {X : es_M} {a D E q : Int} (D0 : 0 ≤ D) : hSk X a D (2 * X 1 1) E q ↔ hSn X a (D + 1) E q := by
  constructor
  · rintro (⟨D', p, k, h1, h2⟩ | ⟨p, k, h1, h2⟩)
    · exact ⟨D', p, k, ⟨h1.1, by omega⟩, h2⟩
    · exact ⟨D, p, k, ⟨D0, by omega⟩, h2⟩
  · rintro ⟨D', p, k, h1, h2⟩
    by_cases e : D' = D
    · subst e; exact Or.inr ⟨p, k, h2.2.1.1.1.2, h2⟩
    · exact Or.inl ⟨D', p, k, ⟨h1.1, by omega⟩, h2⟩
theorem hSk_s {X : es_M} {a D k E q : Int} : hSk X a D (k + 1) E q ↔ hSk X a D k E q ∨ ((∃ p, hRc X a D p ∧ hst X a D p k) ∧ E = wth D (k / 2) ∧ q = poF X k) := by
  constructor
  · rintro (h | ⟨p, j, h1, h2, h3, h4, h5⟩)
    · exact Or.inl (Or.inl h)
    · by_cases e : j = k
      · subst e; exact Or.inr ⟨⟨p, h2, h3⟩, h4.symm, h5.symm⟩
      · exact Or.inl (Or.inr ⟨p, j, by omega, h2, h3, h4, h5⟩)
  · rintro ((h | ⟨p, j, h1, h2⟩) | ⟨⟨p, h1, h2⟩, h3, h4⟩)
    · exact Or.inl h
    · exact Or.inr ⟨p, j, by omega, h2⟩
    · exact Or.inr ⟨p, k, by omega, h1, h2, h3.symm, h4.symm⟩
/-- a way from behind a pass is there whatever the first corner -/
theorem wyE_c {X : es_M} (hX : TI X) {a p q : Int} (hp : isP X p) : wyE X a p q ↔ wyE X 0 p q := ⟨fun ⟨l, l1, l2, l3⟩ => ⟨l, l1, wok_c hX l p hp l2, l3⟩, fun ⟨l, l1, l2, l3⟩ => ⟨l, l1, wok_c hX l p hp l2, l3⟩⟩
theorem lk_wy {X : es_M} (hX : TI X) {a p q : Int} (hp : isP X p) (hq : isP X q) : lkF X p q ↔ goes X p ∧ wyE X a p q := by
  rw [lkF_iff hX hp hq, wyE_c hX hp]; rfl
/-- a way from a corner -/
theorem wy_36 {X : es_M} (hX : TI X) {a q : Int} (hq : isP X q) : wyE X a 36 q ↔ ∃ p, (isP X p ∧ goes X p ∧ og X p = a) ∧ (p = q ∨ lkF X p q) := by
  constructor
  · rintro ⟨l, l1, l2, l3⟩
    cases l with
    | nil => exact absurd rfl l1
    | cons x t =>
      have hx := l2.1.1
      have s := l2.1.2
      rcases stp_r hX (c := a) (Or.inl rfl) hx with w | ⟨-, w1, w2, -⟩
      · omega
      · refine ⟨x, ⟨hx, w1, w2⟩, ?_⟩
        by_cases e : t = []
        · subst e; exact Or.inl l3
        · exact Or.inr ((lk_wy hX hx hq).mpr ⟨w1, t, e, l2.2, l3⟩)
  · rintro ⟨p, ⟨p1, p2, p3⟩, h⟩
    have s : stp X a 36 p < 1000000 := by
      rw [stp36 p3 p2]
      have := ln_r hX p1
      omega
    rcases h with h | h
    · subst h; exact ⟨[p], by simp, ⟨⟨p1, s⟩, True.intro⟩, rfl⟩
    · obtain ⟨-, l, l1, l2, l3⟩ := (lk_wy hX (a := a) p1 hq).mp h
      exact ⟨p :: l, by simp, ⟨⟨p1, s⟩, l2⟩, l3⟩
theorem Tg_po {T : es_M} {f : Int} : poF (Tg T f) = poF T := by unfold poF; rw [Tg_o (by decide) (by decide)]
theorem Tg_all {T : es_M} {f : Int} : allF (Tg T f) = allF T := by unfold allF; rw [Tg_o (by decide) (by decide)]
theorem Tg_isK {T : es_M} {f k : Int} : isK (Tg T f) k ↔ isK T k := by unfold isK; rw [Tg_o (by decide) (by decide)]
theorem Tg_canDo {T : es_M} {f k : Int} : canDo (Tg T f) k ↔ canDo T k := by unfold canDo; rw [Tg_ln, Tg_o (by decide) (by decide), Tg_o (by decide) (by decide)]
theorem Tg_free {T : es_M} {f v W d : Int} : free (Tg T f) v W d ↔ free T v W d := by unfold free; rw [Tg_o (by decide) (by decide)]
theorem Tg_due {T : es_M} {f W d k : Int} : due (Tg T f) W d k ↔ due T W d k := by unfold due; rw [Tg_canDo, Tg_goes, Tg_free, Tg_po]
/-- who is ahead, all being wanted -/
theorem free_all {T : es_M} (hT : TI T) {v d : Int} (v0 : 0 ≤ v) (v1 : v < 10) : free T v (allF T) d ↔ sub (T 12 v) d := by
  rw [free_iff]
  have ah := hT.ah v0 v1
  have hv := hT.v
  constructor
  · intro h i hi
    refine h i hi ?_
    rw [all_bit hT, decide_eq_true_eq]
    refine Classical.byContradiction fun w => ?_
    have : (T 12 v).toNat < 2 ^ (T 1 1).toNat := by
      have h1 := ah.2.2.1
      have h2 := ah.2.1
      have e : ((2 : Int) ^ (T 1 1).toNat) = ((2 ^ (T 1 1).toNat : Nat) : Int) := by norm_cast
      omega
    have lt : (T 12 v).toNat < 2 ^ i := Nat.lt_of_lt_of_le this (Nat.pow_le_pow_right (by decide) (by omega))
    rw [Nat.testBit_lt_two_pow lt] at hi
    cases hi
  · intro h i h1 _; exact h i h1
