/-! LEAST WAYS FROM PASS TO PASS: by all passes below k between -/
theorem wok_app {T : es_M} {c : Int} : ∀ (l : List Int) (p : Int) (m : List Int), wok T c p (l ++ m) ↔ wok T c p l ∧ wok T c (wlast p l) m
  | [], p, m => ⟨fun h => ⟨True.intro, h⟩, fun h => h.2⟩
  | q :: l, p, m => by
    show ((isP T q ∧ stp T c p q < 1000000) ∧ wok T c q (l ++ m)) ↔ ((isP T q ∧ stp T c p q < 1000000) ∧ wok T c q l) ∧ wok T c (wlast q l) m
    rw [wok_app l q m]; exact ⟨fun h => ⟨⟨h.1, h.2.1⟩, h.2.2⟩, fun h => ⟨h.1.1, h.1.2, h.2⟩⟩
theorem wcost_app {T : es_M} {c : Int} : ∀ (l : List Int) (p : Int) (m : List Int), wcost T c p (l ++ m) = wcost T c p l + wcost T c (wlast p l) m
  | [], p, m => by show wcost T c p m = 0 + wcost T c p m; omega
  | q :: l, p, m => by
    show stp T c p q + wcost T c q (l ++ m) = stp T c p q + wcost T c q l + wcost T c (wlast q l) m
    rw [wcost_app l q m]; omega
theorem wlast_app : ∀ (l : List Int) (p : Int) (m : List Int), wlast p (l ++ m) = wlast (wlast p l) m
  | [], _, _ => rfl
  | q :: l, _, m => wlast_app l q m
def wyN (T : es_M) : Nat → Int → Int → Int
  | 0 => fun p q => stp T 0 p q
  | k + 1 => fun p q => min (wyN T k p q) (wyN T k p k + wyN T k k q)
theorem wyN_s (T : es_M) (k : Nat) (p q : Int) : wyN T (k + 1) p q = min (wyN T k p q) (wyN T k p k + wyN T k k q) := rfl
def wyF (T : es_M) (p q : Int) : Int := wyN T (2 * T 1 0).toNat p q
theorem wyN_r {T : es_M} (hT : TI T) : ∀ k : Nat, (k : Int) ≤ 2 * T 1 0 → ∀ p q, isP T p → isP T q → 1 ≤ wyN T k p q ∧ wyN T k p q ≤ 1000000 := by
  intro k
  induction k with
  | zero =>
    intro _ p q hp hq
    show 1 ≤ stp T 0 p q ∧ stp T 0 p q ≤ 1000000
    rcases stp_r hT (c := 0) (Or.inr hp) hq with h | ⟨h, -⟩ <;> omega
  | succ k ih =>
    intro hk p q hp hq
    have hk2 : isP T k := ⟨by omega, by omega⟩
    have i1 := ih (by omega) p q hp hq
    have i2 := ih (by omega) p k hp hk2
    have i3 := ih (by omega) k q hk2 hq
    rw [wyN_s]
    omega
theorem wyN_row {T : es_M} (hT : TI T) {k : Nat} (hk : (k : Int) < 2 * T 1 0) {q : Int} (hq : isP T q) : wyN T (k + 1) k q = wyN T k k q := by
  have hk2 : isP T k := ⟨by omega, by omega⟩
  have i1 := wyN_r hT k (by omega) k k hk2 hk2
  rw [wyN_s]
  omega
theorem wyN_col {T : es_M} (hT : TI T) {k : Nat} (hk : (k : Int) < 2 * T 1 0) {p : Int} (hp : isP T p) : wyN T (k + 1) p k = wyN T k p k := by
  have hk2 : isP T k := ⟨by omega, by omega⟩
  have i1 := wyN_r hT k (by omega) k k hk2 hk2
  rw [wyN_s]
  omega
theorem wyN_tri {T : es_M} (hT : TI T) : ∀ k : Nat, (k : Int) ≤ 2 * T 1 0 → ∀ p q r, isP T p → isP T q → 0 ≤ r → r < (k : Int) → wyN T k p q ≤ wyN T k p r + wyN T k r q := by
  intro k
  induction k with
  | zero => intro _ p q r _ _ r0 r1; omega
  | succ k ih =>
    intro hk p q r hp hq r0 r1
    have hk2 : isP T k := ⟨by omega, by omega⟩
    have hr2 : isP T r := ⟨by omega, by omega⟩
    have kk := wyN_r hT k (by omega) k k hk2 hk2
    by_cases e : r = k
    · subst e
      rw [wyN_row hT (by omega) hq, wyN_col hT (by omega) hp, wyN_s]
      omega
    · have i1 := ih (by omega) p q r hp hq r0 (by omega)
      have i2 := ih (by omega) k q r hk2 hq r0 (by omega)
      have i3 := ih (by omega) p k r hp hk2 r0 (by omega)
      have i4 := ih (by omega) k k r hk2 hk2 r0 (by omega)
      rw [wyN_s, wyN_s, wyN_s]
      omega
theorem wyN_0 {T : es_M} : ∀ (k : Nat) (p q : Int), wyN T k p q ≤ stp T 0 p q := by
  intro k
  induction k with
  | zero => intro p q; exact Int.le_refl _
  | succ k ih => intro p q; have := ih p q; rw [wyN_s]; omega
theorem wyN_ach {T : es_M} (hT : TI T) : ∀ k : Nat, (k : Int) ≤ 2 * T 1 0 → ∀ p q, isP T p → isP T q → wyN T k p q < 1000000 → ∃ l, l ≠ [] ∧ wok T 0 p l ∧ wlast p l = q ∧ wcost T 0 p l = wyN T k p q := by
  intro k
  induction k with
  | zero =>
    intro _ p q hp hq h
    exact ⟨[q], by simp, ⟨⟨hq, h⟩, True.intro⟩, rfl, by show stp T 0 p q + 0 = stp T 0 p q; omega⟩
  | succ k ih =>
    intro hk p q hp hq h
    have hk2 : isP T k := ⟨by omega, by omega⟩
    rw [wyN_s] at h ⊢
    by_cases e : wyN T k p q ≤ wyN T k p k + wyN T k k q
    · obtain ⟨l, l1, l2, l3, l4⟩ := ih (by omega) p q hp hq (by omega)
      exact ⟨l, l1, l2, l3, by omega⟩
    · have r1 := wyN_r hT k (by omega) p k hp hk2
      have r2 := wyN_r hT k (by omega) k q hk2 hq
      obtain ⟨l, l1, l2, l3, l4⟩ := ih (by omega) p k hp hk2 (by omega)
      obtain ⟨m, m1, m2, m3, m4⟩ := ih (by omega) k q hk2 hq (by omega)
      refine ⟨l ++ m, by simp [l1], (wok_app l p m).mpr ⟨l2, by rw [l3]; exact m2⟩, by rw [wlast_app, l3, m3], ?_⟩
      rw [wcost_app, l3, l4, m4]
      omega
theorem wyF_r {T : es_M} (hT : TI T) {p q : Int} (hp : isP T p) (hq : isP T q) : 1 ≤ wyF T p q ∧ wyF T p q ≤ 1000000 := wyN_r hT _ (by have := hT.n; omega) p q hp hq
theorem wyF_tri {T : es_M} (hT : TI T) {p q r : Int} (hp : isP T p) (hq : isP T q) (hr : isP T r) : wyF T p q ≤ wyF T p r + wyF T r q := wyN_tri hT _ (by have := hT.n; omega) p q r hp hq hr.1 (by have := hT.n; have := hr.2; omega)
theorem wyF_0 {T : es_M} (p q : Int) : wyF T p q ≤ stp T 0 p q := wyN_0 _ p q
theorem wyF_low {T : es_M} (hT : TI T) : ∀ (l : List Int) (p : Int), isP T p → l ≠ [] → wok T 0 p l → wyF T p (wlast p l) ≤ wcost T 0 p l
  | [], _, _, h, _ => absurd rfl h
  | [q], p, hp, _, h => by
    show wyF T p q ≤ stp T 0 p q + 0
    have := wyF_0 (T := T) p q
    omega
  | q :: r :: l, p, hp, _, h => by
    have ih := wyF_low hT (r :: l) q h.1.1 (by simp) h.2
    have hl : isP T (wlast q (r :: l)) := by
      clear ih
      have hw := h.2
      revert hw
      have : ∀ (l : List Int) (q r : Int), wok T 0 q (r :: l) → isP T (wlast q (r :: l)) := by
        intro l
        induction l with
        | nil => intro q r hw; exact hw.1.1
        | cons s l ih => intro q r hw; exact ih r s hw.2
      exact this l q r
    have t := wyF_tri hT hp hl h.1.1
    have s := wyF_0 (T := T) p q
    show wyF T p (wlast q (r :: l)) ≤ stp T 0 p q + wcost T 0 q (r :: l)
    omega
theorem wyF_min {T : es_M} (hT : TI T) {p q : Int} (hp : isP T p) (hq : isP T q) : isMin (fun x => ∃ l, l ≠ [] ∧ wok T 0 p l ∧ wlast p l = q ∧ wcost T 0 p l = x) (wyF T p q) := by
  refine ⟨(wyF_r hT hp hq).2, ?_, fun h => wyN_ach hT _ (by have := hT.n; omega) p q hp hq h⟩
  rintro x ⟨l, l1, l2, l3, l4⟩
  have := wyF_low hT l p hp l1 l2
  rw [l3, l4] at this
  exact this
theorem leastOK.eq {T M : es_M} (hT : TI T) (h : leastOK T M) {p q : Int} (hp : isP T p) (hq : isP T q) : M 61 (p * 36 + q) = wyF T p q := (h p q hp hq).uniq (wyF_min hT hp hq)
theorem leastOK.of {T M : es_M} (hT : TI T) (h : ∀ p q, isP T p → isP T q → M 61 (p * 36 + q) = wyF T p q) : leastOK T M := fun p q hp hq => by rw [h p q hp hq]; exact wyF_min hT hp hq
theorem wyN_ng {T : es_M} (hT : TI T) {q : Int} (hq : isP T q) (hg : ¬ goes T q) : ∀ k : Nat, (k : Int) ≤ 2 * T 1 0 → ∀ p, isP T p → wyN T k p q = 1000000 := by
  intro k
  induction k with
  | zero => intro _ p hp; show stp T 0 p q = 1000000; unfold stp; rw [if_neg (fun z => hg z.1)]
  | succ k ih =>
    intro hk p hp
    have hk2 : isP T k := ⟨by omega, by omega⟩
    have i1 := ih (by omega) p hp
    have i2 := ih (by omega) k hk2
    have i3 := wyN_r hT k (by omega) p k hp hk2
    rw [wyN_s]
    omega
theorem wyF_ng {T : es_M} (hT : TI T) {p q : Int} (hp : isP T p) (hq : isP T q) (hg : ¬ goes T q) : wyF T p q = 1000000 := wyN_ng hT hq hg _ (by have := hT.n; omega) p hp
/-- a step that takes nothing off -/
theorem wyN_skip {T : es_M} (hT : TI T) {k : Nat} (hk : (k : Int) < 2 * T 1 0) {p q : Int} (hp : isP T p) (hq : isP T q) (h : 1000000 ≤ wyN T k p k) : wyN T (k + 1) p q = wyN T k p q := by
  have hk2 : isP T k := ⟨by omega, by omega⟩
  have i1 := wyN_r hT k (by omega) p q hp hq
  have i2 := wyN_r hT k (by omega) k q hk2 hq
  rw [wyN_s]
  omega
