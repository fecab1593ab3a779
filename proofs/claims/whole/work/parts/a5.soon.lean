/-! PAIRS OF CALLS: soonest (1). The soonest end of a pass, and what can be reached when -/
/-- ends of a pass that begins at r or later -/
def seS (T : es_M) (q r e : Int) : Prop := ∃ m, (r ≤ m ∧ m < 1440) ∧ (T 21 (q / 2) ≤ m ∧ m ≤ T 22 (q / 2)) ∧ m + lstF T q m = e ∧ e ≤ 1440
noncomputable def seF (T : es_M) (q r : Int) : Int := Classical.epsilon (fun v => isMin (seS T q r) v)
section
variable {T : es_M}
theorem se_p (hT : TI T) {q r e : Int} (hq : isP T q) (hg : ¬ ln T q = -1) (r0 : 0 ≤ r) (h : seS T q r e) : r < e ∧ e ≤ 1440 := by
  obtain ⟨m, m1, m2, m3, m4⟩ := h
  have := lstF_r hT hq hg (b := m) (by omega) (by omega)
  omega
theorem se_min (hT : TI T) {q r : Int} (hq : isP T q) (hg : ¬ ln T q = -1) (r0 : 0 ≤ r) : isMin (seS T q r) (seF T q r) :=
  Classical.epsilon_spec (isMin_ex (fun x h => by have := se_p hT hq hg r0 h; omega))
theorem se_r (hT : TI T) {q r : Int} (hq : isP T q) (hg : ¬ ln T q = -1) (r0 : 0 ≤ r) : (0 ≤ seF T q r ∧ seF T q r ≤ 1000000) ∧ (seF T q r < 1000000 → r < seF T q r ∧ seF T q r ≤ 1440) := by
  have h := se_min hT hq hg r0
  refine ⟨⟨?_, h.1⟩, fun z => se_p hT hq hg r0 (h.2.2 z)⟩
  by_cases z : seF T q r < 1000000
  · have := se_p hT hq hg r0 (h.2.2 z); omega
  · omega
theorem se_mono (hT : TI T) {q r r' : Int} (hq : isP T q) (hg : ¬ ln T q = -1) (r0 : 0 ≤ r) (hr : r ≤ r') : seF T q r ≤ seF T q r' := by
  have h := se_min hT hq hg r0
  have h' := se_min hT hq hg (r := r') (by omega)
  by_cases z : seF T q r' < 1000000
  · obtain ⟨m, m1, m2⟩ := h'.2.2 z
    exact h.2.1 _ ⟨m, ⟨by omega, m1.2⟩, m2⟩
  · have := h.1; omega
theorem se_end (hT : TI T) {q r : Int} (hq : isP T q) (hg : ¬ ln T q = -1) (r0 : 1440 ≤ r) : seF T q r = 1000000 := by
  have h := se_min hT hq hg (r := r) (by omega)
  refine h.uniq ⟨Int.le_refl _, fun c ⟨m, m1, _⟩ => by omega, fun z => absurd z (by decide)⟩
theorem se_step (hT : TI T) {q r : Int} (hq : isP T q) (hg : ¬ ln T q = -1) (r0 : 0 ≤ r) : seF T q r = if r < 1440 ∧ (T 21 (q / 2) ≤ r ∧ r ≤ T 22 (q / 2)) ∧ r + lstF T q r ≤ 1440 then min (seF T q (r + 1)) (r + lstF T q r) else seF T q (r + 1) := by
  have h := se_min hT hq hg r0
  have h' := se_min hT hq hg (r := r + 1) (by omega)
  refine h.uniq ?_
  split
  · rename_i z
    refine ⟨by have := h'.1; omega, fun c ⟨m, m1, m2, m3, m4⟩ => ?_, fun w => ?_⟩
    · by_cases e : m = r
      · subst e; omega
      · have := h'.2.1 c ⟨m, ⟨by omega, m1.2⟩, m2, m3, m4⟩; omega
    · by_cases e : seF T q (r + 1) ≤ r + lstF T q r
      · rw [Int.min_eq_left e] at w ⊢
        obtain ⟨m, m1, m2⟩ := h'.2.2 w
        exact ⟨m, ⟨by omega, m1.2⟩, m2⟩
      · rw [Int.min_eq_right (by omega)]
        exact ⟨r, ⟨Int.le_refl _, z.1⟩, z.2.1, rfl, z.2.2⟩
  · rename_i z
    refine ⟨h'.1, fun c ⟨m, m1, m2, m3, m4⟩ => ?_, fun w => ?_⟩
    · by_cases e : m = r
      · subst e; exact absurd ⟨m1.2, m2, by omega⟩ z
      · exact h'.2.1 c ⟨m, ⟨by omega, m1.2⟩, m2, m3, m4⟩
    · obtain ⟨m, m1, m2⟩ := h'.2.2 w
      exact ⟨m, ⟨by omega, m1.2⟩, m2⟩
/-- reached at a time, behind a pass, with services done -/
def tst (T : es_M) (a p q : Int) : Prop := isP T q ∧ stp T a p q < 1000000
def trR (T : es_M) (a m p d t : Int) : Prop := ∀ R : Int → Int → Int → Prop, R 36 0 m → (∀ p d t q, R p d t → tst T a p q → seF T q (t + tb T p q) < 1000000 → R q (dnF T q d (allF T)) (seF T q (t + tb T p q))) → R p d t
theorem tr_1 {a m : Int} : trR T a m 36 0 m := fun _ h _ => h
theorem tr_s {a m p d t q : Int} (h : trR T a m p d t) (h1 : tst T a p q) (h2 : seF T q (t + tb T p q) < 1000000) : trR T a m q (dnF T q d (allF T)) (seF T q (t + tb T p q)) := fun R r0 rs => rs _ _ _ _ (h R r0 rs) h1 h2
theorem goes_ln {p : Int} (h : goes T p) : ¬ ln T p = -1 := h.1
/-- a step's turn -/
theorem tst_r (hT : TI T) {a p q : Int} (hp : isS T p) (h : tst T a p q) : (goes T q ∧ ¬ ln T q = -1) ∧ 0 ≤ tb T p q ∧ tb T p q ≤ 99 ∧ og T q = cr T a p := by
  have g := stp_go hT hp h.1 h.2
  have t := tb_r hT hp h.1
  rcases stp_r hT (c := a) hp h.1 with w | ⟨-, w1, w2, w3, -⟩
  · have := h.2; omega
  · exact ⟨⟨g, goes_ln g⟩, by omega, t.2, w2⟩
theorem tr_r (hT : TI T) {a m p d t : Int} (m0 : 0 ≤ m ∧ m < 1440) (h : trR T a m p d t) : isS T p ∧ (0 ≤ d ∧ sub d (allF T)) ∧ (0 ≤ t ∧ t ≤ 1440) ∧ (p = 36 → d = 0 ∧ t = m) := by
  refine h (fun p d t => isS T p ∧ (0 ≤ d ∧ sub d (allF T)) ∧ (0 ≤ t ∧ t ≤ 1440) ∧ (p = 36 → d = 0 ∧ t = m)) ⟨Or.inl rfl, ⟨Int.le_refl _, s0W _⟩, by omega, fun _ => ⟨rfl, rfl⟩⟩ ?_
  rintro p d t q ⟨i1, i2, i3, -⟩ h1 h2
  have tr := tst_r hT i1 h1
  have sr := (se_r hT h1.1 tr.1.2 (r := t + tb T p q) (by omega)).2 h2
  exact ⟨Or.inr h1.1, ⟨dn_nn i2.1, dn_in i2.2⟩, by omega, fun e => absurd e (isP36 hT h1.1)⟩
/-- a table that holds what is reached, and is closed, holds the least -/
theorem tr_min (hT : TI T) {a m : Int} (m0 : 0 ≤ m ∧ m < 1440) {V : Int → Int → Int} (v0 : V 36 0 ≤ m) (vn : ∀ p d, isS T p → 0 ≤ d → d ≤ allF T → 0 ≤ V p d) (cls : ∀ p d q, isS T p → 0 ≤ d → d ≤ allF T → V p d < 1000000 → tst T a p q → V q (dnF T q d (allF T)) ≤ seF T q (V p d + tb T p q)) {p d t : Int} (h : trR T a m p d t) : V p d ≤ t := by
  have ha := hT.all
  refine (h (fun p d t => (V p d ≤ t ∧ t ≤ 1440) ∧ isS T p ∧ (0 ≤ d ∧ sub d (allF T))) ⟨⟨v0, by omega⟩, Or.inl rfl, Int.le_refl _, s0W _⟩ ?_).1.1
  rintro p d t q ⟨⟨i1, i0⟩, i2, i3, i4⟩ h1 h2
  have tr := tst_r hT i2 h1
  have dl := (sub_all hT i3).mp i4
  have v1 := vn p d i2 i3 dl
  have c := cls p d q i2 i3 dl (by omega) h1
  have mo := se_mono hT h1.1 tr.1.2 (r := V p d + tb T p q) (r' := t + tb T p q) (by omega) (by omega)
  have sr := (se_r hT h1.1 tr.1.2 (r := t + tb T p q) (by omega)).2 h2
  exact ⟨⟨by omega, sr.2⟩, Or.inr h1.1, dn_nn i3, dn_in i4⟩
/-- the answer -/
def soS (T : es_M) (a m t : Int) : Prop := ∃ p, trR T a m p (allF T) t ∧ cr T a p = a
end
