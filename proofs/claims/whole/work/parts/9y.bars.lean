/-! PAIRS OF CALLS: bars (5). What can be come to, in the class -/
def Tg (T : es_M) (f : Int) : es_M := if f = -1 then T else Tf T f
theorem Tg_TI {T : es_M} (hT : TI T) {f : Int} : TI (Tg T f) := by
  unfold Tg; split
  · exact hT
  · exact Tf_TI hT
theorem Tg_o {T : es_M} {f : Int} {k : Nat} (h1 : k ≠ 9) (h2 : k ≠ 101) : Tg T f k = T k := by
  unfold Tg; split
  · rfl
  · exact Tf_o h1 h2
theorem Tg_og {T : es_M} {f : Int} : og (Tg T f) = og T := og_congr (Tg_o (by decide) (by decide)) (Tg_o (by decide) (by decide))
theorem Tg_gl {T : es_M} {f : Int} : gl (Tg T f) = gl T := gl_congr (Tg_o (by decide) (by decide)) (Tg_o (by decide) (by decide))
theorem Tg_ln {T : es_M} {f : Int} : ln (Tg T f) = ln T := ln_congr (Tg_o (by decide) (by decide)) (Tg_o (by decide) (by decide))
theorem Tg_goes {T : es_M} {f p : Int} : goes (Tg T f) p ↔ goes T p := by unfold goes; rw [Tg_ln, Tg_o (by decide) (by decide)]
theorem Tg_isP {T : es_M} {f p : Int} : isP (Tg T f) p ↔ isP T p := by unfold isP; rw [Tg_o (by decide) (by decide)]
/-- a step, its bar taken away at f -/
theorem Tg_stp {T : es_M} (hT : TI T) {f p q : Int} (f0 : f = -1 ∨ (0 ≤ f ∧ f < 12)) (hp : isP T p) (hq : isP T q) : stp (Tg T f) 0 p q < 1000000 ↔ goes T q ∧ gl T p = og T q ∧ (gl T p = f ∨ stp T 0 p q < 1000000) := by
  have hpT := (Tg_isP (T := T) (f := f)).mpr hp
  have hqT := (Tg_isP (T := T) (f := f)).mpr hq
  have p36 := isP36 hT hp
  have gq := gl_r hT hq
  have gp := gl_r hT hp
  have cp : ∀ X : es_M, cr X 0 p = gl X p := fun X => if_neg p36
  have tp : ∀ X : es_M, tb X p q = tmF X (og X p) (og X q) (gl X q) := fun X => if_neg p36
  have A : ∀ X : es_M, TI X → isP X p → isP X q → (stp X 0 p q < 1000000 ↔ goes X q ∧ og X q = gl X p ∧ ¬ tmF X (og X p) (og X q) (gl X q) = -1) := fun X hX h1 h2 => by
    constructor
    · intro s
      rcases stp_r hX (c := 0) (Or.inr h1) h2 with w | ⟨-, w1, w2, w3, -⟩
      · omega
      · rw [cp] at w2; rw [tp] at w3; exact ⟨w1, w2, w3⟩
    · rintro ⟨w1, w2, w3⟩
      rcases stp_r hX (c := 0) (Or.inr h1) h2 with w | ⟨w, -⟩
      · exfalso
        unfold stp at w
        rw [cp, tp, if_pos ⟨w1, w2, w3⟩] at w
        have t := tb_r hX (Or.inr h1) h2
        have l := ln_r hX h2
        rw [tp] at t
        omega
      · omega
  rw [A (Tg T f) (Tg_TI hT) hpT hqT, A T hT hp hq, Tg_goes, Tg_og, Tg_gl]
  have e5 : Tg T f 14 = T 14 := Tg_o (by decide) (by decide)
  have tm : ¬ tmF (Tg T f) (og T p) (og T q) (gl T q) = -1 ↔ (og T q = f ∨ ¬ tmF T (og T p) (og T q) (gl T q) = -1) := by
    have j0 : 0 ≤ (og T p * 12 + og T q) * 12 + gl T q ∧ (og T p * 12 + og T q) * 12 + gl T q < 1728 := by omega
    have jq : ((og T p * 12 + og T q) * 12 + gl T q) / 12 % 12 = og T q := by omega
    have tn := hT.tn j0.1 j0.2
    have bk := hT.S.1.2.2.2
    have b14 : 0 ≤ T 14 5 := bk.1
    unfold tmF
    rw [e5]
    by_cases ef : f = -1
    · have e9 : Tg T f = T := if_pos ef
      rw [e9]
      constructor
      · intro w; exact Or.inr w
      · rintro (w | w)
        · omega
        · exact w
    · have e9 : ∀ j, Tg T f 9 j = if atF f j ∧ T 9 j = -1 then 0 else T 9 j := fun j => by unfold Tg; rw [if_neg ef]; exact Tf_9
      rw [e9]
      generalize (og T p * 12 + og T q) * 12 + gl T q = j at *
      by_cases q1 : og T q = f
      · constructor
        · intro _; exact Or.inl q1
        · intro _
          by_cases q2 : T 9 j = -1
          · have v9 : (if atF f j ∧ T 9 j = -1 then (0 : Int) else T 9 j) = 0 := if_pos ⟨⟨j0, by rw [jq]; exact q1⟩, q2⟩
            rw [v9, if_neg (show ¬ (0 : Int) = -2 by decide)]; decide
          · have v9 : (if atF f j ∧ T 9 j = -1 then (0 : Int) else T 9 j) = T 9 j := if_neg (fun z => q2 z.2)
            rw [v9]
            by_cases q3 : T 9 j = -2
            · rw [if_pos q3]; split <;> omega
            · rw [if_neg q3]; exact q2
      · have na : ¬ (atF f j ∧ T 9 j = -1) := fun z => q1 (by rw [← jq]; exact z.1.2)
        have v9 : (if atF f j ∧ T 9 j = -1 then (0 : Int) else T 9 j) = T 9 j := if_neg na
        rw [v9]
        constructor
        · intro w; exact Or.inr w
        · rintro (w | w)
          · exact absurd w q1
          · exact w
  rw [tm]
  constructor
  · rintro ⟨w1, w2, w3⟩
    refine ⟨w1, w2.symm, ?_⟩
    rcases w3 with w3 | w3
    · exact Or.inl (by rw [← w2]; exact w3)
    · exact Or.inr ⟨w1, w2, w3⟩
  · rintro ⟨w1, w2, w3⟩
    refine ⟨w1, w2.symm, ?_⟩
    rcases w3 with w3 | w3
    · exact Or.inl (by rw [← w2]; exact w3)
    · exact Or.inr w3.2.2
/-- from pass to pass, by passes below k between -/
def lkN (T : es_M) : Nat → Int → Int → Prop
  | 0 => fun p q => goes T p ∧ stp T 0 p q < 1000000
  | k + 1 => fun p q => lkN T k p q ∨ (lkN T k p k ∧ lkN T k k q)
theorem lkN_row {T : es_M} {k : Nat} {q : Int} : lkN T (k + 1) k q ↔ lkN T k k q := ⟨fun h => h.elim (fun z => z) (fun z => z.2), Or.inl⟩
theorem lkN_col {T : es_M} {k : Nat} {p : Int} : lkN T (k + 1) p k ↔ lkN T k p k := ⟨fun h => h.elim (fun z => z) (fun z => z.1), Or.inl⟩
theorem lkN_tri {T : es_M} : ∀ (k : Nat) (p q : Int) (r : Nat), r < k → lkN T k p r → lkN T k r q → lkN T k p q := by
  intro k
  induction k with
  | zero => intro p q r hr; omega
  | succ k ih =>
    intro p q r hr h1 h2
    by_cases e : r = k
    · subst e
      exact Or.inr ⟨lkN_col.mp h1, lkN_row.mp h2⟩
    · rcases h1 with h1 | ⟨h1, h1'⟩
      · rcases h2 with h2 | ⟨h2, h2'⟩
        · exact Or.inl (ih p q r (by omega) h1 h2)
        · exact Or.inr ⟨ih p k r (by omega) h1 h2, h2'⟩
      · rcases h2 with h2 | ⟨h2, h2'⟩
        · exact Or.inr ⟨h1, ih k q r (by omega) h1' h2⟩
        · exact Or.inr ⟨h1, h2'⟩
theorem lkN_0 {T : es_M} : ∀ (k : Nat) {p q : Int}, goes T p → stp T 0 p q < 1000000 → lkN T k p q
  | 0, _, _, h1, h2 => ⟨h1, h2⟩
  | k + 1, _, _, h1, h2 => Or.inl (lkN_0 k h1 h2)
theorem lkN_sound {T : es_M} (hT : TI T) : ∀ (k : Nat), (k : Int) ≤ 2 * T 1 0 → ∀ p q, isP T p → isP T q → lkN T k p q → goes T p ∧ ∃ l, l ≠ [] ∧ wok T 0 p l ∧ wlast p l = q := by
  intro k
  induction k with
  | zero => intro _ p q _ hq h; exact ⟨h.1, [q], by simp, ⟨⟨hq, h.2⟩, True.intro⟩, rfl⟩
  | succ k ih =>
    intro hk p q hp hq h
    have hk2 : isP T k := ⟨by omega, by omega⟩
    rcases h with h | ⟨h1, h2⟩
    · exact ih (by omega) p q hp hq h
    · obtain ⟨g, l, l1, l2, l3⟩ := ih (by omega) p k hp hk2 h1
      obtain ⟨-, m, m1, m2, m3⟩ := ih (by omega) k q hk2 hq h2
      exact ⟨g, l ++ m, by simp [l1], (wok_app l p m).mpr ⟨l2, by rw [l3]; exact m2⟩, by rw [wlast_app, l3, m3]⟩
def lkF (T : es_M) (p q : Int) : Prop := lkN T (2 * T 1 0).toNat p q
theorem lkF_iff {T : es_M} (hT : TI T) {p q : Int} (hp : isP T p) (hq : isP T q) : lkF T p q ↔ goes T p ∧ ∃ l, l ≠ [] ∧ wok T 0 p l ∧ wlast p l = q := by
  have hn := hT.n
  constructor
  · exact lkN_sound hT _ (by omega) p q hp hq
  · rintro ⟨g, l, l1, l2, l3⟩
    have key : ∀ (l : List Int) (p : Int), isP T p → goes T p → l ≠ [] → wok T 0 p l → lkF T p (wlast p l) := by
      intro l
      induction l with
      | nil => intro p _ _ h; exact absurd rfl h
      | cons x t ih =>
        intro p hp g _ hw
        have gx := stp_go hT (c := 0) (Or.inr hp) hw.1.1 hw.1.2
        by_cases e : t = []
        · subst e; exact lkN_0 _ g hw.1.2
        · have a := ih x hw.1.1 gx e hw.2
          have b : lkF T p x := lkN_0 _ g hw.1.2
          have x0 := hw.1.1.1
          have x1 := hw.1.1.2
          have := lkN_tri (2 * T 1 0).toNat p (wlast x t) x.toNat (by omega) (by rw [toNI x0]; exact b) (by rw [toNI x0]; exact a)
          exact this
    rw [← l3]; exact key l p hp g l1 l2
section
variable {d : Nat} {Q : Int → es_M → Prop} {T M : es_M}
theorem s_canStep (hT : TI T) (hR : RepC T M) {f p q : Int} (f0 : f = -1 ∨ (0 ≤ f ∧ f < 12)) (hp : isP T p) (hq : isP T q) (hy : goes T p ∧ stp (Tg T f) 0 p q < 1000000 → Q 1 M) (hn : ¬ (goes T p ∧ stp (Tg T f) 0 p q < 1000000) → Q 0 M) : es_Call (d + 4) 100 [.inr (.inr 60), .inl p, .inl q, .inl f] M Q := by
  have hnn := hT.n
  have p36 : p < 36 := by have := hp.2; omega
  have q36 : q < 36 := by have := hq.2; omega
  rw [Tg_stp hT f0 hp hq] at hy hn
  apply c_Ways_canStep
  refine s_goes hT hR hp.1 p36 (fun g1 => es_t1 (s_goes hT hR hq.1 q36 (fun g2 => es_t1 (s_goal hR hp.1 p36 (s_origin hR hq.1 q36 ⟨fun e => s_goal hR hp.1 p36 ⟨fun w => ⟨es_b1, hy ⟨g1, g2, e, Or.inl w⟩⟩, fun w => s_step hT hR (c := 0) hp hq ⟨fun s => ⟨es_b0, hn (fun z => z.2.2.2.elim w (fun y => by omega))⟩, fun s => ⟨es_b1, hy ⟨g1, g2, e, Or.inr (by omega)⟩⟩⟩⟩, fun e => ⟨es_b0, hn (fun z => e z.2.2.1)⟩⟩))) (fun g2 => es_t0 ⟨es_b0, hn (fun z => g2 z.2.1)⟩))) (fun g1 => es_t0 ⟨es_b0, hn (fun z => g1 z.1)⟩)
end
