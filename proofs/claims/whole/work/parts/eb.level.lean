/-! LEVEL (2): the search, arc by arc: what holds all along, and that twelve rounds are enough -/
def afr (o g : Int → Int) (k : Int) : Int := if k % 2 = 0 then o (k / 2) else g (k / 2)
def ato (o g : Int → Int) (k : Int) : Int := if k % 2 = 0 then g (k / 2) else o (k / 2)
def awt (w : Int → Int) (k : Int) : Int := if k % 2 = 0 then w (k / 2) else - w (k / 2)
/-- an arc that may be gone: a pass, or one taken away -/
def aav (go : Int → Prop) (f : Int → Int) (k : Int) : Prop := go (k / 2) ∧ (k % 2 = 0 ∨ 0 < f (k / 2))
section
variable {n : Nat} {o g w : Int → Int} {go : Int → Prop} {f pi d d' b b' : Int → Int} {src : Int → Prop}
/-- arc k would make something nearer -/
def nrr (o g w : Int → Int) (go : Int → Prop) (f d : Int → Int) (k : Int) : Prop := aav go f k ∧ d (afr o g k) < 1000000 ∧ d (afr o g k) + awt w k < d (ato o g k)
/-- one arc looked at -/
def RXs (o g w : Int → Int) (go : Int → Prop) (f d b d' b' : Int → Int) (k : Int) : Prop :=
  (nrr o g w go f d k ∧ (∀ x, d' x = if x = ato o g k then d (afr o g k) + awt w k else d x) ∧ ∀ x, b' x = if x = ato o g k then k else b x) ∨ (¬ nrr o g w go f d k ∧ (∀ x, d' x = d x) ∧ ∀ x, b' x = b x)
def BIs (n : Nat) (o g w : Int → Int) (go src : Int → Prop) (f : Int → Int) (t : Nat) (d b : Int → Int) (tau : Int → Nat) : Prop :=
  ∀ x, 0 ≤ x → x < 12 → tau x ≤ t ∧ (src x → d x ≤ 0) ∧ (d x = 1000000 ∨ (-(99 * t) ≤ d x ∧ d x ≤ 99 * t ∧
    ((b x = -1 ∧ src x ∧ d x = 0) ∨ ((0 ≤ b x ∧ b x < 2 * n) ∧ aav go f (b x) ∧ ato o g (b x) = x ∧ d (afr o g (b x)) < 1000000 ∧ d (afr o g (b x)) + awt w (b x) ≤ d x ∧ (d (afr o g (b x)) + awt w (b x) = d x → tau (afr o g (b x)) < tau x)))))
theorem arc_r (H : GR n o g w go) {k : Int} (k0 : 0 ≤ k) (k1 : k < 2 * n) : (0 ≤ afr o g k ∧ afr o g k < 12) ∧ (0 ≤ ato o g k ∧ ato o g k < 12) ∧ afr o g k ≠ ato o g k ∧ (go (k / 2) → -99 ≤ awt w k ∧ awt w k ≤ 99) := by
  have x := H.2 (k / 2) (by omega) (by omega)
  unfold afr ato awt
  split
  · exact ⟨x.1, x.2.1, x.2.2.1, fun z => by have := x.2.2.2 z; omega⟩
  · exact ⟨x.2.1, x.1, fun z => x.2.2.1 z.symm, fun z => by have := x.2.2.2 z; omega⟩
theorem BIs.step (H : GR n o g w go) {t : Nat} (ht : t < 1000) {tau : Int → Nat} (h : BIs n o g w go src f t d b tau) {k : Int} (k0 : 0 ≤ k) (k1 : k < 2 * n) (r : RXs o g w go f d b d' b' k) : ∃ tau', BIs n o g w go src f (t + 1) d' b' tau' := by
  have ar := arc_r H k0 k1
  rcases r with ⟨⟨c1, c2, c3⟩, r1, r2⟩ | ⟨-, r1, r2⟩
  · refine ⟨fun x => if x = ato o g k then t + 1 else tau x, fun x x0 x1 => ?_⟩
    have wr := ar.2.2.2 c1.1
    have fu := (h (afr o g k) ar.1.1 ar.1.2).2.2
    have fb : -(99 * t) ≤ d (afr o g k) ∧ d (afr o g k) ≤ 99 * t := by
      rcases fu with z | z
      · omega
      · exact ⟨z.1, z.2.1⟩
    by_cases e : x = ato o g k
    · rw [r1, r2, if_pos e, if_pos e]
      simp only [if_pos e]
      refine ⟨Nat.le_refl _, fun z => by have := (h x x0 x1).2.1 z; rw [e] at this; omega, Or.inr ⟨by omega, by omega, Or.inr ⟨⟨k0, k1⟩, c1, e.symm, ?_, ?_, fun _ => ?_⟩⟩⟩
      · rw [r1, if_neg ar.2.2.1]; exact c2
      · rw [r1, if_neg ar.2.2.1]; exact Int.le_refl _
      · rw [if_neg ar.2.2.1]; have := (h (afr o g k) ar.1.1 ar.1.2).1; omega
    · rw [r1, r2, if_neg e, if_neg e]
      simp only [if_neg e]
      obtain ⟨q1, qs, q2⟩ := h x x0 x1
      refine ⟨by omega, qs, ?_⟩
      rcases q2 with q | ⟨q3, q4, q5⟩
      · exact Or.inl q
      · refine Or.inr ⟨by omega, by omega, ?_⟩
        rcases q5 with q | ⟨p1, p2, p3, p4, p5, p6⟩
        · exact Or.inl q
        · refine Or.inr ⟨p1, p2, p3, ?_, ?_, fun z => ?_⟩
          · rw [r1]; split
            · omega
            · exact p4
          · rw [r1]; split
            · rename_i z; rw [z] at p5; omega
            · exact p5
          · rw [r1] at z
            by_cases y : afr o g (b x) = ato o g k
            · rw [if_pos y] at z; rw [y] at p5; omega
            · rw [if_neg y] at z ⊢; exact p6 z
  · refine ⟨tau, fun x x0 x1 => ?_⟩
    obtain ⟨q1, qs, q2⟩ := h x x0 x1
    rw [r1, r2, r1]
    refine ⟨by omega, qs, ?_⟩
    rcases q2 with q | ⟨q3, q4, q5⟩
    · exact Or.inl q
    · exact Or.inr ⟨by omega, by omega, q5⟩
/-- all arcs out of what is done are looked at, and what is done is nearest -/
def PFs (n : Nat) (o g w : Int → Int) (go : Int → Prop) (f pi d : Int → Int) (F : Int → Bool) : Prop :=
  (∀ u, 0 ≤ u → u < 12 → F u = true → d u < 1000000) ∧ (∀ u v, 0 ≤ u → u < 12 → 0 ≤ v → v < 12 → F u = true → F v = false → d v < 1000000 → d u - pi u ≤ d v - pi v) ∧
  (∀ k : Int, 0 ≤ k → k < 2 * n → aav go f k → F (afr o g k) = true → d (ato o g k) ≤ d (afr o g k) + awt w k)
def cnF2 (F : Int → Bool) : Int := sm (fun x => if F x = true then 1 else 0) 12
def fxs (n : Nat) (o g w : Int → Int) (go : Int → Prop) (f d : Int → Int) : Prop := ∀ k : Int, 0 ≤ k → k < 2 * n → ¬ nrr o g w go f d k
def SPs (n : Nat) (o g w : Int → Int) (go : Int → Prop) (f pi : Int → Int) (r : Int) (d : Int → Int) : Prop := fxs n o g w go f d ∨ ∃ F, cnF2 F = r ∧ PFs n o g w go f pi d F
def SQs (n : Nat) (o g w : Int → Int) (go : Int → Prop) (f pi : Int → Int) (r j : Int) (d : Int → Int) : Prop := fxs n o g w go f d ∨ ∃ F v, cnF2 F = r ∧ PFs n o g w go f pi d F ∧ ((0 ≤ v ∧ v < 12) ∧ F v = false ∧ d v < 1000000) ∧ (∀ x, 0 ≤ x → x < 12 → F x = false → d x < 1000000 → d v - pi v ≤ d x - pi x) ∧
  (∀ k : Int, 0 ≤ k → k < j → k < 2 * n → aav go f k → afr o g k = v → d (ato o g k) ≤ d v + awt w k)
/-- the prices make no arc cost less than nothing -/
theorem rc_arc {k : Int} (hp : prc n o g w go f pi) (k0 : 0 ≤ k) (k1 : k < 2 * n) (h : aav go f k) : 0 ≤ awt w k + pi (afr o g k) - pi (ato o g k) := by
  have x := hp (k / 2) (by omega) (by omega)
  unfold aav at h
  unfold awt afr ato
  by_cases e : k % 2 = 0
  · rw [if_pos e, if_pos e, if_pos e]; exact x.1 h.1
  · rw [if_neg e, if_neg e, if_neg e]
    have := x.2 (h.2.resolve_left e)
    omega
theorem SPs.start {r : Int} (h : SPs n o g w go f pi r d) (H : GR n o g w go) (hf : ∀ x, 0 ≤ x → x < 12 → d x ≤ 1000000) : SQs n o g w go f pi r 0 d := by
  rcases h with h | ⟨F, h1, h2⟩
  · exact Or.inl h
  · by_cases z : ∃ v, (0 ≤ v ∧ v < 12) ∧ F v = false ∧ d v < 1000000
    · have key : ∀ m : Nat, ∀ v, (0 ≤ v ∧ v < 12) → F v = false → d v < 1000000 → (∀ x, (m : Int) ≤ x → x < 12 → F x = false → d x < 1000000 → d v - pi v ≤ d x - pi x) → m ≤ 12 → ∃ v', ((0 ≤ v' ∧ v' < 12) ∧ F v' = false ∧ d v' < 1000000) ∧ (∀ x, 0 ≤ x → x < 12 → F x = false → d x < 1000000 → d v' - pi v' ≤ d x - pi x) := by
        intro m
        induction m with
        | zero => intro v a b c e _; exact ⟨v, ⟨a, b, c⟩, fun x x0 x1 => e x (by omega) x1⟩
        | succ m ih =>
          intro v a b c e hm
          by_cases y : F (m : Int) = false ∧ d (m : Int) < 1000000 ∧ d (m : Int) - pi (m : Int) < d v - pi v
          · refine ih m ⟨by omega, by omega⟩ y.1 y.2.1 (fun x x0 x1 xf xd => ?_) (by omega)
            by_cases xm : x = (m : Int)
            · rw [xm]; exact Int.le_refl _
            · have := e x (by omega) x1 xf xd; omega
          · refine ih v a b c (fun x x0 x1 xf xd => ?_) (by omega)
            by_cases xm : x = (m : Int)
            · subst xm
              by_cases q : d (m : Int) - pi (m : Int) < d v - pi v
              · exact absurd ⟨xf, xd, q⟩ y
              · omega
            · exact e x (by omega) x1 xf xd
      obtain ⟨v, a, b, c⟩ := z
      obtain ⟨v', q1, q2⟩ := key 12 v a b c (fun x x0 x1 => by omega) (Nat.le_refl _)
      exact Or.inr ⟨F, v', h1, h2, q1, q2, fun k k0 k1 => by omega⟩
    · refine Or.inl (fun k k0 k1 c => ?_)
      have ar := arc_r H k0 k1
      have ft : F (afr o g k) = true := by
        cases hF : F (afr o g k) with
        | true => rfl
        | false => exact absurd ⟨_, ar.1, hF, c.2.1⟩ z
      have := h2.2.2 k k0 k1 c.1 ft
      have := c.2.2
      omega
theorem fxs.same (h : fxs n o g w go f d) {k : Int} (k0 : 0 ≤ k) (k1 : k < 2 * n) (r : RXs o g w go f d b d' b' k) : (∀ x, d' x = d x) ∧ ∀ x, b' x = b x := by
  rcases r with ⟨c, -⟩ | ⟨-, r⟩
  · exact absurd c (h k k0 k1)
  · exact r
theorem SQs.step {r : Int} (H : GR n o g w go) (hp : prc n o g w go f pi) {j : Int} (h : SQs n o g w go f pi r j d) (j0 : 0 ≤ j) (j1 : j < 2 * n) (rx : RXs o g w go f d b d' b' j) : SQs n o g w go f pi r (j + 1) d' := by
  rcases h with h | ⟨F, v, h1, ⟨p0, p1, p2⟩, ⟨v0, vF, vd⟩, h3, h4⟩
  · have e : d' = d := funext (h.same j0 j1 rx).1
    rw [e]; exact Or.inl h
  · have ar := arc_r H j0 j1
    rcases rx with ⟨⟨c1, c2, c3⟩, r1, -⟩ | ⟨c, r1, -⟩
    · have rc := rc_arc hp j0 j1 c1
      have uF : F (afr o g j) = false := by
        cases hF : F (afr o g j) with
        | false => rfl
        | true => have := p2 j j0 j1 c1 hF; omega
      have tF : F (ato o g j) = false := by
        cases hF : F (ato o g j) with
        | false => rfl
        | true => have := p1 _ _ ar.2.1.1 ar.2.1.2 ar.1.1 ar.1.2 hF uF c2; omega
      have um := h3 _ ar.1.1 ar.1.2 uF c2
      have nv : v ≠ ato o g j := fun e => by rw [e] at um; omega
      have dle : ∀ x, d' x ≤ d x := fun x => by rw [r1]; split; (rename_i z; rw [z]; omega); exact Int.le_refl _
      have dF : ∀ x, F x = true → d' x = d x := fun x hx => by rw [r1, if_neg (fun e => by rw [e, tF] at hx; cases hx)]
      have dv : d' v = d v := by rw [r1, if_neg nv]
      refine Or.inr ⟨F, v, h1, ⟨fun u u0 u1 uf => by rw [dF u uf]; exact p0 u u0 u1 uf, fun u x u0 u1 x0 x1 uf xf xd => ?_, fun k k0 k1 av kf => ?_⟩, ⟨v0, vF, by rw [dv]; exact vd⟩, fun x x0 x1 xf xd => ?_, fun k k0 k1 k2 av kv => ?_⟩
      · rw [dF u uf, r1]
        by_cases e : x = ato o g j
        · rw [if_pos e, e]; have := p1 u _ u0 u1 ar.1.1 ar.1.2 uf uF c2; omega
        · rw [if_neg e]; rw [r1, if_neg e] at xd; exact p1 u x u0 u1 x0 x1 uf xf xd
      · rw [dF _ kf]; have := p2 k k0 k1 av kf; have := dle (ato o g k); omega
      · rw [dv, r1]
        by_cases e : x = ato o g j
        · rw [if_pos e, e]; omega
        · rw [if_neg e]; rw [r1, if_neg e] at xd; exact h3 x x0 x1 xf xd
      · rw [dv]
        by_cases e : k = j
        · rw [e, r1, if_pos rfl, ← kv, e]; exact Int.le_refl _
        · have := h4 k k0 (by omega) k2 av kv; have := dle (ato o g k); omega
    · have e : d' = d := funext r1
      rw [e]
      refine Or.inr ⟨F, v, h1, ⟨p0, p1, p2⟩, ⟨v0, vF, vd⟩, h3, fun k k0 k1 k2 av kv => ?_⟩
      by_cases e2 : k = j
      · subst e2
        by_cases q : d (ato o g k) ≤ d v + awt w k
        · exact q
        · exact absurd ⟨av, by rw [kv]; exact vd, by rw [kv]; omega⟩ c
      · exact h4 k k0 (by omega) k2 av kv
theorem SQs.fin {r : Int} (h : SQs n o g w go f pi r (2 * n) d) : SPs n o g w go f pi (r + 1) d := by
  rcases h with h | ⟨F, v, h1, ⟨p0, p1, p2⟩, ⟨v0, vF, vd⟩, h3, h4⟩
  · exact Or.inl h
  · refine Or.inr ⟨fun x => if x = v then true else F x, ?_, fun u u0 u1 uf => ?_, fun u x u0 u1 x0 x1 uf xf xd => ?_, fun k k0 k1 av kf => ?_⟩
    · unfold cnF2 at h1 ⊢
      rw [sm_upd (h := fun x => if F x = true then 1 else 0) (a := v) v0.1 (fun i hi => by simp only [if_neg hi]) 12 v0.2, h1]
      simp [vF]
    · by_cases e : u = v
      · rw [e]; exact vd
      · simp only [if_neg e] at uf; exact p0 u u0 u1 uf
    · by_cases e2 : x = v
      · simp only [if_pos e2] at xf; cases xf
      · simp only [if_neg e2] at xf
        by_cases e : u = v
        · rw [e]; exact h3 x x0 x1 xf xd
        · simp only [if_neg e] at uf; exact p1 u x u0 u1 x0 x1 uf xf xd
    · by_cases e : afr o g k = v
      · rw [e]; exact h4 k k0 k1 k1 av e
      · simp only [if_neg e] at kf; exact p2 k k0 k1 av kf
theorem SPs.full (H : GR n o g w go) (h : SPs n o g w go f pi 12 d) : fxs n o g w go f d := by
  rcases h with h | ⟨F, h1, h2⟩
  · exact h
  · intro k k0 k1 c
    have ar := arc_r H k0 k1
    cases hF : F (afr o g k) with
    | true => have := h2.2.2 k k0 k1 c.1 hF; have := c.2.2; omega
    | false =>
      have t1 := sm_upd (h := fun x => if x = afr o g k then 1 else if F x = true then 1 else 0) (h' := fun x => if F x = true then 1 else 0) ar.1.1 (fun i hi => (if_neg hi).symm) 12 ar.1.2
      have t2 := sm_le (h := fun x => if x = afr o g k then 1 else if F x = true then 1 else 0) (h' := fun _ => 1) 12 (fun x _ _ => by
        show (if x = afr o g k then (1 : Int) else if F x = true then 1 else 0) ≤ 1
        split
        · exact Int.le_refl _
        · split <;> decide)
      have t3 : sm (fun _ => 1) 12 = 12 := rfl
      unfold cnF2 at h1
      simp only [hF, if_pos] at t1
      rw [h1] at t1
      simp at t1
      omega
/-- at first nothing is done -/
theorem SPs.zero : SPs n o g w go f pi 0 d := Or.inr ⟨fun _ => false, by unfold cnF2; simp only [if_neg (by decide : ¬ false = true)]; exact sm_0 12, ⟨fun u _ _ uf => (by cases uf), fun u v _ _ _ _ uf => (by cases uf), fun k _ _ _ kf => (by cases kf)⟩⟩
end
