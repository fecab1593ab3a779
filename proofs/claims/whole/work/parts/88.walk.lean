/-! LEAST WALKS (2): by the first service done -/
theorem dn_same {T : es_M} {q d W : Int} (d0 : 0 ≤ d) (h : ¬ (does T q d W ∧ ¬ ebit d (T 13 q))) : dnF T q d W = d := by
  by_cases e : does T q d W
  · have b : ebit d (T 13 q) := by
      by_cases b : ebit d (T 13 q)
      · exact b
      · exact absurd ⟨e, b⟩ h
    rw [dn_y e]
    have : d.toNat ||| 2 ^ (T 13 q).toNat = d.toNat := by
      apply Nat.eq_of_testBit_eq
      intro i
      rw [orb]
      by_cases z : (T 13 q).toNat = i
      · rw [← z, show d.toNat.testBit (T 13 q).toNat = true from b]; rfl
      · simp [z]
    omega
  · exact dn_n e
theorem first_do {T : es_M} {W : Int} : ∀ (l : List Int) (d : Int), 0 ≤ d → d ≠ W → dnL T W d l = W → ∃ l1 q l2, l = l1 ++ q :: l2 ∧ dnL T W d l1 = d ∧ does T q d W ∧ ¬ ebit d (T 13 q)
  | [], d, _, h, e => absurd e h
  | q :: l, d, d0, h, e => by
    by_cases z : does T q d W ∧ ¬ ebit d (T 13 q)
    · exact ⟨[], q, l, rfl, rfl, z.1, z.2⟩
    · have e' : dnL T W (dnF T q d W) l = W := e
      rw [dn_same d0 z] at e'
      obtain ⟨l1, q1, l2, a1, a2, a3⟩ := first_do l d d0 h e'
      refine ⟨q :: l1, q1, l2, by rw [a1]; rfl, ?_, a3⟩
      show dnL T W (dnF T q d W) l1 = d
      rw [dn_same d0 z]; exact a2
/-- the code of a pass that does a service -/
theorem code_of {T : es_M} (hT : TI T) {q : Int} (hq : isP T q) (hg : goes T q) (h : ¬ T 13 q = -1) : (0 ≤ T 13 q ∧ T 13 q < T 1 1) ∧ poF T (2 * T 13 q + q % 2) = q ∧ canDo T (2 * T 13 q + q % 2) ∧ (2 * T 13 q + q % 2) / 2 = T 13 q := by
  have hn := hT.n
  rcases hT.dn hq.1 (by have := hq.2; omega) with z | ⟨z1, z2, z3⟩
  · exact absurd z h
  · have e2 : (2 * T 13 q + q % 2) / 2 = T 13 q := by have := hq.1; omega
    have ep : poF T (2 * T 13 q + q % 2) = q := by
      unfold poF
      rw [e2, z3.1]
      have := hq.1
      omega
    refine ⟨z1, ep, ?_, e2⟩
    have : 2 * T 10 ((2 * T 13 q + q % 2) / 2) + (2 * T 13 q + q % 2) % 2 = q := ep
    unfold canDo
    rw [this, e2]
    exact ⟨rfl, hg.1⟩
/-- a code that can be done next -/
def due (T : es_M) (W d k : Int) : Prop := (canDo T k ∧ goes T (poF T k)) ∧ (ebit W (k / 2) ∧ ¬ ebit d (k / 2)) ∧ free T (k / 2) W d
def wth (d v : Int) : Int := ((d.toNat ||| 2 ^ v.toNat : Nat) : Int)
theorem wth_b {d v : Int} {i : Nat} : (wth d v).toNat.testBit i = (d.toNat.testBit i || decide (v.toNat = i)) := by
  unfold wth; rw [Int.toNat_natCast]; exact orb _ _ _
theorem wth_sub {d v W : Int} (h : sub d W) (hv : ebit W v) : sub (wth d v) W := by
  intro i hi
  rw [wth_b] at hi
  cases z : d.toNat.testBit i
  · rw [z] at hi
    have : v.toNat = i := by simpa using hi
    rw [← this]; exact hv
  · exact h i z
theorem canDo_13 {T : es_M} {k : Int} (h : canDo T k) : T 13 (poF T k) = k / 2 := h.1
/-- behind a way whose last pass is due, no less is done than by that pass alone -/
theorem due_dn {T : es_M} {W d k : Int} (h : due T W d k) (k0 : 0 ≤ k) {l : List Int} {p : Int} (hl : l ≠ []) (hw : wlast p l = poF T k) : sub (wth d (k / 2)) (dnL T W d l) := by
  have key : ∀ (l : List Int) (d' p : Int), sub d d' → l ≠ [] → wlast p l = poF T k → sub (wth d (k / 2)) (dnL T W d' l) := by
    intro l
    induction l with
    | nil => intro d' p _ h1; exact absurd rfl h1
    | cons q l ih =>
      intro d' p hd _ hw
      by_cases e : l = []
      · subst e
        have eq : q = poF T k := hw
        subst eq
        have dd : does T (poF T k) d' W := by
          unfold does
          rw [canDo_13 h.1.1]
          exact ⟨by omega, h.2.1.1, free_iff.mpr (fun j h1 h2 => hd j (free_iff.mp h.2.2 j h1 h2))⟩
        show sub (wth d (k / 2)) (dnF T (poF T k) d' W)
        rw [dn_y dd, canDo_13 h.1.1]
        intro i hi
        rw [wth_b] at hi
        rw [Int.toNat_natCast, orb]
        cases z : d.toNat.testBit i
        · rw [z, Bool.false_or] at hi; rw [hi, Bool.or_true]
        · rw [hd i z]; rfl
      · exact ih (dnF T q d' W) q (hd.tr dn_sub) e hw
  exact key l d p (sub.rf d) hl hw
noncomputable def mlN (T : es_M) (g W p d : Int) : Nat → Int
  | 0 => 1000000
  | k + 1 => ifc (due T W d k) (min (mlN T g W p d k) (wyF T p (poF T k) + rmF T 0 g W (poF T k) (wth d (k / 2)))) (mlN T g W p d k)
theorem mlN_le {T : es_M} {g W p d : Int} : ∀ (n : Nat), mlN T g W p d n ≤ 1000000 ∧ ∀ k : Nat, k < n → due T W d k → mlN T g W p d n ≤ wyF T p (poF T k) + rmF T 0 g W (poF T k) (wth d (k / 2)) := by
  intro n
  induction n with
  | zero => exact ⟨Int.le_refl _, fun k hk => absurd hk (by omega)⟩
  | succ n ih =>
    by_cases e : due T W d n
    · have e2 : mlN T g W p d (n + 1) = min (mlN T g W p d n) (wyF T p (poF T n) + rmF T 0 g W (poF T n) (wth d (n / 2))) := ifc_y e
      rw [e2]
      refine ⟨by omega, fun k hk hd => ?_⟩
      by_cases q : k = n
      · subst q; omega
      · have := ih.2 k (by omega) hd; omega
    · have e2 : mlN T g W p d (n + 1) = mlN T g W p d n := ifc_n e
      rw [e2]
      refine ⟨ih.1, fun k hk hd => ?_⟩
      by_cases q : k = n
      · subst q; exact absurd hd e
      · exact ih.2 k (by omega) hd
theorem mlN_x {T : es_M} {g W p d : Int} : ∀ (n : Nat), mlN T g W p d n = 1000000 ∨ ∃ k : Nat, k < n ∧ due T W d k ∧ mlN T g W p d n = wyF T p (poF T k) + rmF T 0 g W (poF T k) (wth d (k / 2)) := by
  intro n
  induction n with
  | zero => exact Or.inl rfl
  | succ n ih =>
    have old : mlN T g W p d (n + 1) = mlN T g W p d n → (mlN T g W p d (n + 1) = 1000000 ∨ ∃ k : Nat, k < n + 1 ∧ due T W d k ∧ mlN T g W p d (n + 1) = wyF T p (poF T k) + rmF T 0 g W (poF T k) (wth d (k / 2))) := by
      intro e
      rcases ih with h | ⟨k, k1, k2, k3⟩
      · exact Or.inl (by rw [e]; exact h)
      · exact Or.inr ⟨k, by omega, k2, by rw [e]; exact k3⟩
    by_cases e : due T W d n
    · have e2 : mlN T g W p d (n + 1) = min (mlN T g W p d n) (wyF T p (poF T n) + rmF T 0 g W (poF T n) (wth d (n / 2))) := ifc_y e
      by_cases q : mlN T g W p d n ≤ wyF T p (poF T n) + rmF T 0 g W (poF T n) (wth d (n / 2))
      · exact old (by rw [e2]; omega)
      · exact Or.inr ⟨n, by omega, e, by rw [e2]; omega⟩
    · exact old (ifc_n e)
theorem mlN_rm {T : es_M} (hT : TI T) {g W p d : Int} (hp : isP T p) (W0 : 0 ≤ W) (d0 : 0 ≤ d) (hd : sub d W) (hn : d ≠ W) : mlN T g W p d (2 * T 1 1).toNat = rmF T 0 g W p d := by
  have hv := hT.v
  have hnn := hT.n
  have m := rm_min hT (c := 0) (g := g) (W := W) (d := d) (Or.inr hp)
  have le := mlN_le (T := T) (g := g) (W := W) (p := p) (d := d) (2 * T 1 1).toNat
  have A : rmF T 0 g W p d ≤ mlN T g W p d (2 * T 1 1).toNat := by
    rcases mlN_x (T := T) (g := g) (W := W) (p := p) (d := d) (2 * T 1 1).toNat with h | ⟨k, k1, k2, k3⟩
    · rw [h]; exact m.1
    · have hk := poF_r hT (k := (k : Int)) (by omega) (by omega)
      have hq : isP T (poF T k) := ⟨hk.1, hk.2.1⟩
      have r1 := wyF_r hT hp hq
      have r2 := rm_r hT (c := 0) (g := g) (W := W) (d := wth d (k / 2)) (Or.inr hq)
      by_cases z : mlN T g W p d (2 * T 1 1).toNat < 1000000
      · obtain ⟨l, l1, l2, l3, l4⟩ := (wyF_min hT hp hq).2.2 (by omega)
        obtain ⟨l', a1, a2⟩ := (rm_min hT (c := 0) (g := g) (W := W) (d := wth d (k / 2)) (Or.inr hq)).2.2 (by omega)
        have sb := due_dn k2 (by omega) (l := l) (p := p) l1 l3
        have in1 := dnL_in l d hd (T := T)
        have a3 := acc_mono W0 (dnL_nn l d d0) sb in1 a1
        have := m.2.1 (wcost T 0 p (l ++ l')) ⟨l ++ l', ⟨(wok_app l p l').mpr ⟨l2, by rw [l3]; exact a1.1⟩, by rw [dnL_app]; exact a3.2.1, by rw [wlast_app, l3]; exact a1.2.2⟩, rfl⟩
        rw [wcost_app, l3, l4, a2] at this
        omega
      · have := m.1; omega
  have B : mlN T g W p d (2 * T 1 1).toNat ≤ rmF T 0 g W p d := by
    by_cases z : rmF T 0 g W p d < 1000000
    · obtain ⟨l, l1, l2⟩ := m.2.2 z
      obtain ⟨x, q, y, e1, e2, e3, nb⟩ := first_do l d d0 hn l1.2.1
      have wk := l1.1
      rw [show x ++ q :: y = (x ++ [q]) ++ y by simp] at e1
      rw [e1] at wk
      have wk2 := (wok_app (x ++ [q]) p y).mp wk
      have wk3 := (wok_app x p [q]).mp wk2.1
      have hq : isP T q := wk3.2.1.1
      have lst : wlast p (x ++ [q]) = q := by rw [wlast_app]; rfl
      have hg : goes T q := by
        rcases stp_r hT (c := 0) (Or.inr (wlast_P x p hp wk3.1)) hq with w | ⟨-, w, -⟩
        · have := wk3.2.1.2; omega
        · exact w
      obtain ⟨c1, c2, c3, c4⟩ := code_of hT hq hg e3.1
      have q2 : 0 ≤ q % 2 ∧ q % 2 ≤ 1 := by omega
      have low := wyF_low hT (x ++ [q]) p hp (by simp) wk2.1
      rw [lst] at low
      have du : due T W d (2 * T 13 q + q % 2) := by
        unfold due
        rw [c2, c4]
        exact ⟨⟨c3, hg⟩, ⟨e3.2.1, nb⟩, e3.2.2⟩
      have le2 := le.2 (2 * T 13 q + q % 2).toNat (by omega) (by rw [show (((2 * T 13 q + q % 2).toNat : Nat) : Int) = 2 * T 13 q + q % 2 by omega]; exact du)
      rw [show (((2 * T 13 q + q % 2).toNat : Nat) : Int) = 2 * T 13 q + q % 2 by omega, c2, c4] at le2
      have m2 := (rm_min hT (c := 0) (g := g) (W := W) (p := q) (d := wth d (T 13 q)) (Or.inr hq)).2.1 (wcost T 0 q y) ⟨y, ⟨by rw [← lst]; exact wk2.2, ?_, ?_⟩, rfl⟩
      · rw [e1, wcost_app, lst] at l2
        omega
      · have := l1.2.1
        rw [e1, dnL_app, dnL_app, e2] at this
        have e4 : dnL T W d [q] = wth d (T 13 q) := dn_y e3
        rw [e4] at this
        exact this
      · have := l1.2.2
        rw [e1, wlast_app, lst] at this
        exact this
    · have := le.1; omega
  omega
/-! the way home, when all is done -/
noncomputable def exN (T : es_M) (g p : Int) : Nat → Int
  | 0 => 1000000
  | k + 1 => if gl T k = g then min (exN T g p k) (wyF T p k) else exN T g p k
noncomputable def exF (T : es_M) (g p : Int) : Int := if gl T p = g then 0 else exN T g p (2 * T 1 0).toNat
theorem exN_sp {T : es_M} {g p : Int} : ∀ n : Nat, exN T g p n ≤ 1000000 ∧ (∀ k : Nat, k < n → gl T k = g → exN T g p n ≤ wyF T p k) ∧ (exN T g p n = 1000000 ∨ ∃ k : Nat, k < n ∧ gl T k = g ∧ exN T g p n = wyF T p k) := by
  intro n
  induction n with
  | zero => exact ⟨Int.le_refl _, fun k hk => absurd hk (by omega), Or.inl rfl⟩
  | succ n ih =>
    obtain ⟨i1, i2, i3⟩ := ih
    by_cases e : gl T n = g
    · have e2 : exN T g p (n + 1) = min (exN T g p n) (wyF T p n) := if_pos e
      rw [e2]
      refine ⟨by omega, fun k hk hg => ?_, ?_⟩
      · by_cases q : k = n
        · subst q; omega
        · have := i2 k (by omega) hg; omega
      · by_cases q : exN T g p n ≤ wyF T p n
        · rcases i3 with h | ⟨k, k1, k2, k3⟩
          · exact Or.inl (by omega)
          · exact Or.inr ⟨k, by omega, k2, by omega⟩
        · exact Or.inr ⟨n, by omega, e, by omega⟩
    · have e2 : exN T g p (n + 1) = exN T g p n := if_neg e
      rw [e2]
      refine ⟨i1, fun k hk hg => ?_, ?_⟩
      · by_cases q : k = n
        · subst q; exact absurd hg e
        · exact i2 k (by omega) hg
      · rcases i3 with h | ⟨k, k1, k2, k3⟩
        · exact Or.inl h
        · exact Or.inr ⟨k, by omega, k2, k3⟩
theorem exF_rm {T : es_M} (hT : TI T) {g W p : Int} (hp : isP T p) (W0 : 0 ≤ W) : exF T g p = rmF T 0 g W p W := by
  have hn := hT.n
  unfold exF
  by_cases e : gl T p = g
  · rw [if_pos e, rm_a hT (Or.inr hp) (by rw [cr_c hT hp]; exact e)]
  · rw [if_neg e]
    obtain ⟨i1, i2, i3⟩ := exN_sp (T := T) (g := g) (p := p) (2 * T 1 0).toNat
    have m := rm_min hT (c := 0) (g := g) (W := W) (d := W) (Or.inr hp)
    have A : rmF T 0 g W p W ≤ exN T g p (2 * T 1 0).toNat := by
      rcases i3 with h | ⟨k, k1, k2, k3⟩
      · rw [h]; exact m.1
      · have hk : isP T k := ⟨by omega, by omega⟩
        by_cases z : exN T g p (2 * T 1 0).toNat < 1000000
        · obtain ⟨l, l1, l2, l3, l4⟩ := (wyF_min hT hp hk).2.2 (by omega)
          have := m.2.1 _ ⟨l, ⟨l2, dnL_W W0 l, by rw [l3, cr_c hT hk]; exact k2⟩, rfl⟩
          omega
        · have := m.1; omega
    have B : exN T g p (2 * T 1 0).toNat ≤ rmF T 0 g W p W := by
      by_cases z : rmF T 0 g W p W < 1000000
      · obtain ⟨l, l1, l2⟩ := m.2.2 z
        have hw := wlast_P l p hp l1.1
        have hl : l ≠ [] := by
          rintro rfl
          have : cr T 0 p = g := l1.2.2
          rw [cr_c hT hp] at this
          exact e this
        have low := wyF_low hT l p hp hl l1.1
        have gg := l1.2.2
        rw [cr_c hT hw] at gg
        have := i2 (wlast p l).toNat (by have := hw.1; have := hw.2; omega) (by rw [show (((wlast p l).toNat : Nat) : Int) = wlast p l by have := hw.1; omega]; exact gg)
        rw [show (((wlast p l).toNat : Nat) : Int) = wlast p l by have := hw.1; omega] at this
        omega
      · omega
    omega
