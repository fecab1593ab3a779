/-! PAIRS OF CALLS: bars (7). A round, by an order of codes whose ways are there -/
def wyE (T : es_M) (a p q : Int) : Prop := ∃ l, l ≠ [] ∧ wok T a p l ∧ wlast p l = q
def ch (T : es_M) (a W : Int) : Int → Int → List Int → Int → Prop
  | _, d, [], D => d = D
  | p, d, k :: l, D => ((isK T k ∧ due T W d k) ∧ wyE T a p (poF T k)) ∧ ch T a W (poF T k) (wth d (k / 2)) l D
theorem ds_ex {T : es_M} (hT : TI T) {a p q : Int} (hp : isS T p) : dsF T a p q < 1000000 ↔ wyE T a p q := by
  constructor
  · intro h
    obtain ⟨l, l1, l2, l3, -⟩ := (ds_min hT (a := a) (q := q) hp).2.2 h
    exact ⟨l, l1, l2, l3⟩
  · intro h
    have := ds_bd hT hp h
    omega
/-- home to g from behind a pass -/
def hmE (T : es_M) (g p : Int) : Prop := gl T p = g ∨ ∃ r, isP T r ∧ gl T r = g ∧ wyE T 0 p r
theorem wy_ex {T : es_M} (hT : TI T) {p q : Int} (hp : isP T p) (hq : isP T q) : wyF T p q < 1000000 ↔ wyE T 0 p q := by
  rw [← ds_wy hT (a := 0) hp hq]; exact ds_ex hT (Or.inr hp)
theorem wy_bd {T : es_M} (hT : TI T) {p q : Int} (hp : isP T p) (hq : isP T q) (h : wyE T 0 p q) : wyF T p q ≤ 7128 := by
  rw [← ds_wy hT (a := 0) hp hq]; exact ds_bd hT (Or.inr hp) h
theorem ex_ex {T : es_M} (hT : TI T) {g p : Int} (hp : isP T p) : (exF T g p < 1000000 ↔ hmE T g p) ∧ (hmE T g p → exF T g p ≤ 7128) := by
  have hn := hT.n
  obtain ⟨i1, i2, i3⟩ := exN_sp (T := T) (g := g) (p := p) (2 * T 1 0).toNat
  have B : hmE T g p → exF T g p ≤ 7128 := by
    rintro (e | ⟨r, r1, r2, r3⟩)
    · unfold exF; rw [if_pos e]; decide
    · unfold exF
      split
      · decide
      · have r0 := r1.1
        have r4 := r1.2
        have := i2 r.toNat (by omega) (by rw [toNI r0]; exact r2)
        rw [toNI r0] at this
        have := wy_bd hT hp r1 r3
        omega
  refine ⟨⟨fun h => ?_, fun h => by have := B h; omega⟩, B⟩
  by_cases e : gl T p = g
  · exact Or.inl e
  · unfold exF at h
    rw [if_neg e] at h
    rcases i3 with w | ⟨k, k1, k2, k3⟩
    · omega
    · have hk : isP T k := ⟨by omega, by omega⟩
      exact Or.inr ⟨k, hk, k2, (wy_ex hT hp hk).mp (by omega)⟩
theorem ch_bs {T : es_M} (hT : TI T) {a W : Int} : ∀ (l : List Int) (p d : Int), isS T p → 0 ≤ d → ch T a W p d l W → bs T W d l ∧ pc T a p l ≤ 7128 * l.length ∧ (l.length : Int) + pcN 18 d.toNat = pcN 18 W.toNat
  | [], p, d, _, _, h => ⟨h, Int.le_refl _, by rw [show d = W from h]; simp⟩
  | k :: l, p, d, hp, d0, h => by
    obtain ⟨⟨⟨hk, du⟩, we⟩, hl⟩ := h
    have hv := hT.v
    have kp := poF_r hT hk.1 hk.2
    obtain ⟨i1, i2, i3⟩ := ch_bs hT l (poF T k) (wth d (k / 2)) (Or.inr ⟨kp.1, kp.2.1⟩) wth_nn hl
    have b := ds_bd hT hp we
    have k0 := hk.1
    have k1 := hk.2
    have pw := pc_wth (u := d) (v := k / 2) (by omega) (by omega) du.2.1.2
    refine ⟨⟨⟨hk, du⟩, i1⟩, ?_, ?_⟩
    · show dsF T a p (poF T k) + pc T a (poF T k) l ≤ 7128 * ((l.length + 1 : Nat) : Int)
      omega
    · show ((l.length + 1 : Nat) : Int) + pcN 18 d.toNat = pcN 18 W.toNat
      rw [pw] at i3
      omega
theorem bs_ch {T : es_M} (hT : TI T) {a W : Int} : ∀ (l : List Int) (p d : Int), isS T p → bs T W d l → pc T a p l < 1000000 → ch T a W p d l W
  | [], _, _, _, h, _ => h
  | k :: l, p, d, hp, h, hc => by
    obtain ⟨⟨hk, du⟩, hl⟩ := h
    have kp := poF_r hT hk.1 hk.2
    have r := ds_r hT (a := a) (q := poF T k) hp
    have hq : isP T (poF T k) := ⟨kp.1, kp.2.1⟩
    have c : dsF T a p (poF T k) + pc T a (poF T k) l < 1000000 := hc
    have nn : ∀ (l : List Int) (p d : Int), isS T p → bs T W d l → 0 ≤ pc T a p l := by
      intro l
      induction l with
      | nil => intro _ _ _ _; exact Int.le_refl _
      | cons x t ih =>
        intro p d hp h
        have xp := poF_r hT h.1.1.1 h.1.1.2
        have i := ih (poF T x) _ (Or.inr ⟨xp.1, xp.2.1⟩) h.2
        have r := ds_r hT (a := a) (q := poF T x) hp
        show 0 ≤ dsF T a p (poF T x) + pc T a (poF T x) t
        omega
    have n1 := nn l (poF T k) _ (Or.inr hq) hl
    exact ⟨⟨⟨hk, du⟩, (ds_ex hT hp).mp (by omega)⟩, bs_ch hT l (poF T k) _ (Or.inr hq) hl (by omega)⟩
theorem rnd_iff {T : es_M} (hT : TI T) {a : Int} (h0 : 0 < allF T) : rnd T a ↔ ∃ l, ch T a (allF T) 36 0 l (allF T) ∧ hmE T a (pl T 36 l) := by
  have ha := hT.all
  have hv := hT.v
  have pa := pc_all hT
  have ms := rm_seq hT (a := a) (W := allF T) ha.1 (by omega) 1024 36 0 (by omega) (Or.inr ⟨rfl, by omega⟩) (by decide) (s0W _)
  have plP : ∀ (l : List Int) (p d : Int), l ≠ [] → bs T (allF T) d l → isP T (pl T p l) := by
    intro l
    induction l with
    | nil => intro _ _ h; exact absurd rfl h
    | cons x t ih =>
      intro p d _ h
      have xp := poF_r hT h.1.1.1 h.1.1.2
      by_cases e : t = []
      · subst e; exact ⟨xp.1, xp.2.1⟩
      · exact ih (poF T x) _ e h.2
  have lne : ∀ l, bs T (allF T) 0 l → l ≠ [] := fun l hb e => by
    subst e
    have : (0 : Int) = allF T := hb
    omega
  constructor
  · intro h
    obtain ⟨l, l1, l2⟩ := ms.2.2 h
    have lp := plP l 36 0 (lne l l1) l1
    have er : 0 ≤ exF T a (pl T 36 l) := by
      rw [exF_rm hT (W := 0) lp (by decide)]; exact (rm_r hT (Or.inr lp)).1
    have hr : rmF T a a (allF T) 36 0 < 1000000 := h
    have c := bs_ch hT (a := a) l 36 0 (Or.inl rfl) l1 (by omega)
    have cb := ch_bs hT l 36 0 (Or.inl rfl) (by decide) c
    refine ⟨l, c, (ex_ex hT lp).1.mp ?_⟩
    have nn : 0 ≤ pc T a 36 l := pc_nn hT l 0 36 (allF T) (Or.inl rfl) (bs_fs l 0 (fun j i h1 => by rw [show (0 : Int).toNat = 0 from rfl, Nat.zero_testBit] at h1; cases h1) l1)
    omega
  · rintro ⟨l, c, hm⟩
    obtain ⟨b1, b2, b3⟩ := ch_bs hT l 36 0 (Or.inl rfl) (by decide) c
    have lp := plP l 36 0 (lne l b1) b1
    have e := (ex_ex hT lp).2 hm
    have := ms.2.1 _ ⟨l, b1, rfl⟩
    have ll : (l.length : Int) ≤ 10 := by omega
    show rmF T a a (allF T) 36 0 < 1000000
    omega
