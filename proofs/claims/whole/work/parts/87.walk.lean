/-! LEAST WALKS: from a pass (36: from the corner c) with some services done, till all of W are done and the corner g is come to -/
theorem isMin_ex {P : Int → Prop} (h : ∀ c, P c → 0 ≤ c) : ∃ v, isMin P v := by
  have key : ∀ n : Nat, (∃ c, P c ∧ c < (n : Int)) → ∃ v, P v ∧ ∀ c, P c → v ≤ c := by
    intro n
    induction n with
    | zero => rintro ⟨c, c1, c2⟩; have := h c c1; omega
    | succ n ih =>
      rintro ⟨c, c1, c2⟩
      by_cases e : ∃ c, P c ∧ c < (n : Int)
      · exact ih e
      · refine ⟨c, c1, fun c' h' => ?_⟩
        by_cases e2 : c' < (n : Int)
        · exact absurd ⟨c', h', e2⟩ e
        · omega
  by_cases e : ∃ c, P c ∧ c < ((1000000 : Nat) : Int)
  · obtain ⟨v, v1, v2⟩ := key _ e
    obtain ⟨c, c1, c2⟩ := e
    have := v2 c c1
    exact ⟨v, by omega, v2, fun _ => v1⟩
  · refine ⟨1000000, by decide, fun c hc => ?_, fun z => absurd z (by decide)⟩
    by_cases e2 : c < ((1000000 : Nat) : Int)
    · exact absurd ⟨c, hc, e2⟩ e
    · omega
def dnL (T : es_M) (W : Int) : Int → List Int → Int
  | d, [] => d
  | d, q :: l => dnL T W (dnF T q d W) l
def acc (T : es_M) (c g W p d : Int) (l : List Int) : Prop := wok T c p l ∧ dnL T W d l = W ∧ cr T c (wlast p l) = g
def accC (T : es_M) (c g W p d x : Int) : Prop := ∃ l, acc T c g W p d l ∧ wcost T c p l = x
noncomputable def rmF (T : es_M) (c g W p d : Int) : Int := Classical.epsilon (fun v => isMin (accC T c g W p d) v)
/-- what stands for a state: 36, or a pass -/
def isS (T : es_M) (p : Int) : Prop := p = 36 ∨ isP T p
theorem wcost_0 {T : es_M} (hT : TI T) {c : Int} : ∀ (l : List Int) (p : Int), isS T p → wok T c p l → 0 ≤ wcost T c p l ∧ (l ≠ [] → 1 ≤ wcost T c p l)
  | [], _, _, _ => ⟨Int.le_refl _, fun h => absurd rfl h⟩
  | q :: l, p, hp, h => by
    have a := wcost_0 hT l q (Or.inr h.1.1) h.2
    have b := stp_r hT (c := c) hp h.1.1
    have e : wcost T c p (q :: l) = stp T c p q + wcost T c q l := rfl
    have s := h.1.2
    rw [e]
    refine ⟨by omega, fun _ => by omega⟩
theorem rm_min {T : es_M} (hT : TI T) {c g W p d : Int} (hp : isS T p) : isMin (accC T c g W p d) (rmF T c g W p d) :=
  Classical.epsilon_spec (isMin_ex (fun x ⟨l, l1, l2⟩ => by rw [← l2]; exact (wcost_0 hT l p hp l1.1).1))
theorem rm_r {T : es_M} (hT : TI T) {c g W p d : Int} (hp : isS T p) : 0 ≤ rmF T c g W p d ∧ rmF T c g W p d ≤ 1000000 := by
  obtain ⟨a, b, e⟩ := rm_min hT (c := c) (g := g) (W := W) (d := d) hp
  refine ⟨?_, a⟩
  by_cases z : rmF T c g W p d < 1000000
  · obtain ⟨l, l1, l2⟩ := e z
    rw [← l2]; exact (wcost_0 hT l p hp l1.1).1
  · omega
theorem rm_a {T : es_M} (hT : TI T) {c g p d : Int} (hp : isS T p) (h : cr T c p = g) : rmF T c g d p d = 0 := by
  have r := rm_r hT (c := c) (g := g) (W := d) (d := d) hp
  have := (rm_min hT (c := c) (g := g) (W := d) (d := d) hp).2.1 0 ⟨[], ⟨True.intro, rfl, h⟩, rfl⟩
  omega
theorem rm_0 {T : es_M} (hT : TI T) {c g W p d : Int} (hp : isS T p) (h : rmF T c g W p d = 0) : d = W ∧ cr T c p = g := by
  obtain ⟨l, l1, l2⟩ := (rm_min hT (c := c) (g := g) (W := W) (d := d) hp).2.2 (by omega)
  cases l with
  | nil => exact ⟨l1.2.1, l1.2.2⟩
  | cons q l =>
    have := (wcost_0 hT _ p hp l1.1).2 (by simp)
    omega
theorem rm_s {T : es_M} (hT : TI T) {c g W p d q : Int} (hp : isS T p) (hq : isP T q) (hs : stp T c p q < 1000000) : rmF T c g W p d ≤ stp T c p q + rmF T c g W q (dnF T q d W) := by
  have m := rm_min hT (c := c) (g := g) (W := W) (d := d) hp
  have m2 := rm_min hT (c := c) (g := g) (W := W) (p := q) (d := dnF T q d W) (Or.inr hq)
  have b := stp_r hT (c := c) hp hq
  by_cases z : rmF T c g W q (dnF T q d W) < 1000000
  · obtain ⟨l, l1, l2⟩ := m2.2.2 z
    have := m.2.1 (stp T c p q + wcost T c q l) ⟨q :: l, ⟨⟨⟨hq, hs⟩, l1.1⟩, l1.2.1, l1.2.2⟩, rfl⟩
    omega
  · have := m.1
    omega
theorem rm_x {T : es_M} (hT : TI T) {c g W p d : Int} (hp : isS T p) (h : rmF T c g W p d < 1000000) (hn : ¬ (d = W ∧ cr T c p = g)) : ∃ q, isP T q ∧ stp T c p q < 1000000 ∧ rmF T c g W p d = stp T c p q + rmF T c g W q (dnF T q d W) := by
  obtain ⟨l, l1, l2⟩ := (rm_min hT (c := c) (g := g) (W := W) (d := d) hp).2.2 h
  cases l with
  | nil => exact absurd ⟨l1.2.1, l1.2.2⟩ hn
  | cons q l =>
    have e : wcost T c p (q :: l) = stp T c p q + wcost T c q l := rfl
    have hq := l1.1.1
    have s := rm_s hT (c := c) (g := g) (W := W) (p := p) (d := d) hp hq.1 hq.2
    have m2 := (rm_min hT (c := c) (g := g) (W := W) (p := q) (d := dnF T q d W) (Or.inr hq.1)).2.1 _ ⟨l, ⟨l1.1.2, l1.2.1, l1.2.2⟩, rfl⟩
    exact ⟨q, hq.1, hq.2, by omega⟩
/-! sets of services -/
def sub (a b : Int) : Prop := ∀ i : Nat, a.toNat.testBit i = true → b.toNat.testBit i = true
theorem sub.rf (a : Int) : sub a a := fun _ h => h
theorem sub.tr {a b c : Int} (h : sub a b) (g : sub b c) : sub a c := fun i z => g i (h i z)
theorem sub.eq {a b : Int} (a0 : 0 ≤ a) (b0 : 0 ≤ b) (h : sub a b) (g : sub b a) : a = b := by
  have : a.toNat = b.toNat := by
    apply Nat.eq_of_testBit_eq
    intro i
    cases q : a.toNat.testBit i
    · cases r : b.toNat.testBit i
      · rfl
      · rw [g i r] at q; cases q
    · exact (h i q).symm
  omega
theorem free_iff {T : es_M} {v W d : Int} : free T v W d ↔ ∀ i : Nat, (T 12 v).toNat.testBit i = true → W.toNat.testBit i = true → d.toNat.testBit i = true := by
  constructor
  · intro h i h1 h2
    cases q : d.toNat.testBit i
    · exfalso
      have : (es_dif ((T 12 v).toNat &&& W.toNat) d.toNat).testBit i = true := by rw [es_dif_bit, Nat.testBit_and, h1, h2, q]; rfl
      rw [show es_dif ((T 12 v).toNat &&& W.toNat) d.toNat = 0 from h, Nat.zero_testBit] at this
      cases this
    · rfl
  · intro h
    show es_dif ((T 12 v).toNat &&& W.toNat) d.toNat = 0
    apply Nat.eq_of_testBit_eq
    intro i
    rw [es_dif_bit, Nat.testBit_and, Nat.zero_testBit]
    cases q : (T 12 v).toNat.testBit i
    · rfl
    · cases r : W.toNat.testBit i
      · rfl
      · rw [h i q r]; rfl
theorem orb (a v : Nat) (i : Nat) : (a ||| 2 ^ v).testBit i = (a.testBit i || decide (v = i)) := by
  rw [Nat.testBit_or, Nat.testBit_two_pow]
/-- what a pass does of W -/
def does (T : es_M) (q d W : Int) : Prop := ¬ T 13 q = -1 ∧ ebit W (T 13 q) ∧ free T (T 13 q) W d
theorem dn_y {T : es_M} {q d W : Int} (h : does T q d W) : dnF T q d W = ((d.toNat ||| 2 ^ (T 13 q).toNat : Nat) : Int) := if_pos h
theorem dn_n {T : es_M} {q d W : Int} (h : ¬ does T q d W) : dnF T q d W = d := if_neg h
theorem dn_sub {T : es_M} {q d W : Int} : sub d (dnF T q d W) := by
  intro i h
  by_cases e : does T q d W
  · rw [dn_y e, Int.toNat_natCast, orb, h]; rfl
  · rw [dn_n e]; exact h
theorem dn_in {T : es_M} {q d W : Int} (hd : sub d W) : sub (dnF T q d W) W := by
  intro i h
  by_cases e : does T q d W
  · rw [dn_y e, Int.toNat_natCast, orb] at h
    cases z : d.toNat.testBit i
    · rw [z] at h
      have : (T 13 q).toNat = i := by simpa using h
      rw [← this]; exact e.2.1
    · exact hd i z
  · rw [dn_n e] at h; exact hd i h
theorem dn_mono {T : es_M} {q d d' W : Int} (h : sub d d') : sub (dnF T q d W) (dnF T q d' W) := by
  intro i hi
  by_cases e : does T q d W
  · have e' : does T q d' W := ⟨e.1, e.2.1, free_iff.mpr (fun j h1 h2 => h j (free_iff.mp e.2.2 j h1 h2))⟩
    rw [dn_y e, Int.toNat_natCast, orb] at hi
    rw [dn_y e', Int.toNat_natCast, orb]
    cases z : d.toNat.testBit i
    · rw [z, Bool.false_or] at hi; rw [hi, Bool.or_true]
    · rw [h i z]; rfl
  · rw [dn_n e] at hi
    exact dn_sub i (h i hi)
theorem dn_nn {T : es_M} {q d W : Int} (d0 : 0 ≤ d) : 0 ≤ dnF T q d W := by
  by_cases e : does T q d W
  · rw [dn_y e]; omega
  · rw [dn_n e]; exact d0
theorem dnL_sub {T : es_M} {W : Int} : ∀ (l : List Int) (d : Int), sub d (dnL T W d l)
  | [], d => sub.rf d
  | _ :: l, _ => dn_sub.tr (dnL_sub l _)
theorem dnL_in {T : es_M} {W : Int} : ∀ (l : List Int) (d : Int), sub d W → sub (dnL T W d l) W
  | [], _, h => h
  | _ :: l, _, h => dnL_in l _ (dn_in h)
theorem dnL_mono {T : es_M} {W : Int} : ∀ (l : List Int) (d d' : Int), sub d d' → sub (dnL T W d l) (dnL T W d' l)
  | [], _, _, h => h
  | _ :: l, _, _, h => dnL_mono l _ _ (dn_mono h)
theorem dnL_nn {T : es_M} {W : Int} : ∀ (l : List Int) (d : Int), 0 ≤ d → 0 ≤ dnL T W d l
  | [], _, h => h
  | _ :: l, _, h => dnL_nn l _ (dn_nn h)
theorem dnL_app {T : es_M} {W : Int} : ∀ (l m : List Int) (d : Int), dnL T W d (l ++ m) = dnL T W (dnL T W d l) m
  | [], _, _ => rfl
  | _ :: l, m, _ => dnL_app l m _
theorem dnL_W {T : es_M} {W : Int} (h0 : 0 ≤ W) (l : List Int) : dnL T W W l = W := sub.eq (dnL_nn l W h0) h0 (dnL_in l W (sub.rf W)) (dnL_sub l W)
theorem acc_mono {T : es_M} {c g W p d d' : Int} {l : List Int} (W0 : 0 ≤ W) (d0 : 0 ≤ d') (h : sub d d') (h' : sub d' W) (a : acc T c g W p d l) : acc T c g W p d' l := by
  refine ⟨a.1, sub.eq (dnL_nn l d' d0) W0 (dnL_in l d' h') ?_, a.2.2⟩
  have := dnL_mono (T := T) (W := W) l d d' h
  rw [a.2.1] at this
  exact this
theorem rm_mono {T : es_M} (hT : TI T) {c g W p d d' : Int} (hp : isS T p) (W0 : 0 ≤ W) (d0 : 0 ≤ d') (h : sub d d') (h' : sub d' W) : rmF T c g W p d' ≤ rmF T c g W p d := by
  have m := rm_min hT (c := c) (g := g) (W := W) (d := d') hp
  have m2 := rm_min hT (c := c) (g := g) (W := W) (d := d) hp
  by_cases z : rmF T c g W p d < 1000000
  · obtain ⟨l, l1, l2⟩ := m2.2.2 z
    rw [← l2]
    exact m.2.1 _ ⟨l, acc_mono W0 d0 h h' l1, rfl⟩
  · have := m.1; omega
/-! the corner of the begin matters at the begin alone -/
theorem isP36 {T : es_M} (hT : TI T) {p : Int} (hp : isP T p) : p ≠ 36 := by have := hT.n; have := hp.2; omega
theorem wok_c {T : es_M} (hT : TI T) {c c' : Int} : ∀ (l : List Int) (p : Int), isP T p → wok T c p l → wok T c' p l
  | [], _, _, h => h
  | q :: l, p, hp, h => ⟨⟨h.1.1, by rw [stp_c (c := c') (c' := c) (isP36 hT hp)]; exact h.1.2⟩, wok_c hT l q h.1.1 h.2⟩
theorem wcost_c {T : es_M} (hT : TI T) {c c' : Int} : ∀ (l : List Int) (p : Int), isP T p → wok T c p l → wcost T c' p l = wcost T c p l
  | [], _, _, _ => rfl
  | q :: l, p, hp, h => by
    show stp T c' p q + wcost T c' q l = stp T c p q + wcost T c q l
    rw [stp_c (c := c') (c' := c) (isP36 hT hp), wcost_c hT l q h.1.1 h.2]
theorem wlast_P {T : es_M} {c : Int} : ∀ (l : List Int) (p : Int), isP T p → wok T c p l → isP T (wlast p l)
  | [], _, hp, _ => hp
  | q :: l, _, _, h => wlast_P l q h.1.1 h.2
theorem cr_c {T : es_M} (hT : TI T) {c p : Int} (hp : isP T p) : cr T c p = gl T p := if_neg (isP36 hT hp)
theorem acc_c {T : es_M} (hT : TI T) {c c' g W p d : Int} {l : List Int} (hp : isP T p) (h : acc T c g W p d l) : acc T c' g W p d l := by
  refine ⟨wok_c hT l p hp h.1, h.2.1, ?_⟩
  have w := wlast_P l p hp h.1
  have := h.2.2
  rw [cr_c hT w] at this ⊢
  exact this
theorem rm_c {T : es_M} (hT : TI T) {c c' g W p d : Int} (hp : isP T p) : rmF T c g W p d = rmF T c' g W p d := by
  refine (rm_min hT (c := c) (g := g) (W := W) (d := d) (Or.inr hp)).uniq ((rm_min hT (c := c') (g := g) (W := W) (d := d) (Or.inr hp)).iff (fun x => ?_))
  constructor
  · rintro ⟨l, l1, l2⟩
    exact ⟨l, acc_c hT hp l1, by rw [wcost_c hT l p hp l1.1]; exact l2⟩
  · rintro ⟨l, l1, l2⟩
    exact ⟨l, acc_c hT hp l1, by rw [wcost_c hT l p hp l1.1]; exact l2⟩
