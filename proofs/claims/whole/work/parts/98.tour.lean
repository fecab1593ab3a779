/-! TOURS: orders of codes in which a set of services can be done -/
/-- the least of the ways from a state to the end of a pass -/
noncomputable def dsF (T : es_M) (a p q : Int) : Int := Classical.epsilon (fun v => isMin (fun x => ∃ l, l ≠ [] ∧ wok T a p l ∧ wlast p l = q ∧ wcost T a p l = x) v)
theorem ds_min {T : es_M} (hT : TI T) {a p q : Int} (hp : isS T p) : isMin (fun x => ∃ l, l ≠ [] ∧ wok T a p l ∧ wlast p l = q ∧ wcost T a p l = x) (dsF T a p q) :=
  Classical.epsilon_spec (isMin_ex (fun x ⟨l, _, l2, _, l4⟩ => by rw [← l4]; exact (wcost_0 hT l p hp l2).1))
theorem ds_wy {T : es_M} (hT : TI T) {a p q : Int} (hp : isP T p) (hq : isP T q) : dsF T a p q = wyF T p q := by
  refine (ds_min hT (Or.inr hp)).uniq ((wyF_min hT hp hq).iff (fun x => ?_))
  constructor
  · rintro ⟨l, l1, l2, l3, l4⟩
    exact ⟨l, l1, wok_c hT l p hp l2, l3, by rw [wcost_c hT l p hp l2]; exact l4⟩
  · rintro ⟨l, l1, l2, l3, l4⟩
    exact ⟨l, l1, wok_c hT l p hp l2, l3, by rw [wcost_c hT l p hp l2]; exact l4⟩
theorem ds_r {T : es_M} (hT : TI T) {a p q : Int} (hp : isS T p) : 1 ≤ dsF T a p q ∧ dsF T a p q ≤ 1000000 := by
  obtain ⟨m1, m2, m3⟩ := ds_min hT (a := a) (q := q) hp
  refine ⟨?_, m1⟩
  by_cases z : dsF T a p q < 1000000
  · obtain ⟨l, l1, l2, l3, l4⟩ := m3 z
    rw [← l4]; exact (wcost_0 hT l p hp l2).2 l1
  · omega
/-- by a due code first -/
theorem rm_due {T : es_M} (hT : TI T) {a g W p d k : Int} (hp : isS T p) (W0 : 0 ≤ W) (d0 : 0 ≤ d) (hd : sub d W) (k0 : 0 ≤ k) (k1 : k < 2 * T 1 1) (h : due T W d k) : rmF T a g W p d ≤ dsF T a p (poF T k) + rmF T a g W (poF T k) (wth d (k / 2)) := by
  have hk := poF_r hT k0 k1
  have hq : isP T (poF T k) := ⟨hk.1, hk.2.1⟩
  have m := rm_min hT (c := a) (g := g) (W := W) (d := d) hp
  have r1 := ds_r hT (a := a) (q := poF T k) hp
  have r2 := rm_r hT (c := a) (g := g) (W := W) (d := wth d (k / 2)) (Or.inr hq)
  by_cases z : dsF T a p (poF T k) + rmF T a g W (poF T k) (wth d (k / 2)) < 1000000
  · obtain ⟨l, l1, l2, l3, l4⟩ := (ds_min hT (a := a) (q := poF T k) hp).2.2 (by omega)
    obtain ⟨l', a1, a2⟩ := (rm_min hT (c := a) (g := g) (W := W) (d := wth d (k / 2)) (Or.inr hq)).2.2 (by omega)
    have sb := due_dn h k0 (l := l) (p := p) l1 l3
    have in1 := dnL_in l d hd (T := T)
    have a3 := acc_mono W0 (dnL_nn l d d0) sb in1 a1
    have := m.2.1 (wcost T a p (l ++ l')) ⟨l ++ l', ⟨(wok_app l p l').mpr ⟨l2, by rw [l3]; exact a1.1⟩, by rw [dnL_app]; exact a3.2.1, by rw [wlast_app, l3]; exact a1.2.2⟩, rfl⟩
    rw [wcost_app, l3, l4, a2] at this
    omega
  · have := m.1; omega
theorem rm_due_x {T : es_M} (hT : TI T) {a g W p d : Int} (hp : isS T p) (d0 : 0 ≤ d) (hn : d ≠ W) (h : rmF T a g W p d < 1000000) : ∃ k, 0 ≤ k ∧ k < 2 * T 1 1 ∧ due T W d k ∧ dsF T a p (poF T k) + rmF T a g W (poF T k) (wth d (k / 2)) ≤ rmF T a g W p d := by
  obtain ⟨l, l1, l2⟩ := (rm_min hT (c := a) (g := g) (W := W) (d := d) hp).2.2 h
  obtain ⟨x, q, y, e1, e2, e3, nb⟩ := first_do l d d0 hn l1.2.1
  have wk := l1.1
  rw [show x ++ q :: y = (x ++ [q]) ++ y by simp] at e1
  rw [e1] at wk
  have wk2 := (wok_app (x ++ [q]) p y).mp wk
  have wk3 := (wok_app x p [q]).mp wk2.1
  have hq : isP T q := wk3.2.1.1
  have lst : wlast p (x ++ [q]) = q := by rw [wlast_app]; rfl
  have hsx : isS T (wlast p x) := by
    cases x with
    | nil => exact hp
    | cons b x => exact Or.inr (wlast_P x b wk3.1.1.1 wk3.1.2)
  have hg : goes T q := stp_go hT (c := a) hsx hq wk3.2.1.2
  obtain ⟨c1, c2, c3, c4⟩ := code_of hT hq hg e3.1
  have q2 : 0 ≤ q % 2 ∧ q % 2 ≤ 1 := by omega
  have low := (ds_min hT (a := a) (q := q) hp).2.1 _ ⟨x ++ [q], by simp, wk2.1, lst, rfl⟩
  have du : due T W d (2 * T 13 q + q % 2) := by
    unfold due
    rw [c2, c4]
    exact ⟨⟨c3, hg⟩, ⟨e3.2.1, nb⟩, e3.2.2⟩
  refine ⟨2 * T 13 q + q % 2, by omega, by omega, du, ?_⟩
  rw [c2, c4]
  have m2 := (rm_min hT (c := a) (g := g) (W := W) (p := q) (d := wth d (T 13 q)) (Or.inr hq)).2.1 (wcost T a q y) ⟨y, ⟨by rw [← lst]; exact wk2.2, ?_, ?_⟩, rfl⟩
  · rw [e1, wcost_app, lst] at l2
    omega
  · have := l1.2.1
    rw [e1, dnL_app, dnL_app, e2] at this
    have e4 : dnL T W d [q] = wth d (T 13 q) := dn_y e3
    rw [e4] at this
    exact this
  · have := l1.2.2
    rw [e1, wlast_app, lst] at this
    exact this
/-! orders of codes -/
noncomputable def pc (T : es_M) (a : Int) : Int → List Int → Int
  | _, [] => 0
  | p, k :: l => dsF T a p (poF T k) + pc T a (poF T k) l
def pl (T : es_M) : Int → List Int → Int
  | p, [] => p
  | _, k :: l => pl T (poF T k) l
theorem pc_app {T : es_M} {a : Int} : ∀ (l : List Int) (p : Int) (m : List Int), pc T a p (l ++ m) = pc T a p l + pc T a (pl T p l) m
  | [], p, m => by show pc T a p m = 0 + pc T a p m; omega
  | k :: l, p, m => by
    show dsF T a p (poF T k) + pc T a (poF T k) (l ++ m) = dsF T a p (poF T k) + pc T a (poF T k) l + pc T a (pl T (poF T k) l) m
    rw [pc_app l (poF T k) m]; omega
theorem pl_app {T : es_M} : ∀ (l : List Int) (p : Int) (m : List Int), pl T p (l ++ m) = pl T (pl T p l) m
  | [], _, _ => rfl
  | k :: l, _, m => pl_app l (poF T k) m
def isK (T : es_M) (k : Int) : Prop := 0 ≤ k ∧ k < 2 * T 1 1
def bs (T : es_M) (W : Int) : Int → List Int → Prop
  | d, [] => d = W
  | d, k :: l => (isK T k ∧ due T W d k) ∧ bs T W (wth d (k / 2)) l
/-- what may come next, whatever is wanted -/
def nxt (T : es_M) (d k : Int) : Prop := isK T k ∧ (canDo T k ∧ goes T (poF T k)) ∧ ¬ ebit d (k / 2) ∧ ∀ i : Nat, d.toNat.testBit i = true → (T 12 i).toNat.testBit (k / 2).toNat = false
def fs (T : es_M) : Int → List Int → Int → Prop
  | d, [], D => d = D
  | d, k :: l, D => nxt T d k ∧ fs T (wth d (k / 2)) l D
theorem fs_app {T : es_M} : ∀ (l : List Int) (d : Int) (m : List Int) (D : Int), fs T d (l ++ m) D ↔ ∃ D', fs T d l D' ∧ fs T D' m D
  | [], d, m, D => ⟨fun h => ⟨d, rfl, h⟩, fun ⟨D', h1, h2⟩ => by rw [show d = D' from h1]; exact h2⟩
  | k :: l, d, m, D => by
    show (nxt T d k ∧ fs T (wth d (k / 2)) (l ++ m) D) ↔ ∃ D', (nxt T d k ∧ fs T (wth d (k / 2)) l D') ∧ fs T D' m D
    rw [fs_app l (wth d (k / 2)) m D]
    exact ⟨fun ⟨h1, D', h2, h3⟩ => ⟨D', ⟨h1, h2⟩, h3⟩, fun ⟨D', ⟨h1, h2⟩, h3⟩ => ⟨h1, D', h2, h3⟩⟩
theorem wth_in {d v : Int} : ebit (wth d v) v := by unfold ebit; rw [wth_b]; simp
theorem wth_le {d v : Int} : sub d (wth d v) := fun i hi => by rw [wth_b, hi]; rfl
theorem wth_nn {d v : Int} : 0 ≤ wth d v := by unfold wth; omega
/-- the services that stand in front of one that is done cannot come later -/
theorem fs_no {T : es_M} {W : Int} : ∀ (l : List Int) (d : Int) (v i : Nat), fs T d l W → d.toNat.testBit v = true → W.toNat.testBit i = true → d.toNat.testBit i = false → (T 12 v).toNat.testBit i = false
  | [], d, v, i, h, _, h2, h3 => by rw [show d = W from h] at h3; rw [h3] at h2; cases h2
  | k :: l, d, v, i, h, h1, h2, h3 => by
    by_cases e : (k / 2).toNat = i
    · have := h.1.2.2.2 v h1
      rw [e] at this
      exact this
    · refine fs_no l (wth d (k / 2)) v i h.2 ?_ h2 ?_
      · rw [wth_b, h1]; rfl
      · rw [wth_b, h3]; simpa using e
theorem bs_fs {T : es_M} {W : Int} : ∀ (l : List Int) (d : Int), (∀ j i : Nat, d.toNat.testBit j = true → (T 12 j).toNat.testBit i = true → W.toNat.testBit i = true → d.toNat.testBit i = true) → bs T W d l → fs T d l W
  | [], _, _, h => h
  | k :: l, d, hc, h => by
    obtain ⟨⟨hk, du⟩, hl⟩ := h
    refine ⟨⟨hk, du.1, du.2.1.2, fun i hi => ?_⟩, bs_fs l _ (fun j i h1 h2 h3 => ?_) hl⟩
    · cases q : (T 12 i).toNat.testBit (k / 2).toNat
      · rfl
      · exact absurd (hc i (k / 2).toNat hi q du.2.1.1) du.2.1.2
    · rw [wth_b] at h1 ⊢
      cases z : d.toNat.testBit j
      · rw [z, Bool.false_or, decide_eq_true_eq] at h1
        have := free_iff.mp du.2.2 i (by rw [show k / 2 = ((j : Nat) : Int) by have := hk.1; omega]; exact h2) h3
        rw [this]; rfl
      · rw [hc j i z h2 h3]; rfl
theorem fs_sub {T : es_M} {W : Int} : ∀ (l : List Int) (d : Int), fs T d l W → sub d W
  | [], d, h => by rw [show d = W from h]; exact sub.rf W
  | k :: l, d, h => wth_le.tr (fs_sub l _ h.2)
theorem fs_bs {T : es_M} (hT : TI T) {W : Int} : ∀ (l : List Int) (d : Int), fs T d l W → bs T W d l
  | [], _, h => h
  | k :: l, d, h => by
    obtain ⟨hn, hl⟩ := h
    have hv := hT.v
    have k0 := hn.1.1
    have k1 := hn.1.2
    have inW := fs_sub l _ hl
    refine ⟨⟨hn.1, hn.2.1, ⟨inW _ wth_in, hn.2.2.1⟩, free_iff.mpr (fun i h1 h2 => ?_)⟩, fs_bs hT l _ hl⟩
    cases q : d.toNat.testBit i
    · exfalso
      by_cases e : (k / 2).toNat = i
      · have ns := hT.ns (v := k / 2) (by omega) (by omega)
        exact ns (by unfold ebit; rw [e]; exact h1)
      · have := fs_no l (wth d (k / 2)) (k / 2).toNat i hl wth_in h2 (by rw [wth_b, q]; simpa using e)
        rw [show (((k / 2).toNat : Nat) : Int) = k / 2 by omega] at this
        rw [this] at h1; cases h1
    · rfl
/-- the least by orders -/
theorem rm_seq {T : es_M} (hT : TI T) {a W : Int} (W0 : 0 ≤ W) (W1 : W < 1024) : ∀ (n : Nat) (p d : Int), 1024 - d ≤ n → (isP T p ∨ (p = 36 ∧ d ≠ W)) → 0 ≤ d → sub d W → isMin (fun x => ∃ l, bs T W d l ∧ pc T a p l + exF T a (pl T p l) = x) (rmF T a a W p d) := by
  intro n
  induction n with
  | zero => intro p d hn _ d0 hd; have := sub_le d0 hd; omega
  | succ n ih =>
    intro p d hn hp d0 hd
    have hs : isS T p := hp.elim Or.inr (fun z => Or.inl z.1)
    have hv := hT.v
    by_cases e : d = W
    · have hp' : isP T p := hp.elim (fun z => z) (fun z => absurd e z.2)
      have ex := exF_rm hT (g := a) (W := W) hp' W0
      rw [rm_c hT (c := 0) (c' := a) hp'] at ex
      rw [e, ← ex]
      refine ⟨by rw [ex]; exact (rm_r hT hs).2, ?_, fun _ => ⟨[], rfl, by show 0 + exF T a p = exF T a p; omega⟩⟩
      rintro x ⟨l, l1, l2⟩
      cases l with
      | nil => rw [← l2]; show exF T a p ≤ 0 + exF T a p; omega
      | cons k l => exact absurd l1.1.2.2.1.1 l1.1.2.2.1.2
    · refine ⟨(rm_r hT hs).2, ?_, fun z => ?_⟩
      · rintro x ⟨l, l1, l2⟩
        cases l with
        | nil => exact absurd l1 e
        | cons k l =>
          obtain ⟨⟨hk, du⟩, hl⟩ := l1
          have kp := poF_r hT hk.1 hk.2
          have hq : isP T (poF T k) := ⟨kp.1, kp.2.1⟩
          have gt := wth_gt d0 du.2.1.2
          have i := (ih (poF T k) (wth d (k / 2)) (by omega) (Or.inl hq) wth_nn (wth_sub hd du.2.1.1)).2.1 _ ⟨l, hl, rfl⟩
          have r := rm_due hT (a := a) (g := a) hs W0 d0 hd hk.1 hk.2 du
          rw [← l2]
          show rmF T a a W p d ≤ dsF T a p (poF T k) + pc T a (poF T k) l + exF T a (pl T (poF T k) l)
          omega
      · obtain ⟨k, k0, k1, du, le⟩ := rm_due_x hT hs d0 e z
        have kp := poF_r hT k0 k1
        have hq : isP T (poF T k) := ⟨kp.1, kp.2.1⟩
        have gt := wth_gt d0 du.2.1.2
        have r1 := ds_r hT (a := a) (q := poF T k) hs
        have ge := rm_due hT (a := a) (g := a) hs W0 d0 hd k0 k1 du
        obtain ⟨l, l1, l2⟩ := (ih (poF T k) (wth d (k / 2)) (by omega) (Or.inl hq) wth_nn (wth_sub hd du.2.1.1)).2.2 (by omega)
        refine ⟨k :: l, ⟨⟨⟨k0, k1⟩, du⟩, l1⟩, ?_⟩
        show dsF T a p (poF T k) + pc T a (poF T k) l + exF T a (pl T (poF T k) l) = rmF T a a W p d
        omega
/-- a tour of W from a, by orders without W in them -/
theorem rm_tour {T : es_M} (hT : TI T) {a W : Int} (W0 : 0 < W) (W1 : W < 1024) : isMin (fun x => ∃ l, fs T 0 l W ∧ pc T a 36 l + exF T a (pl T 36 l) = x) (rmF T a a W 36 0) := by
  have s0 : sub 0 W := fun i hi => by rw [show (0 : Int).toNat = 0 from rfl, Nat.zero_testBit] at hi; cases hi
  refine (rm_seq hT (a := a) (Int.le_of_lt W0) W1 1024 36 0 (by omega) (Or.inr ⟨rfl, by omega⟩) (by decide) s0).iff (fun x => ?_)
  constructor
  · rintro ⟨l, l1, l2⟩
    exact ⟨l, bs_fs l 0 (fun j i h1 => by rw [show (0 : Int).toNat = 0 from rfl, Nat.zero_testBit] at h1; cases h1) l1, l2⟩
  · rintro ⟨l, l1, l2⟩
    exact ⟨l, fs_bs hT l 0 l1, l2⟩
