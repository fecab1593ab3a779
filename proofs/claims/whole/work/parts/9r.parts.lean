/-! PAIRS OF CALLS: parts (4). The model: whether a set hangs together -/
theorem ntR_lo : ∀ (f x i : Nat), x.testBit i = true → ntR f x ≤ i
  | 0, _, _, _ => Nat.zero_le _
  | f + 1, x, i, h => by
    show (if x % 2 = 1 then 0 else ntR f (x / 2) + 1) ≤ i
    split
    · exact Nat.zero_le _
    · rename_i q
      cases i with
      | zero => rw [Nat.testBit_zero, decide_eq_true_eq] at h; exact absurd h q
      | succ i =>
        rw [Nat.testBit_add_one] at h
        have := ntR_lo f (x / 2) i h
        omega
theorem pcN_bd {x n : Nat} (h : ∀ i, n ≤ i → x.testBit i = false) : ∀ m, pcN m x ≤ n := by
  have key : ∀ m, pcN m x ≤ m ∧ pcN m x ≤ n := by
    intro m
    induction m with
    | zero => exact ⟨Nat.le_refl _, Nat.zero_le _⟩
    | succ m ih =>
      show pcN m x + (if x.testBit m then 1 else 0) ≤ m + 1 ∧ pcN m x + (if x.testBit m then 1 else 0) ≤ n
      by_cases q : n ≤ m
      · rw [h m q]; exact ⟨by have := ih.1; simp; omega, by have := ih.2; simpa using this⟩
      · have := ih.1
        split <;> omega
  exact fun m => (key m).2
/-- the lowest service's street is the lowest -/
theorem low_st {T : es_M} (hT : TI T) {S t : Int} (S0 : 0 < S) (S1 : S ≤ allF T) (ht : inZ T S t) (lo : ∀ u, u < t → ¬ inZ T S u) : t = T 10 (ntzN S.toNat : Nat) := by
  have ha := hT.all
  have hv := hT.v
  obtain ⟨n1, n2, -⟩ := ntz_sp (x := S.toNat) (by omega) (by omega)
  have nT : ((ntzN S.toNat : Nat) : Int) < T 1 1 := by
    have := (sub_all hT (Int.le_of_lt S0)).mpr S1 _ n2
    rw [all_bit hT, decide_eq_true_eq] at this
    clear ha S1
    omega
  clear ha S1
  obtain ⟨v, v0, v1, v2⟩ := ht
  have le : ((ntzN S.toNat : Nat) : Int) ≤ v := by
    have := ntR_lo 12 S.toNat v.toNat v1
    have e : ntzN S.toNat = ntR 12 S.toNat := rfl
    rw [e]
    omega
  have m := mono_st hT (v := ((ntzN S.toNat : Nat) : Int)) (w := v) (Int.natCast_nonneg _) nT v0.1 v0.2 le
  have iz : inZ T S (T 10 (ntzN S.toNat : Nat)) := ⟨_, ⟨Int.natCast_nonneg _, nT⟩, by unfold ebit; rw [Int.toNat_natCast]; exact n2, rfl⟩
  by_cases q : T 10 (ntzN S.toNat : Nat) < t
  · exact absurd iz (lo _ q)
  · rw [v2] at m
    generalize T 10 ((ntzN S.toNat : Nat) : Int) = w at m q ⊢
    omega
def tcM (T : es_M) (c e t : Int) : Prop := e = 0 ∨ ebit c (T 2 t) ∨ ebit c (T 3 t)
def mgI (T : es_M) (S s0 z c e : Int) : Prop := (0 ≤ c ∧ c < 4096) ∧ (0 ≤ e ∧ sub e z) ∧ (∀ k, 0 ≤ k → k < 12 → ebit c k → ∃ s, rch T S s0 s ∧ inZ T S s ∧ (T 2 s = k ∨ T 3 s = k)) ∧ (∀ s, 0 ≤ s → s < T 1 0 → ebit e s → rch T S s0 s ∧ ebit c (T 2 s) ∧ ebit c (T 3 s)) ∧ (e ≠ 0 → ebit e s0)
def mgC (T : es_M) (z c e : Int) : Prop := ∀ t, 0 ≤ t → t < T 1 0 → ebit z t → ¬ ebit e t → ¬ tcM T c e t
def zOK (T : es_M) (S z : Int) : Prop := (0 ≤ z ∧ z < 262144) ∧ ∀ s : Nat, z.toNat.testBit s = true ↔ inZ T S s
theorem zOK.r {T : es_M} (hT : TI T) {S z : Int} (h : zOK T S z) {s : Nat} (b : z.toNat.testBit s = true) : (s : Int) < T 1 0 := by
  obtain ⟨v, v0, -, v2⟩ := (h.2 s).mp b
  have := (hT.sr v0.1 v0.2).1
  omega
theorem mg_end {T : es_M} (hT : TI T) {S s0 z c e : Int} (hz : zOK T S z) (hI : mgI T S s0 z c e) (hC : mgC T z c e) (h0 : inZ T S s0) (s00 : 0 ≤ s0) : e = z ↔ hng T S s0 := by
  obtain ⟨i1, i2, i3, i4, i5⟩ := hI
  have hn := hT.n
  have zz : ∀ t, inZ T S t → 0 ≤ t ∧ t < T 1 0 ∧ ebit z t := fun t ht => by
    obtain ⟨v, v0, v1, v2⟩ := ht
    have r := (hT.sr v0.1 v0.2).1
    rw [v2] at r
    refine ⟨r.1, r.2, ?_⟩
    unfold ebit
    rw [hz.2, toNI r.1]
    exact ⟨v, v0, v1, v2⟩
  constructor
  · intro ez t ht
    obtain ⟨a, b, c'⟩ := zz t ht
    rw [← ez] at c'
    exact (i4 t a b c').1
  · intro hh
    have e0 : e ≠ 0 := fun w => by
      obtain ⟨a, b, c'⟩ := zz s0 h0
      exact hC s0 a b c' (fun x => by unfold ebit at x; rw [w, show (0 : Int).toNat = 0 from rfl, Nat.zero_testBit] at x; cases x) (Or.inl w)
    have all : ∀ t, inZ T S t → ebit e t := fun t ht => hh t ht (fun t => ebit e t) (i5 e0) (fun s u hs hsz hu htc => by
      obtain ⟨a, b, c'⟩ := zz u hu
      obtain ⟨a', b', -⟩ := zz s hsz
      have es := (i4 s a' b' hs).2
      by_cases q : ebit e u
      · exact q
      · refine absurd (Or.inr ?_) (hC u a b c' q)
        rcases htc with w | w | w | w
        · exact Or.inl (by rw [← w]; exact es.1)
        · exact Or.inr (by rw [← w]; exact es.1)
        · exact Or.inl (by rw [← w]; exact es.2)
        · exact Or.inr (by rw [← w]; exact es.2))
    refine sub.eq i2.1 hz.1.1 i2.2 (fun i hi => ?_)
    have := all i ((hz.2 i).mp hi)
    unfold ebit at this
    rw [Int.toNat_natCast] at this
    exact this
theorem pc_wth' {u v : Int} (v0 : 0 ≤ v) (v1 : v < 18) (h : ¬ ebit u v) : pcN 18 (wth u v).toNat = pcN 18 u.toNat + 1 := by
  have b : (wth u v).toNat.testBit v.toNat = true := wth_in
  have c := pcN_clear (wth u v).toNat v.toNat b 18
  rw [if_pos (by omega)] at c
  have e : es_dif (wth u v).toNat (2 ^ v.toNat) = u.toNat := by
    apply Nat.eq_of_testBit_eq
    intro i
    rw [es_dif_bit, wth_b, Nat.testBit_two_pow]
    by_cases q : v.toNat = i
    · have : u.toNat.testBit i = false := by rw [← q]; cases z : u.toNat.testBit v.toNat; rfl; exact absurd z h
      simp [q, this]
    · simp [q]
  rw [e] at c
  exact c.symm
theorem mg_step {T : es_M} (hT : TI T) {S s0 z c e t : Int} (hz : zOK T S z) (hI : mgI T S s0 z c e) (t0 : 0 ≤ t) (t1 : t < T 1 0) (bz : ebit z t) (ri : rch T S s0 t) (first : e = 0 → t = s0) : mgI T S s0 z (orI c (wth (wth 0 (T 2 t)) (T 3 t))) (wth e t) := by
  obtain ⟨h1, h2, h3, h4, h5⟩ := hI
  obtain ⟨a1, a2, -⟩ := hT.st t0 t1
  have er := wth_4096 (wth_4096 (c := 0) (by decide) a1.1 a1.2) a2.1 a2.2
  have iz : inZ T S t := by
    have := (hz.2 t.toNat).mp bz
    rw [toNI t0] at this
    exact this
  have up : ∀ k : Int, ebit c k → ebit (orI c (wth (wth 0 (T 2 t)) (T 3 t))) k := fun k b => by unfold ebit at b ⊢; rw [orI_b, b]; rfl
  have e2 : ebit (orI c (wth (wth 0 (T 2 t)) (T 3 t))) (T 2 t) := by unfold ebit; rw [orI_b, ends_b]; simp
  have e3 : ebit (orI c (wth (wth 0 (T 2 t)) (T 3 t))) (T 3 t) := by unfold ebit; rw [orI_b, ends_b]; simp
  refine ⟨orI_r h1 er, ⟨wth_nn, wth_sub h2.2 bz⟩, fun k k0 k1 b => ?_, fun s q0 q1 b => ?_, fun _ => ?_⟩
  · unfold ebit at b
    rw [orI_b, ends_b, Bool.or_eq_true, Bool.or_eq_true, decide_eq_true_eq, decide_eq_true_eq] at b
    rcases b with b | b | b
    · exact h3 k k0 k1 b
    · exact ⟨t, ri, iz, Or.inl (by clear er; omega)⟩
    · exact ⟨t, ri, iz, Or.inr (by clear er; omega)⟩
  · by_cases q : s = t
    · rw [q]; exact ⟨ri, e2, e3⟩
    · unfold ebit at b
      rw [wth_b, Bool.or_eq_true, decide_eq_true_eq] at b
      have b' : ebit e s := by
        rcases b with b | b
        · exact b
        · clear er; omega
      have := h4 s q0 q1 b'
      exact ⟨this.1, up _ this.2.1, up _ this.2.2⟩
  · by_cases q : e = 0
    · rw [← first q]; exact wth_in
    · exact wth_le _ (h5 q)
