/-! PAIRS OF CALLS: parts. What hangs together -/
def tch (T : es_M) (s t : Int) : Prop := T 2 s = T 2 t ∨ T 2 s = T 3 t ∨ T 3 s = T 2 t ∨ T 3 s = T 3 t
def inZ (T : es_M) (S s : Int) : Prop := ∃ v, (0 ≤ v ∧ v < T 1 1) ∧ ebit S v ∧ T 10 v = s
/-- every set that has s0 and all that touches one of it, has t -/
def rch (T : es_M) (S s0 t : Int) : Prop := ∀ X : Int → Prop, X s0 → (∀ s u, X s → inZ T S s → inZ T S u → tch T s u → X u) → X t
def hng (T : es_M) (S s0 : Int) : Prop := ∀ t, inZ T S t → rch T S s0 t
def whs (T : es_M) (S : Int) : Prop := ∀ v w, 0 ≤ v → v < T 1 1 → 0 ≤ w → w < T 1 1 → T 10 v = T 10 w → (ebit S v ↔ ebit S w)
theorem rch_s {T : es_M} {S s0 s u : Int} (h : rch T S s0 s) (hs : inZ T S s) (hu : inZ T S u) (ht : tch T s u) : rch T S s0 u := fun X h0 hc => hc s u (h X h0 hc) hs hu ht
def clr (l v : Int) : Int := ((es_dif l.toNat (2 ^ v.toNat) : Nat) : Int)
theorem clr_b {l v : Int} {i : Nat} : (clr l v).toNat.testBit i = (l.toNat.testBit i && !decide (v.toNat = i)) := by
  unfold clr; rw [Int.toNat_natCast, es_dif_bit, Nat.testBit_two_pow]
theorem clr_nn {l v : Int} : 0 ≤ clr l v := by unfold clr; omega
theorem clr_sub {l v : Int} : sub (clr l v) l := fun i hi => by rw [clr_b, Bool.and_eq_true] at hi; exact hi.1
theorem clr_pc {l v : Int} (v0 : 0 ≤ v) (v1 : v < 10) (h : ebit l v) : pcN 18 (clr l v).toNat + 1 = pcN 18 l.toNat := by
  have c := pcN_clear l.toNat v.toNat h 18
  rw [if_pos (by omega)] at c
  unfold clr
  rw [Int.toNat_natCast]; exact c
/-- where the class stands: corners c, services left l -/
def hgI (T : es_M) (S s0 c l : Int) : Prop := (0 ≤ c ∧ c < 4096) ∧ (0 ≤ l ∧ sub l S) ∧ (∀ k, 0 ≤ k → k < 12 → ebit c k → ∃ s, rch T S s0 s ∧ inZ T S s ∧ (T 2 s = k ∨ T 3 s = k)) ∧ (∀ v, 0 ≤ v → v < T 1 1 → ebit S v → ¬ ebit l v → rch T S s0 (T 10 v) ∧ ebit c (T 2 (T 10 v)) ∧ ebit c (T 3 (T 10 v))) ∧ ebit c (T 2 s0) ∧ ebit c (T 3 s0)
def hgC (T : es_M) (c l : Int) : Prop := ∀ v, 0 ≤ v → v < T 1 1 → ebit l v → ¬ ebit c (T 2 (T 10 v)) ∧ ¬ ebit c (T 3 (T 10 v))
theorem hg_end {T : es_M} (hT : TI T) {S s0 c l : Int} (S1 : S ≤ allF T) (S0 : 0 ≤ S) (hI : hgI T S s0 c l) (hC : hgC T c l) : l = 0 ↔ hng T S s0 := by
  obtain ⟨i1, i2, i3, i4, i5, i6⟩ := hI
  constructor
  · intro z t ht
    obtain ⟨v, v0, v1, v2⟩ := ht
    have nl : ¬ ebit l v := fun b => by unfold ebit at b; rw [z, show (0 : Int).toNat = 0 from rfl, Nat.zero_testBit] at b; cases b
    rw [← v2]; exact (i4 v v0.1 v0.2 v1 nl).1
  · intro hh
    have all : ∀ t, inZ T S t → ebit c (T 2 t) ∧ ebit c (T 3 t) := fun t ht => hh t ht (fun t => ebit c (T 2 t) ∧ ebit c (T 3 t)) ⟨i5, i6⟩ (fun s u hs _ hu htc => by
      obtain ⟨w, w0, w1, w2⟩ := hu
      by_cases q : ebit l w
      · exfalso
        have cl := hC w w0.1 w0.2 q
        rw [w2] at cl
        rcases htc with e | e | e | e
        · exact cl.1 (by rw [← e]; exact hs.1)
        · exact cl.2 (by rw [← e]; exact hs.1)
        · exact cl.1 (by rw [← e]; exact hs.2)
        · exact cl.2 (by rw [← e]; exact hs.2)
      · have := (i4 w w0.1 w0.2 w1 q).2
        rw [w2] at this; exact this)
    refine sub.eq i2.1 (Int.le_refl 0) (fun i hi => ?_) (s0W l)
    exfalso
    have hS := i2.2 i hi
    have hA := (sub_all hT S0).mpr S1 i hS
    rw [all_bit hT, decide_eq_true_eq] at hA
    have hv := hT.v
    have iT : (i : Int) < T 1 1 := by clear S1; omega
    have bi : ebit l (i : Nat) := by unfold ebit; rw [Int.toNat_natCast]; exact hi
    have bS : ebit S (i : Nat) := by unfold ebit; rw [Int.toNat_natCast]; exact hS
    have cl := hC i (Int.natCast_nonneg i) iT bi
    exact cl.1 (all _ ⟨i, ⟨Int.natCast_nonneg i, iT⟩, bS, rfl⟩).1
section
variable {d : Nat} {Q : Int → es_M → Prop} {T M : es_M}
theorem ends_b {A B : Int} (i : Nat) : (wth (wth 0 A) B).toNat.testBit i = (decide (A.toNat = i) || decide (B.toNat = i)) := by
  rw [wth_b, wth_b, show (0 : Int).toNat = 0 from rfl, Nat.zero_testBit, Bool.false_or]
theorem wth_4096 {c v : Int} (c0 : 0 ≤ c ∧ c < 4096) (v0 : 0 ≤ v) (v1 : v < 12) : 0 ≤ wth c v ∧ wth c v < 4096 := by
  unfold wth
  have := Nat.or_lt_two_pow (n := 12) (x := c.toNat) (y := 2 ^ v.toNat) (by omega) (Nat.pow_lt_pow_right (by decide) (by omega))
  omega
theorem s_endsOf (hT : TI T) (hR : RepC T M) {v : Int} (v0 : 0 ≤ v) (v1 : v < T 1 1) (h : Q (wth (wth 0 (T 2 (T 10 v))) (T 3 (T 10 v))) M) : es_Call (d + 2) 124 [.inr (.inr 72), .inl v] M Q := by
  have hv := hT.v
  have hn := hT.n
  obtain ⟨s0, s1⟩ := (hT.sr v0 v1).1
  obtain ⟨a1, a2, -⟩ := hT.st s0 s1
  apply c_Shares_endsOf
  refine s_isService hR (fun _ _ => es_f1 ?_) (fun z => absurd ⟨v0, v1⟩ z)
  rw [hR 10 _ rfl, hR 2 _ rfl, hR 3 _ rfl]
  have e1 : es_shl 1 (T 2 (T 10 v)) = wth 0 (T 2 (T 10 v)) := shl_v a1.1 (by omega)
  have w1 := wth_4096 (c := 0) (by decide) a1.1 a1.2
  have e2 : es_or (wth 0 (T 2 (T 10 v))) (es_shl 1 (T 3 (T 10 v))) = wth (wth 0 (T 2 (T 10 v))) (T 3 (T 10 v)) := ei_or1 w1.1 (Int.lt_trans w1.2 (by decide)) a2.1 (Int.lt_trans a2.2 (by decide))
  rw [e1, e2]
  clear e1 e2 w1
  exact ⟨by omega, by omega, by omega, h⟩
end
