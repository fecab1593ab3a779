/-! LEAST WALKS (3): the class's tables -/
theorem and_2 (x y : Nat) : (x &&& y) / 2 = (x / 2) &&& (y / 2) ∧ (x &&& y) % 2 = if x % 2 = 1 ∧ y % 2 = 1 then 1 else 0 := by
  constructor
  · apply Nat.eq_of_testBit_eq
    intro i
    rw [← Nat.testBit_add_one, Nat.testBit_and, Nat.testBit_and, Nat.testBit_add_one, Nat.testBit_add_one]
  · have a := Nat.testBit_and x y 0
    rw [Nat.testBit_zero, Nat.testBit_zero, Nat.testBit_zero] at a
    by_cases h : x % 2 = 1 ∧ y % 2 = 1
    · rw [if_pos h]
      rw [h.1, h.2] at a
      simpa using a
    · rw [if_neg h]
      have : (decide (x % 2 = 1) && decide (y % 2 = 1)) = false := by
        cases q : (decide (x % 2 = 1) && decide (y % 2 = 1))
        · rfl
        · simp only [Bool.and_eq_true, decide_eq_true_eq] at q
          exact absurd q h
      rw [this] at a
      have : ¬ (x &&& y) % 2 = 1 := by simpa using a
      omega
theorem subN2 {a b : Nat} (h : ∀ i : Nat, a.testBit i = true → b.testBit i = true) : (∀ i : Nat, (a / 2).testBit i = true → (b / 2).testBit i = true) ∧ (a % 2 = 1 → b % 2 = 1) := by
  refine ⟨fun i hi => ?_, fun ha => ?_⟩
  · rw [← Nat.testBit_add_one] at hi ⊢
    exact h _ hi
  · have := h 0
    rw [Nat.testBit_zero, Nat.testBit_zero] at this
    simpa using this (by simpa using ha)
/-- the next smaller one of the sets within W -/
theorem sub_next : ∀ (D d W : Nat), (∀ i : Nat, d.testBit i = true → W.testBit i = true) → (∀ i : Nat, D.testBit i = true → W.testBit i = true) → d < D → d ≤ (D - 1) &&& W := by
  intro D
  induction D using Nat.strongRecOn with
  | _ D ih =>
    intro d W h1 h2 h3
    obtain ⟨a1, a2⟩ := subN2 h1
    obtain ⟨b1, b2⟩ := subN2 h2
    obtain ⟨c1, c2⟩ := and_2 (D - 1) W
    by_cases e : D % 2 = 1
    · have : (D - 1) &&& W = D - 1 := by
        apply Nat.eq_of_testBit_eq
        intro i
        rw [Nat.testBit_and]
        cases q : (D - 1).testBit i
        · rfl
        · have : D.testBit i = true := by
            cases i with
            | zero => rw [Nat.testBit_zero] at q; have : (D - 1) % 2 = 1 := by simpa using q
                      omega
            | succ i => rw [Nat.testBit_add_one] at q ⊢; rw [show (D - 1) / 2 = D / 2 by omega] at q; exact q
          rw [h2 i this]; rfl
      rw [this]; omega
    · have := ih (D / 2) (by omega) (d / 2) (W / 2) a1 b1 (by omega)
      rw [show (D - 1) / 2 = D / 2 - 1 by omega] at c1
      have o : (D - 1) % 2 = 1 := by omega
      by_cases w : W % 2 = 1
      · rw [if_pos ⟨o, w⟩] at c2
        omega
      · rw [if_neg (fun z => w z.2)] at c2
        omega
/-- ready for walks to g -/
def prepOK (T : es_M) (g : Int) (M : es_M) : Prop := M 67 8 = g ∧ M 67 9 = 2 * T 1 1 ∧ (∀ k, 0 ≤ k → k < 2 * T 1 1 → (canDo T k ∧ goes T (poF T k) → M 68 k = poF T k) ∧ (¬ (canDo T k ∧ goes T (poF T k)) → M 68 k = -1)) ∧ (∀ p, isP T p → M 69 p = exF T g p) ∧ ∀ p q, isP T p → isP T q → M 61 (p * 36 + q) = wyF T p q
def tabOK (T : es_M) (g W d0 : Int) (M : es_M) : Prop := ∀ d k, sub d W → 0 ≤ d → d0 < d → 0 ≤ k → k < 2 * T 1 1 → ebit d (k / 2) → canDo T k → goes T (poF T k) → M 66 (d * 20 + k) = rmF T 0 g W (poF T k) d
theorem w20480 {a b : Int} (ha : 0 ≤ a ∧ a < 1024) (hb : 0 ≤ b ∧ b < 20) : w32 (w32 (a * 20) + b) = a * 20 + b ∧ 0 ≤ a * 20 + b ∧ a * 20 + b < 20480 := by
  refine ⟨by unfold w32; omega, by omega, by omega⟩
theorem wth_r {d v : Int} (d0 : 0 ≤ d) (d1 : d < 1024) (v0 : 0 ≤ v) (v1 : v < 10) : 0 ≤ wth d v ∧ wth d v < 1024 := by
  unfold wth
  have := or_lt1024 (a := d.toNat) (b := 2 ^ v.toNat) (by omega) (pow1024 v1)
  omega
theorem wth_gt {d v : Int} (d0 : 0 ≤ d) (h : ¬ ebit d v) : d < wth d v := by
  have le : d.toNat ≤ d.toNat ||| 2 ^ v.toNat := Nat.left_le_or
  have ne : d.toNat ≠ d.toNat ||| 2 ^ v.toNat := by
    intro e
    have : (d.toNat ||| 2 ^ v.toNat).testBit v.toNat = true := by rw [orb]; simp
    rw [← e] at this
    exact h this
  unfold wth
  omega
theorem dif_bit {a b i : Int} (a0 : 0 ≤ a) (b0 : 0 ≤ b) : ebit ((es_dif a.toNat b.toNat : Nat) : Int) i ↔ ebit a i ∧ ¬ ebit b i := by
  unfold ebit
  rw [Int.toNat_natCast, es_dif_bit]
  cases a.toNat.testBit i.toNat <;> cases b.toNat.testBit i.toNat <;> simp
theorem mlN_s {T : es_M} {g W p d k : Int} (k0 : 0 ≤ k) : mlN T g W p d (k + 1).toNat = ifc (due T W d k) (min (mlN T g W p d k.toNat) (wyF T p (poF T k) + rmF T 0 g W (poF T k) (wth d (k / 2)))) (mlN T g W p d k.toNat) := by
  rw [toN1 k0]
  show ifc (due T W d (k.toNat : Nat)) (min (mlN T g W p d k.toNat) (wyF T p (poF T (k.toNat : Nat)) + rmF T 0 g W (poF T (k.toNat : Nat)) (wth d ((k.toNat : Nat) / 2)))) (mlN T g W p d k.toNat) = _
  rw [toNI k0]
theorem mlN_nn {T : es_M} (hT : TI T) {g W p d : Int} (hp : isP T p) : ∀ k : Nat, (k : Int) ≤ 2 * T 1 1 → 0 ≤ mlN T g W p d k ∧ mlN T g W p d k ≤ 1000000 := by
  intro k hk
  refine ⟨?_, (mlN_le k).1⟩
  rcases mlN_x (T := T) (g := g) (W := W) (p := p) (d := d) k with h | ⟨j, j1, j2, j3⟩
  · omega
  · have hj := poF_r hT (k := (j : Int)) (by omega) (by omega)
    have hq : isP T (poF T j) := ⟨hj.1, hj.2.1⟩
    have r1 := wyF_r hT hp hq
    have r2 := rm_r hT (c := 0) (g := g) (W := W) (d := wth d (j / 2)) (Or.inr hq)
    omega
section
variable {d : Nat} {Q : Int → es_M → Prop} {T M : es_M}
theorem s_least (hT : TI T) (hL : ∀ p q, isP T p → isP T q → M 61 (p * 36 + q) = wyF T p q) {p q : Int} (hp : isP T p) (hq : isP T q) (h : Q (wyF T p q) M) : es_Call (d + 1) 97 [.inr (.inr 60), .inl p, .inl q] M Q := by
  have hn := hT.n
  apply c_Ways_leastMinutes
  obtain ⟨p1, p2, p3⟩ := w1296 (a := p) (b := q) ⟨hp.1, by have := hp.2; omega⟩ ⟨hq.1, by have := hq.2; omega⟩
  rw [p1, hL p q hp hq]
  exact ⟨⟨p2, p3⟩, h⟩
theorem s_minutesLeft (hT : TI T) (hR : RepC T M) {g W p dn : Int} (hP : prepOK T g M) (hW : M 67 7 = W) (W0 : 0 ≤ W) (W1 : W < 1024) (hp : isP T p) (d0 : 0 ≤ dn) (hd : sub dn W) (d1 : dn < 1024) (hB : tabOK T g W dn M) (h : Q (rmF T 0 g W p dn) M) : es_Call (d + 3) 107 [.inr (.inr 67), .inl p, .inl dn] M Q := by
  obtain ⟨e8, e9, e68, e69, e61⟩ := hP
  have hn := hT.n
  have hv := hT.v
  apply m_Walks_minutesLeft
  intro G hG
  apply k_Walks_minutesLeft_0 hG
  rw [hW]
  refine ⟨fun z => ?_, fun z => ⟨⟨hp.1, by have := hp.2; omega⟩, by rw [e69 p hp, exF_rm hT hp W0, ← z, z]; rw [z] at h; exact h⟩⟩
  rw [← mlN_rm hT hp W0 d0 hd z] at h
  refine es_up (P := fun k => G 21 [lr 67, li p, li dn, li (mlN T g W p dn k.toNat), li k, none, none, none] [] M) (n := 2 * T 1 1) (by omega) ?_ ?_
  · apply k_Walks_minutesLeft_21 hG
    rw [e9]
    exact ⟨fun _ => h, fun z => absurd (Int.le_refl _) z⟩
  · intro k k0 k1 ih
    have mr := mlN_nn hT (g := g) (W := W) (d := dn) hp k.toNat (by omega)
    rw [mlN_s k0] at ih
    have no : ¬ due T W dn k → G 21 [lr 67, li p, li dn, li (mlN T g W p dn k.toNat), li (k + 1), none, none, none] [] M := fun e => by rw [ifc_n e] at ih; exact ih
    have kp := poF_r hT (k := k) (by omega) (by omega)
    have hq : isP T (poF T k) := ⟨kp.1, kp.2.1⟩
    have ah := hT.ah (v := k / 2) (by omega) (by omega)
    have p2 : (2 : Int) ^ (T 1 1).toNat ≤ 1024 := by
      have : (2 : Nat) ^ (T 1 1).toNat ≤ 2 ^ 10 := Nat.pow_le_pow_right (by decide) (by omega)
      have e : ((2 : Nat) ^ (T 1 1).toNat : Nat) = ((2 : Int) ^ (T 1 1).toNat) := by simp
      omega
    have wr := wth_r d0 d1 (v := k / 2) (by omega) (by omega)
    apply k_Walks_minutesLeft_21 hG
    rw [e9, ei_shr1 (by omega) (by omega), w32_1 (k := k) (by omega) (by omega), hW, ei_dif W0 (by omega) d0 (by omega)]
    have fi : es_and (es_and (M 12 (k / 2)) (M 67 7)) (es_xor dn (-1)) = 0 ↔ free T (k / 2) W dn := by
      rw [hR 12 _ rfl, hW]
      exact ei_free ah.2.1 (by omega) W0 (by omega) d0 (by omega)
    rw [ei_or1 d0 (by omega) (by omega) (by omega)]
    have dr : es_dif W.toNat dn.toNat < 2147483648 := es_dif_lt (by omega)
    refine ⟨fun z => absurd z (by omega), fun _ => s_has (by omega) (by omega) (by omega) (by omega) (fun b => es_t1 ⟨by omega, fun nf => ⟨fun _ => no (fun du => nf (fi.mpr du.2.2)), fun w => absurd rfl w⟩, fun fr => ⟨fun w => absurd w (by decide), fun _ => ⟨by omega, fun q => no (fun du => by have := (e68 k k0 k1).1 du.1; omega), fun q => ⟨by omega, ?_⟩⟩⟩⟩) (fun b => es_t0 ⟨fun _ => no (fun du => b ((dif_bit W0 d0).mpr du.2.1)), fun w => absurd rfl w⟩)⟩
    have cd : canDo T k ∧ goes T (poF T k) := by
      by_cases w : canDo T k ∧ goes T (poF T k)
      · exact w
      · exact absurd ((e68 k k0 k1).2 w) q
    have bb := (dif_bit W0 d0).mp b
    have du : due T W dn k := ⟨cd, bb, fi.mp fr⟩
    rw [ifc_y du] at ih
    rw [(e68 k k0 k1).1 cd]
    refine s_least hT e61 hp hq ?_
    have ew : (((dn.toNat ||| 2 ^ (k / 2).toNat : Nat) : Int)) = wth dn (k / 2) := rfl
    rw [ew]
    obtain ⟨x1, x2, x3⟩ := w20480 (a := wth dn (k / 2)) (b := k) wr (by omega)
    have tb := hB (wth dn (k / 2)) k (wth_sub hd bb.1) wr.1 (wth_gt d0 bb.2) k0 k1 (by unfold ebit; rw [wth_b]; simp) cd.1 cd.2
    have r1 := wyF_r hT hp hq
    have r2 := rm_r hT (c := 0) (g := g) (W := W) (d := wth dn (k / 2)) (Or.inr hq)
    rw [x1, tb, w32_s (by omega) (by omega)]
    exact ⟨⟨x2, x3⟩, ih⟩
end
