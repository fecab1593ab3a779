/-! PAIRS OF CALLS: level -/
def wkF (T : es_M) (k s : Int) : Int := if ebit k (T 1 1 - 1 - s) then 1 else 0
def lxi (T : es_M) (w w' : Int → Int) : Prop := ∃ s, 0 ≤ s ∧ s < T 1 1 ∧ w s = 0 ∧ w' s = 1 ∧ ∀ i, 0 ≤ i → i < s → w i = w' i
theorem bits_ex (g : Nat → Bool) : ∀ m : Nat, ∃ k : Nat, k < 2 ^ m ∧ ∀ i, i < m → k.testBit i = g i
  | 0 => ⟨0, by decide, fun i hi => by omega⟩
  | m + 1 => by
    obtain ⟨k, h1, h2⟩ := bits_ex g m
    have p1 : 2 ^ m < 2 ^ (m + 1) := Nat.pow_lt_pow_right (by decide) (by omega)
    by_cases z : g m = true
    · refine ⟨k ||| 2 ^ m, Nat.or_lt_two_pow (by omega) p1, fun i hi => ?_⟩
      rw [Nat.testBit_or, Nat.testBit_two_pow]
      by_cases e : m = i
      · subst e; rw [z]; simp
      · rw [h2 i (by omega), decide_eq_false e, Bool.or_false]
    · refine ⟨k, by omega, fun i hi => ?_⟩
      by_cases e : i = m
      · subst e
        rw [Nat.testBit_lt_two_pow h1]
        cases h : g i with
        | true => exact absurd h z
        | false => rfl
      · exact h2 i (by omega)
theorem lt_bit {a c i : Nat} (h0 : a.testBit i = false) (h1 : c.testBit i = true) (h : ∀ j, i < j → a.testBit j = c.testBit j) : a < c := by
  have e : a / 2 ^ (i + 1) = c / 2 ^ (i + 1) := by
    apply Nat.eq_of_testBit_eq
    intro j
    have sh : ∀ x : Nat, (x / 2 ^ (i + 1)).testBit j = x.testBit (i + 1 + j) := fun x => by
      rw [Nat.testBit_eq_decide_div_mod_eq, Nat.testBit_eq_decide_div_mod_eq, Nat.div_div_eq_div_mul, ← Nat.pow_add]
    rw [sh, sh, h _ (by omega)]
  rw [Nat.testBit_eq_decide_div_mod_eq] at h0 h1
  have h0 := of_decide_eq_false h0
  have h1 := of_decide_eq_true h1
  have d : ∀ x : Nat, x / 2 ^ (i + 1) = x / 2 ^ i / 2 := fun x => by rw [Nat.pow_succ, Nat.div_div_eq_div_mul]
  rw [d, d] at e
  have lt : a / 2 ^ i < c / 2 ^ i := by omega
  exact Nat.lt_of_div_lt_div lt
theorem wk_ex {T : es_M} (hT : TI T) {w : Int → Int} (hw : ∀ s, 0 ≤ s → s < T 1 1 → w s = 0 ∨ w s = 1) : ∃ k, 0 ≤ k ∧ k < 2 ^ (T 1 1).toNat ∧ smW T (wkF T k) w := by
  have hv := hT.v
  obtain ⟨k, h1, h2⟩ := bits_ex (fun i => decide (w (T 1 1 - 1 - i) = 1)) (T 1 1).toNat
  refine ⟨k, by omega, by have : ((2 ^ (T 1 1).toNat : Nat) : Int) = 2 ^ (T 1 1).toNat := by simp
                          omega, fun s s0 s1 => ?_⟩
  unfold wkF ebit
  have e := h2 (T 1 1 - 1 - s).toNat (by omega)
  have e2 : T 1 1 - 1 - (((T 1 1 - 1 - s).toNat : Nat) : Int) = s := by omega
  simp only [e2] at e
  rw [Int.toNat_natCast, e]
  rcases hw s s0 s1 with z | z
  · rw [z]; rfl
  · rw [z]; rfl
/-- the first of two numbers has the first difference the right way -/
theorem wk_lex {T : es_M} (hT : TI T) {k k' : Int} (k0 : 0 ≤ k) (k0' : 0 ≤ k') (h1 : k < 2 ^ (T 1 1).toNat) (h1' : k' < 2 ^ (T 1 1).toNat) (le : k ≤ k') : smW T (wkF T k) (wkF T k') ∨ lxi T (wkF T k) (wkF T k') := by
  have hv := hT.v
  have key : ∀ j : Nat, (j : Int) ≤ T 1 1 → (∀ s, 0 ≤ s → s < (j : Int) → wkF T k s = wkF T k' s) ∨ lxi T (wkF T k) (wkF T k') := by
    intro j
    induction j with
    | zero => intro _; exact Or.inl (fun s s0 s1 => by omega)
    | succ j ih =>
      intro hj
      rcases ih (by omega) with h | h
      · by_cases e : wkF T k j = wkF T k' j
        · refine Or.inl (fun s s0 s1 => ?_)
          by_cases z : s = (j : Int)
          · rw [z]; exact e
          · exact h s s0 (by omega)
        · refine Or.inr ⟨j, by omega, by omega, ?_⟩
          have pw : ((2 ^ (T 1 1).toNat : Nat) : Int) = 2 ^ (T 1 1).toNat := by simp
          by_cases b1 : ebit k (T 1 1 - 1 - j)
          · exfalso
            have b2 : ¬ ebit k' (T 1 1 - 1 - j) := fun z => e (by unfold wkF; rw [if_pos b1, if_pos z])
            have lt : k'.toNat < k.toNat := by
              refine lt_bit (i := (T 1 1 - 1 - j).toNat) (by simpa [ebit] using b2) b1 (fun i hi => ?_)
              by_cases z : (i : Int) < T 1 1
              · have x := h (T 1 1 - 1 - i) (by omega) (by omega)
                unfold wkF ebit at x
                rw [show T 1 1 - 1 - (T 1 1 - 1 - (i : Int)) = i by omega, Int.toNat_natCast] at x
                cases c1 : k.toNat.testBit i <;> cases c2 : k'.toNat.testBit i <;> simp [c1, c2] at x ⊢
              · have p1 : 2 ^ (T 1 1).toNat ≤ 2 ^ i := Nat.pow_le_pow_right (by decide) (by omega)
                rw [Nat.testBit_lt_two_pow (by omega), Nat.testBit_lt_two_pow (by omega)]
            omega
          · have b2 : ebit k' (T 1 1 - 1 - j) := by
              by_cases z : ebit k' (T 1 1 - 1 - j)
              · exact z
              · exact absurd (by unfold wkF; rw [if_neg b1, if_neg z]) e
            refine ⟨by unfold wkF; rw [if_neg b1], by unfold wkF; rw [if_pos b2], fun i i0 i1 => h i i0 i1⟩
      · exact Or.inr h
  rcases key (T 1 1).toNat (by omega) with h | h
  · exact Or.inl (fun s s0 s1 => h s s0 (by omega))
  · exact Or.inr h
section
variable {d : Nat} {Q : Int → es_M → Prop} {T M : es_M}
theorem s_m_level (hT : TI T) (hR : RepM T M) (kn : (∀ w x, ACs T w x → 1000000 ≤ x) → ∀ M', ofP (es_upd M 91 0 0) M' → Q (-2) M')
    (ky : ∀ w0 L, L < 1000000 → ACs T w0 L → (∀ w x, ACs T w x → L ≤ x ∧ (x = L → smW T w0 w ∨ lxi T w0 w)) → ∀ M', (∀ c : Nat, ¬ (114 ≤ c ∧ c ≤ 117) → c ≠ 91 → c ≠ 92 → M' c = M c) → (∀ j, j ≠ 0 → j ≠ 1 → M' 91 j = M 91 j) → M' 91 1 = T 1 1 → (∀ i, 0 ≤ i → i < T 1 1 → M' 92 i = w0 i) → Q L M') : es_Call (d + 5) 217 [.inr (.inr 91)] M Q := by
  have hv := hT.v
  apply m_Model_level
  intro G hG
  apply k_Model_level_0 hG
  have hR0 : RepM T (es_upd M 91 0 0) := hR.upd rfl
  have pw := pow31 (k := T 1 1) hv.1 (by omega)
  have p10 : (2 : Int) ^ (T 1 1).toNat ≤ 1024 := by
    have := pow_le (k := (T 1 1).toNat) (n := 10) (by omega)
    have e : (2 : Int) ^ 10 = 1024 := by decide
    omega
  have sh : es_shl 1 (T 1 1) = 2 ^ (T 1 1).toNat := ei_shl hv.1 (by omega)
  have all : ∀ {L : Int}, (∀ k', 0 ≤ k' → k' < 2 ^ (T 1 1).toNat → ∀ x, ACs T (wkF T k') x → L ≤ x) → ∀ w x, ACs T w x → L ≤ x := by
    intro L h w x ac
    obtain ⟨k', a, b, c⟩ := wk_ex hT (fun s s0 s1 => (ac.1 s s0 s1).1)
    exact h k' a b x (ACs_c (fun s s0 s1 => (c s s0 s1).symm) ac)
  have loop : ∀ (r : Nat) (k best least : Int) (M1 : es_M), 0 ≤ k → k + r = 2 ^ (T 1 1).toNat → ofP (es_upd M 91 0 0) M1 → ((best = -1 ∧ least = 1000000 ∧ ∀ k', 0 ≤ k' → k' < k → ∀ x, ACs T (wkF T k') x → 1000000 ≤ x) ∨ (∃ k0, (0 ≤ k0 ∧ k0 < k) ∧ (0 ≤ best ∧ best < 1024) ∧ smW T (wyB best) (wkF T k0) ∧ least < 1000000 ∧ ACs T (wkF T k0) least ∧ ∀ k', 0 ≤ k' → k' < k → ∀ x, ACs T (wkF T k') x → least ≤ x ∧ (x = least → k0 ≤ k'))) → G 13 [lr 91, li best, li least, li k, none, none] [] M1 := by
    intro r
    induction r with
    | zero =>
      intro k best least M1 k0 kr o1 inv
      apply k_Model_level_13 hG
      have hR1 := ofP.rep hR0 o1
      rw [hR1 91 23 rfl, hv.2.2, sh]
      have ek : k = 2 ^ (T 1 1).toNat := by omega
      refine ⟨fun _ => ⟨fun b0 => ?_, fun b0 => ?_⟩, fun z => absurd (by omega) z⟩
      · rcases inv with ⟨e, -⟩ | ⟨q0, q1, q2, q3, q4, q5, q6⟩
        · omega
        · refine es_up (P := fun j => ∀ M4, (∀ c : Nat, c ≠ 91 → c ≠ 92 → M4 c = M1 c) → (∀ j, j ≠ 1 → M4 91 j = M1 91 j) → M4 91 1 = j → (∀ i, 0 ≤ i → i < j → M4 92 i = wkF T q0 i) → G 113 [lr 91, li best, li least, li j, none, none] [] M4) (n := T 1 1) hv.1 ?_ ?_ _ (fun c a b => es_upd_o c a) (fun j a => es_upd_j a) es_upd_s (fun i i0 i1 => by omega)
          · intro M4 u1 u2 u3 u4
            apply k_Model_level_113 hG
            have e23 : M4 91 23 = T 1 1 := by rw [u2 23 (by decide), hR1 91 23 rfl, hv.2.2]
            rw [e23]
            refine ⟨fun _ => ky (wkF T q0) least q4 q5 (fun w x ac => ?_) M4 (fun c a b e => ?_) (fun j a b => ?_) u3 u4, fun z => absurd (Int.le_refl _) z⟩
            · obtain ⟨k', a, b, c⟩ := wk_ex hT (fun s s0 s1 => (ac.1 s s0 s1).1)
              have y := q6 k' a (by omega) x (ACs_c (fun s s0 s1 => (c s s0 s1).symm) ac)
              refine ⟨y.1, fun e => ?_⟩
              rcases wk_lex hT q1.1 a (by omega) b (y.2 e) with z | ⟨s, s0, s1, z1, z2, z3⟩
              · exact Or.inl (fun s s0 s1 => (z s s0 s1).trans (c s s0 s1))
              · exact Or.inr ⟨s, s0, s1, z1, by rw [← c s s0 s1]; exact z2, fun i i0 i1 => (z3 i i0 i1).trans (c i i0 (by omega))⟩
            · rw [u1 c b e, o1 c a, es_upd_o c b]
            · rw [u2 j b, o1 91 (by decide), es_upd_j a]
          · intro j j0 j1 ih M4 u1 u2 u3 u4
            apply k_Model_level_113 hG
            have e23 : M4 91 23 = T 1 1 := by rw [u2 23 (by decide), hR1 91 23 rfl, hv.2.2]
            rw [e23, w32_1 (by omega) (by omega)]
            refine ⟨fun z => absurd z (by omega), fun _ => ?_⟩
            have wj := q3 j j0 j1
            have put : ∀ y : Int, y = wkF T q0 j → es_Call (d + 4) 203 [.inr (.inr 91), .inl y] M4 (fun _ M5 => G 113 [lr 91, li best, li least, li (j + 1), none, none] [] M5) := by
              intro y hy
              refine s_m_enters' (by omega) (by omega) (fun M5 v1 v2 v3 v4 v5 => ih M5 (fun c a b => by rw [v1 c a b]; exact u1 c a b) (fun j' a => by rw [v2 j' a]; exact u2 j' a) (by omega) (fun i i0 i1 => ?_))
              by_cases e : i = j
              · rw [e, ← u3, v4, hy, u3]
              · rw [v5 i (by omega)]; exact u4 i i0 (by omega)
            refine s_m_has q2.1 (by omega) j0 (by omega) (fun hb => s_m_truth (fun _ => put 1 ?_) (fun z => absurd z (by decide))) (fun hb => s_m_truth (fun z => absurd rfl z) (fun _ => put 0 ?_))
            · rw [← wj]; unfold wyB; rw [if_pos hb]
            · rw [← wj]; unfold wyB; rw [if_neg hb]
      · rcases inv with ⟨-, -, h⟩ | ⟨q0, -, q2, -⟩
        · exact kn (all (fun k' a b x ac => h k' a (by omega) x ac)) M1 o1
        · omega
    | succ r ih =>
      intro k best least M1 k0 kr o1 inv
      apply k_Model_level_13 hG
      have hR1 := ofP.rep hR0 o1
      rw [hR1 91 23 rfl, hv.2.2, sh]
      refine ⟨fun z => absurd z (by omega), fun _ => ?_⟩
      have inner : ∀ (r2 : Nat) (v b : Int), 0 ≤ v → v + r2 = T 1 1 → (0 ≤ b ∧ b < 1024) → (∀ s, 0 ≤ s → s < T 1 1 → (ebit b s ↔ (s < v ∧ ebit k (T 1 1 - 1 - s)))) → G 29 [lr 91, li best, li least, li k, li b, li v] [] M1 := by
        intro r2
        induction r2 with
        | zero =>
          intro v b v0 vr b12 hb
          apply k_Model_level_29 hG
          rw [hR1 91 23 rfl, hv.2.2, w32_1 (k := k) (by omega) (by omega)]
          refine ⟨fun _ => ?_, fun z => absurd (by omega) z⟩
          have sw : smW T (wyB b) (wkF T k) := fun s s0 s1 => by
            unfold wyB wkF
            have x := hb s s0 s1
            by_cases z : ebit k (T 1 1 - 1 - s)
            · rw [if_pos (x.mpr ⟨by omega, z⟩), if_pos z]
            · rw [if_neg (fun y => z (x.mp y).2), if_neg z]
          refine s_m_levelBy hT hR1 b12.1 b12.2 (fun y M2 o2 y1 y2 y3 => ?_)
          have o12 : ofP (es_upd M 91 0 0) M2 := fun c hc => by rw [o2 c hc]; exact o1 c hc
          have y3' : ∀ x, ACs T (wkF T k) x → y ≤ x := fun x ac => y3 x (ACs_c (fun s s0 s1 => (sw s s0 s1).symm) ac)
          refine ⟨fun z => ?_, fun z => ?_⟩
          · refine ih (k + 1) best least M2 (by omega) (by omega) o12 ?_
            rcases inv with ⟨e1, e2, h⟩ | ⟨q0, q1, q2, q3, q4, q5, q6⟩
            · refine Or.inl ⟨e1, e2, fun k' a c x ac => ?_⟩
              by_cases e : k' = k
              · rw [e] at ac; have := y3' x ac; omega
              · exact h k' a (by omega) x ac
            · refine Or.inr ⟨q0, ⟨q1.1, by omega⟩, q2, q3, q4, q5, fun k' a c x ac => ?_⟩
              by_cases e : k' = k
              · rw [e] at ac; have := y3' x ac; exact ⟨by omega, fun _ => by omega⟩
              · exact q6 k' a (by omega) x ac
          · refine ih (k + 1) b y M2 (by omega) (by omega) o12 ?_
            have yl : y < 1000000 := by
              rcases inv with ⟨-, e2, -⟩ | ⟨q0, -, -, -, q4, -⟩ <;> omega
            refine Or.inr ⟨k, ⟨k0, by omega⟩, b12, sw, yl, ACs_c sw (y2 yl), fun k' a c x ac => ?_⟩
            by_cases e : k' = k
            · rw [e] at ac ⊢; exact ⟨y3' x ac, fun _ => Int.le_refl _⟩
            · rcases inv with ⟨-, e2, h⟩ | ⟨q0, -, -, -, -, -, q6⟩
              · have := h k' a (by omega) x ac; exact ⟨by omega, fun _ => by omega⟩
              · have := (q6 k' a (by omega) x ac).1; exact ⟨by omega, fun _ => by omega⟩
        | succ r2 ih2 =>
          intro v b v0 vr b12 hb
          apply k_Model_level_29 hG
          rw [hR1 91 23 rfl, hv.2.2, w32_s (k := T 1 1 - 1) (by omega) (by omega), w32_s (k := T 1 1 - 1 - v) (by omega) (by omega), w32_1 (k := v) (by omega) (by omega)]
          refine ⟨fun z => absurd z (by omega), fun _ => ?_⟩
          refine s_m_has k0 (by omega) (by omega) (by omega) (fun hk => es_t1 ?_) (fun hk => es_t0 ?_)
          · obtain ⟨x, -, x1, x2, x3⟩ := bit_put (b := b) (s := v) (r := 1) b12.1 b12.2 v0 (by omega) (Or.inr rfl)
            rw [x1 rfl]
            refine ih2 (v + 1) x (by omega) (by omega) x2 (fun s s0 s1 => ?_)
            rw [x3 s s0]
            by_cases e : s = v
            · rw [if_pos e, e]; exact ⟨fun _ => ⟨by omega, hk⟩, fun _ => rfl⟩
            · rw [if_neg e, hb s s0 s1]
              exact ⟨fun z => ⟨by omega, z.2⟩, fun z => ⟨by omega, z.2⟩⟩
          · rw [ei_or0 b12.1 (by omega)]
            refine ih2 (v + 1) b (by omega) (by omega) b12 (fun s s0 s1 => ?_)
            rw [hb s s0 s1]
            refine ⟨fun z => ⟨by omega, z.2⟩, fun z => ⟨?_, z.2⟩⟩
            by_cases e : s = v
            · rw [e] at z; exact absurd z.2 hk
            · omega
      refine inner (T 1 1).toNat 0 0 (by decide) (by omega) (by decide) (fun s s0 s1 => ⟨fun z => absurd z (ebit0 s), fun z => by omega⟩)
  exact loop (2 ^ (T 1 1).toNat : Int).toNat 0 (-1) 1000000 _ (by decide) (by omega) (fun _ _ => rfl) (Or.inl ⟨rfl, rfl, fun k' a b => by omega⟩)
end
/-- two orders in which the first is the first: it's the same -/
theorem lex_no {T : es_M} {q w w' : Int → Int} (hq : QPs T q) (h : okW T w) (h' : okW T w') (a : lxq T q w w') (b : lxi T w' w) : False := by
  obtain ⟨j, j0, j1, a1, a2, a3⟩ := a
  obtain ⟨s, s0, s1, b1, b2, b3⟩ := b
  have u := hq.1 j j0 j1
  by_cases c1 : q j < s
  · have := b3 (q j) u.1 c1; omega
  · by_cases c2 : q j = s
    · rw [c2] at a1; omega
    · obtain ⟨i, i0, i1, e⟩ := hq.2.2.1 s s0 s1
      have fu : frB T (q j) = true := frB_t ⟨by rw [← a1]; exact (h (q j) u.1 u.2).2, by rw [← a2]; exact (h' (q j) u.1 u.2).2⟩
      have fs : frB T (q i) = true := by rw [e]; exact frB_t ⟨by rw [← b1]; exact (h' s s0 s1).2, by rw [← b2]; exact (h s s0 s1).2⟩
      have lt := hq.2.2.2 j i j0 j1 i0 i1 fu fs (by omega)
      have := a3 i i0 lt
      rw [e] at this
      omega
theorem pers_lv {c : Nat} {j : Int} (h : pers c j = true) : ¬ (79 ≤ c ∧ c ≤ 83) ∧ c ≠ 58 ∧ c ≠ 59 ∧ c ≠ 92 ∧ ¬ (114 ≤ c ∧ c ≤ 117) := by
  refine ⟨fun y => ?_, fun y => ?_, fun y => ?_, fun y => ?_, fun y => ?_⟩
  · rcases (show c = 79 ∨ c = 80 ∨ c = 81 ∨ c = 82 ∨ c = 83 by omega) with e | e | e | e | e
    · have : pers 79 j = false := rfl
      rw [e, this] at h; cases h
    · have : pers 80 j = false := rfl
      rw [e, this] at h; cases h
    · have : pers 81 j = false := rfl
      rw [e, this] at h; cases h
    · have : pers 82 j = false := rfl
      rw [e, this] at h; cases h
    · have : pers 83 j = false := rfl
      rw [e, this] at h; cases h
  · have : pers 58 j = false := rfl
    rw [y, this] at h; cases h
  · have : pers 59 j = false := rfl
    rw [y, this] at h; cases h
  · have : pers 92 j = false := rfl
    rw [y, this] at h; cases h
  · rcases (show c = 114 ∨ c = 115 ∨ c = 116 ∨ c = 117 by omega) with e | e | e | e
    · have : pers 114 j = false := rfl
      rw [e, this] at h; cases h
    · have : pers 115 j = false := rfl
      rw [e, this] at h; cases h
    · have : pers 116 j = false := rfl
      rw [e, this] at h; cases h
    · have : pers 117 j = false := rfl
      rw [e, this] at h; cases h
section
variable {d : Nat} {M : es_M}
theorem P_level (h : Inv M) : Pair (d + 30) 21 217 [] M := by
  have hT := h.1
  have hv := hT.v
  have rp : ∀ M1, ofLs M M1 → RepM M M1 := fun M1 f1 c j z => by
    have y := pers_lv (c := c) (j := j) (by unfold pers; rw [z]; cases persC c j <;> rfl)
    rw [f1 c y.1 y.2.1 y.2.2.1]
  refine c_EveryStreet_level (s_solve hT (RepC.rf M) (fun no M1 f1 e58 e59 => ?_) (fun q w0 L qp hL ac best M1 f1 e58 e59 => ?_))
  · refine s_m_level hT (rp M1 f1) (fun _ M2 o2 => ⟨rfl, ?_⟩) (fun w0 L hL ac _ => absurd (no w0 L ac) (by omega))
    have cl : ∀ c : Nat, ¬ (114 ≤ c ∧ c ≤ 117) → ¬ (79 ≤ c ∧ c ≤ 83) → c ≠ 58 → c ≠ 59 → c ≠ 91 → M2 c = M c := fun c a b e f g => by rw [o2 c a, es_upd_o c g]; exact f1 c b e f
    have c91 : ∀ j, j ≠ 0 → M2 91 j = M 91 j := fun j a => by rw [o2 91 (by decide), es_upd_j a, f1 91 (by decide) (by decide) (by decide)]
    refine h.same (fun c j z => ?_) (by rw [o2 58 (by decide), es_upd_o 58 (by decide), e58]) (by rw [o2 59 (by decide), es_upd_o 59 (by decide), e59]) (by rw [cl 60 (by decide) (by decide) (by decide) (by decide) (by decide)]) (cl 61 (by decide) (by decide) (by decide) (by decide) (by decide)) (cl 62 (by decide) (by decide) (by decide) (by decide) (by decide)) (cl 63 (by decide) (by decide) (by decide) (by decide) (by decide)) (c91 1 (by decide)) (cl 92 (by decide) (by decide) (by decide) (by decide) (by decide))
    have y := pers_lv z
    by_cases e : c = 91
    · subst e
      have := pers91 z
      exact c91 j (by omega)
    · rw [cl c y.2.2.2.2 y.1 y.2.1 y.2.2.1 e]
  · refine s_m_level hT (rp M1 f1) (fun no M2 o2 => absurd (no w0 L ac) (by omega)) (fun w1 L1 hL1 ac1 best1 M2 g1 g2 g3 g4 => ?_)
    have l1 := (best w1 L1 ac1).1
    have l2 := (best1 w0 L ac).1
    have eL : L1 = L := by omega
    have sw : smW M w0 w1 := by
      rcases (best w1 L1 ac1).2 eL with z | z
      · exact z
      · rcases (best1 w0 L ac).2 eL.symm with y | y
        · exact fun s s0 s1 => (y s s0 s1).symm
        · exact (lex_no qp ac.1 ac1.1 z y).elim
    refine ⟨eL, ?_⟩
    have cl : ∀ c : Nat, ¬ (114 ≤ c ∧ c ≤ 117) → ¬ (79 ≤ c ∧ c ≤ 83) → c ≠ 58 → c ≠ 59 → c ≠ 91 → c ≠ 92 → M2 c = M c := fun c a b e f g i => by rw [g1 c a g i]; exact f1 c b e f
    have c91 : ∀ j, j ≠ 0 → j ≠ 1 → M2 91 j = M 91 j := fun j a b => by rw [g2 j a b, f1 91 (by decide) (by decide) (by decide)]
    refine h.ask (fun c j z => ?_) ⟨⟨?_, ?_, ?_⟩, fun i i0 i1 => ?_⟩ (h.2.2.congr rfl rfl (by rw [cl 60 (by decide) (by decide) (by decide) (by decide) (by decide) (by decide)]) (cl 61 (by decide) (by decide) (by decide) (by decide) (by decide) (by decide)) (cl 62 (by decide) (by decide) (by decide) (by decide) (by decide) (by decide)) (cl 63 (by decide) (by decide) (by decide) (by decide) (by decide) (by decide)))
    · have y := pers_lv z
      by_cases e : c = 91
      · subst e
        have := pers91 z
        exact c91 j (by omega) (by omega)
      · rw [cl c y.2.2.2.2 y.1 y.2.1 y.2.2.1 e y.2.2.2.1]
    · rw [g3, g1 58 (by decide) (by decide) (by decide), e58]
    · rw [g1 58 (by decide) (by decide) (by decide), e58]; exact hv.1
    · rw [g1 58 (by decide) (by decide) (by decide), e58]; omega
    · rw [g1 58 (by decide) (by decide) (by decide), e58] at i1
      rw [g4 i i0 i1, g1 59 (by decide) (by decide) (by decide), e59 i i0 i1, sw i i0 i1]
end
