/-! PAIRS OF CALLS: far. Both sides take the same steps over a table of 144 numbers -/
def d0F (T : es_M) (j : Int) : Int := if j / 12 = j % 12 then 0 else if T 8 j = -1 then 1000000 else lesF T (T 8 j)
def fwN (f : Int → Int) : Nat → Int → Int
  | 0 => f
  | t + 1 => fun j => if j = ((t / 12 % 12 * 12 + t % 12 : Nat) : Int) then min (fwN f t ((t / 12 % 12 * 12 + t % 12 : Nat) : Int)) (fwN f t ((t / 12 % 12 * 12 + t / 144 : Nat) : Int) + fwN f t ((t / 144 * 12 + t % 12 : Nat) : Int)) else fwN f t j
def farF (T : es_M) : Int → Int := fwN (d0F T) 1728
theorem d0F_r {T : es_M} (hT : TI T) {j : Int} (j0 : 0 ≤ j) (j1 : j < 144) : 0 ≤ d0F T j ∧ d0F T j ≤ 1000000 := by
  unfold d0F
  split
  · omega
  · split
    · omega
    · rename_i h
      have := hT.jt (a := j / 12) (b := j % 12) (by omega) (by omega) (by omega) (by omega)
      rw [show j / 12 * 12 + j % 12 = j by omega] at this
      rcases this with z | z
      · exact absurd z h
      · have := les_r hT z.1.1 z.1.2
        omega
theorem fwN_r {f : Int → Int} (hf : ∀ j, 0 ≤ j → j < 144 → 0 ≤ f j ∧ f j ≤ 1000000) : ∀ t, t ≤ 1728 → ∀ j, 0 ≤ j → j < 144 → 0 ≤ fwN f t j ∧ fwN f t j ≤ 1000000 := by
  intro t
  induction t with
  | zero => intro _; exact hf
  | succ t ih =>
    intro ht j j0 j1
    show 0 ≤ (if j = ((t / 12 % 12 * 12 + t % 12 : Nat) : Int) then min (fwN f t ((t / 12 % 12 * 12 + t % 12 : Nat) : Int)) (fwN f t ((t / 12 % 12 * 12 + t / 144 : Nat) : Int) + fwN f t ((t / 144 * 12 + t % 12 : Nat) : Int)) else fwN f t j) ∧ (if j = ((t / 12 % 12 * 12 + t % 12 : Nat) : Int) then min (fwN f t ((t / 12 % 12 * 12 + t % 12 : Nat) : Int)) (fwN f t ((t / 12 % 12 * 12 + t / 144 : Nat) : Int) + fwN f t ((t / 144 * 12 + t % 12 : Nat) : Int)) else fwN f t j) ≤ 1000000
    have i1 := ih (by omega) ((t / 12 % 12 * 12 + t % 12 : Nat) : Int) (by omega) (by omega)
    have i2 := ih (by omega) ((t / 12 % 12 * 12 + t / 144 : Nat) : Int) (by omega) (by omega)
    have i3 := ih (by omega) ((t / 144 * 12 + t % 12 : Nat) : Int) (by omega) (by omega)
    have i4 := ih (by omega) j j0 j1
    split <;> omega
theorem farF_r {T : es_M} (hT : TI T) {j : Int} (j0 : 0 ≤ j) (j1 : j < 144) : 0 ≤ farF T j ∧ farF T j ≤ 1000000 := fwN_r (fun _ => d0F_r hT) 1728 (by decide) j j0 j1
/-- a step's place -/
theorem fw_step {f g : Int → Int} (hf : ∀ j, 0 ≤ j → j < 144 → 0 ≤ f j ∧ f j ≤ 1000000) {y a b : Int} (y0 : 0 ≤ y) (y1 : y < 12) (a0 : 0 ≤ a) (a1 : a < 12) (b0 : 0 ≤ b) (b1 : b < 12) (hg : ∀ j, 0 ≤ j → j < 144 → g j = fwN f (y * 144 + a * 12 + b).toNat j) : ∀ j, 0 ≤ j → j < 144 → (if j = a * 12 + b then min (g (a * 12 + b)) (w32 (g (a * 12 + y) + g (y * 12 + b))) else g j) = fwN f (y * 144 + a * 12 + (b + 1)).toNat j := by
  intro j j0 j1
  obtain ⟨Y, rfl⟩ := Int.eq_ofNat_of_zero_le y0
  obtain ⟨A, rfl⟩ := Int.eq_ofNat_of_zero_le a0
  obtain ⟨B, rfl⟩ := Int.eq_ofNat_of_zero_le b0
  have et : ((Y : Int) * 144 + (A : Int) * 12 + (B : Int)).toNat = Y * 144 + A * 12 + B := by omega
  have et2 : ((Y : Int) * 144 + (A : Int) * 12 + ((B : Int) + 1)).toNat = (Y * 144 + A * 12 + B) + 1 := by omega
  rw [et] at hg
  rw [et2]
  have ht : Y * 144 + A * 12 + B < 1728 := by omega
  generalize hT : Y * 144 + A * 12 + B = t at *
  have h1 : t / 12 % 12 = A := by omega
  have h2 : t % 12 = B := by omega
  have h3 : t / 144 = Y := by omega
  show _ = if j = ((t / 12 % 12 * 12 + t % 12 : Nat) : Int) then min (fwN f t ((t / 12 % 12 * 12 + t % 12 : Nat) : Int)) (fwN f t ((t / 12 % 12 * 12 + t / 144 : Nat) : Int) + fwN f t ((t / 144 * 12 + t % 12 : Nat) : Int)) else fwN f t j
  rw [h1, h2, h3, show ((A * 12 + B : Nat) : Int) = (A : Int) * 12 + B by omega, show ((A * 12 + Y : Nat) : Int) = (A : Int) * 12 + Y by omega, show ((Y * 12 + B : Nat) : Int) = (Y : Int) * 12 + B by omega]
  rw [hg _ (by omega) (by omega), hg _ (by omega) (by omega), hg _ (by omega) (by omega), hg _ j0 j1]
  have r1 := fwN_r hf t (by omega) ((A : Int) * 12 + Y) (by omega) (by omega)
  have r2 := fwN_r hf t (by omega) ((Y : Int) * 12 + B) (by omega) (by omega)
  rw [w32_s (by omega) (by omega)]
section
variable {d : Nat} {Q : Int → es_M → Prop} {T M : es_M}
theorem w144 {a b : Int} (ha : 0 ≤ a ∧ a < 12) (hb : 0 ≤ b ∧ b < 12) : w32 (w32 (a * 12) + b) = a * 12 + b ∧ 0 ≤ a * 12 + b ∧ a * 12 + b < 144 := by
  refine ⟨by unfold w32; omega, by omega, by omega⟩
theorem s_fill76 {v : Int} (h : ∀ M', (∀ c, c ≠ 76 → M' c = M c) → (∀ j, 0 ≤ j → j < 144 → M' 76 j = v) → Q 0 M') : es_Call (d + 1) 290 [.inr (.inr 76), .inl v] M Q := by
  apply m_Arrays_fill_0_76
  intro G hG
  apply k_Arrays_fill_0_76_0 hG
  refine es_up (P := fun k => ∀ M', (∀ c, c ≠ 76 → M' c = M c) → (∀ j, 0 ≤ j → j < k → M' 76 j = v) → G 5 [lr 76, li v, li k, li 144] [] M') (n := 144) (by decide) ?_ ?_ M (fun _ _ => rfl) (fun j j0 j1 => by omega)
  · intro M' f1 f2
    apply k_Arrays_fill_0_76_5 hG
    exact ⟨fun _ => h M' f1 f2, fun z => absurd (Int.le_refl _) z⟩
  · intro k k0 k1 ih M' f1 f2
    apply k_Arrays_fill_0_76_5 hG
    rw [w32_1 (by omega) (by omega)]
    refine ⟨fun z => absurd z (by omega), fun _ => ⟨by omega, ih _ (fun c hc => by rw [es_upd_o c hc, f1 c hc]) (fun j j0 j1 => ?_)⟩⟩
    rw [es_upd_c]
    by_cases e : j = k
    · rw [if_pos e]
    · rw [if_neg e]; exact f2 j j0 (by omega)
theorem rep76 {M' : es_M} (hR : RepC T M) (h : ∀ c, c ≠ 76 → M' c = M c) : RepC T M' := by
  intro c j q
  by_cases e : c = 76
  · subst e; cases q
  · rw [h c e]; exact hR _ _ q
theorem s_measure (hT : TI T) (hR : RepC T M) (h : ∀ M', (∀ c, c ≠ 76 → M' c = M c) → (∀ j, 0 ≤ j → j < 144 → M' 76 j = farF T j) → Q 0 M') : es_Call (d + 2) 132 [.inr (.inr 75)] M Q := by
  apply m_Bounds_measure
  intro G hG
  have hn := hT.n
  have hd := fun j => d0F_r hT (j := j)
  -- the steps
  have L3 : ∀ M', (∀ c, c ≠ 76 → M' c = M c) → (∀ j, 0 ≤ j → j < 144 → M' 76 j = d0F T j) → G 114 [lr 75, li 0, none, none, none] [] M' := by
    refine es_up (P := fun y => ∀ M', (∀ c, c ≠ 76 → M' c = M c) → (∀ j, 0 ≤ j → j < 144 → M' 76 j = fwN (d0F T) (y * 144).toNat j) → G 114 [lr 75, li y, none, none, none] [] M') (n := 12) (by decide) ?_ ?_
    · intro M' f1 f2
      apply k_Bounds_measure_114 hG
      exact ⟨fun _ => h M' f1 f2, fun z => absurd (Int.le_refl _) z⟩
    · intro y y0 y1 ih M' f1 f2
      apply k_Bounds_measure_114 hG
      refine ⟨fun z => absurd z (by omega), fun _ => ?_⟩
      refine es_up (P := fun a => ∀ M', (∀ c, c ≠ 76 → M' c = M c) → (∀ j, 0 ≤ j → j < 144 → M' 76 j = fwN (d0F T) (y * 144 + a * 12).toNat j) → G 122 [lr 75, li y, li a, none, none] [] M') (n := 12) (by decide) ?_ ?_ M' f1 (by rw [show y * 144 + 0 * 12 = y * 144 by omega]; exact f2)
      · intro M' f1 f2
        apply k_Bounds_measure_122 hG
        rw [w32_1 (by omega) (by omega)]
        exact ⟨fun _ => ih M' f1 (by rw [show (y + 1) * 144 = y * 144 + 12 * 12 by omega]; exact f2), fun z => absurd (Int.le_refl _) z⟩
      · intro a a0 a1 ih2 M' f1 f2
        apply k_Bounds_measure_122 hG
        refine ⟨fun z => absurd z (by omega), fun _ => ?_⟩
        refine es_up (P := fun b => ∀ M', (∀ c, c ≠ 76 → M' c = M c) → (∀ j, 0 ≤ j → j < 144 → M' 76 j = fwN (d0F T) (y * 144 + a * 12 + b).toNat j) → G 130 [lr 75, li y, li a, li b, none] [] M') (n := 12) (by decide) ?_ ?_ M' f1 (by rw [show y * 144 + a * 12 + 0 = y * 144 + a * 12 by omega]; exact f2)
        · intro M' f1 f2
          apply k_Bounds_measure_130 hG
          rw [w32_1 (k := a) (by omega) (by omega)]
          exact ⟨fun _ => ih2 M' f1 (by rw [show y * 144 + (a + 1) * 12 = y * 144 + a * 12 + 12 by omega]; exact f2), fun z => absurd (Int.le_refl _) z⟩
        · intro b b0 b1 ih3 M' f1 f2
          apply k_Bounds_measure_130 hG
          obtain ⟨p1, p2, p3⟩ := w144 ⟨a0, a1⟩ ⟨y0, y1⟩
          obtain ⟨q1, q2, q3⟩ := w144 ⟨y0, y1⟩ ⟨b0, b1⟩
          obtain ⟨r1, r2, r3⟩ := w144 ⟨a0, a1⟩ ⟨b0, b1⟩
          rw [p1, q1, r1, w32_1 (k := b) (by omega) (by omega)]
          refine ⟨fun z => absurd z (by omega), fun _ => ⟨⟨p2, p3⟩, ⟨q2, q3⟩, ⟨r2, r3⟩, ⟨r2, r3⟩, ih3 _ (fun c hc => by rw [es_upd_o c hc, f1 c hc]) (fun j j0 j1 => ?_)⟩⟩
          rw [es_upd_c]
          exact fw_step hd y0 y1 a0 a1 b0 b1 f2 j j0 j1
  -- the streets
  have L2 : ∀ M', (∀ c, c ≠ 76 → M' c = M c) → (∀ j, 0 ≤ j → j < 144 → M' 76 j = if j / 12 = j % 12 then 0 else 1000000) → G 37 [lr 75, li 0, none, none, none] [] M' := by
    intro M' f1 f2
    refine es_up (P := fun k => ∀ M', (∀ c, c ≠ 76 → M' c = M c) → (∀ j, 0 ≤ j → j < 144 → M' 76 j = if j / 12 = j % 12 then 0 else if T 8 j = -1 ∨ k ≤ T 8 j then 1000000 else lesF T (T 8 j)) → G 37 [lr 75, li k, none, none, none] [] M') hn.1 ?_ ?_ M' f1 ?_
    · intro M' f1 f2
      apply k_Bounds_measure_37 hG
      rw [(rep76 hR f1) 1 0 rfl]
      refine ⟨fun _ => L3 M' f1 (fun j j0 j1 => ?_), fun z => absurd (Int.le_refl _) z⟩
      rw [f2 j j0 j1]
      unfold d0F
      have := hT.jt (a := j / 12) (b := j % 12) (by omega) (by omega) (by omega) (by omega)
      rw [show j / 12 * 12 + j % 12 = j by omega] at this
      by_cases e1 : j / 12 = j % 12
      · rw [if_pos e1, if_pos e1]
      · rw [if_neg e1, if_neg e1]
        by_cases e2 : T 8 j = -1
        · rw [if_pos e2, if_pos (Or.inl e2)]
        · rw [if_neg e2, if_neg (by omega)]
    · intro k k0 k1 ih M' f1 f2
      have hR' := rep76 hR f1
      obtain ⟨a1, a2, a3, -⟩ := hT.st k0 k1
      obtain ⟨j1, j2⟩ := hT.js k0 k1
      apply k_Bounds_measure_37 hG
      obtain ⟨p1, p2, p3⟩ := w144 a1 a2
      obtain ⟨q1, q2, q3⟩ := w144 a2 a1
      rw [hR' 1 0 rfl, hR' 2 _ rfl, hR' 3 _ rfl, p1, q1, w32_1 (k := k) (by omega) (by omega)]
      refine ⟨fun z => absurd z (by omega), fun _ => ⟨by omega, by omega, s_lesser hR' k0 (by omega) ⟨⟨p2, p3⟩, s_lesser (hR'.upd rfl) k0 (by omega) ⟨⟨q2, q3⟩, ih _ (fun c hc => by rw [es_upd_o c hc, es_upd_o c hc, f1 c hc]) (fun j j0 j1' => ?_)⟩⟩⟩⟩
      rw [es_upd_c, es_upd_c]
      have jt := hT.jt (a := j / 12) (b := j % 12) (by omega) (by omega) (by omega) (by omega)
      rw [show j / 12 * 12 + j % 12 = j by omega] at jt
      by_cases e1 : j = T 3 k * 12 + T 2 k
      · rw [if_pos e1, if_neg (by omega), e1, j2, if_neg (by omega)]
      · rw [if_neg e1]
        by_cases e2 : j = T 2 k * 12 + T 3 k
        · rw [if_pos e2, if_neg (by omega), e2, j1, if_neg (by omega)]
        · rw [if_neg e2, f2 j j0 j1']
          have nk : T 8 j ≠ k := by
            intro z
            rcases jt with w | ⟨-, w⟩
            · omega
            · rw [z] at w
              omega
          by_cases e3 : j / 12 = j % 12
          · rw [if_pos e3, if_pos e3]
          · rw [if_neg e3, if_neg e3]
            by_cases e4 : T 8 j = -1 ∨ k ≤ T 8 j
            · rw [if_pos e4, if_pos (by omega)]
            · rw [if_neg e4, if_neg (by omega)]
    · intro j j0 j1
      rw [f2 j j0 j1]
      by_cases e1 : j / 12 = j % 12
      · rw [if_pos e1, if_pos e1]
      · rw [if_neg e1, if_neg e1]
        have jt := hT.jt (a := j / 12) (b := j % 12) (by omega) (by omega) (by omega) (by omega)
        rw [show j / 12 * 12 + j % 12 = j by omega] at jt
        rw [if_pos (by omega)]
  apply k_Bounds_measure_0 hG
  refine s_fill76 (fun M1 f1 f2 => ?_)
  refine es_up (P := fun k => ∀ M', (∀ c, c ≠ 76 → M' c = M c) → (∀ j, 0 ≤ j → j < 144 → M' 76 j = if j / 12 = j % 12 ∧ j / 12 < k then 0 else 1000000) → G 11 [lr 75, li k, none, none, none] [] M') (n := 12) (by decide) ?_ ?_ M1 f1 (fun j j0 j1 => by rw [f2 j j0 j1, if_neg (by omega)])
  · intro M' f1 f2
    apply k_Bounds_measure_11 hG
    refine ⟨fun _ => L2 M' f1 (fun j j0 j1 => ?_), fun z => absurd (Int.le_refl _) z⟩
    rw [f2 j j0 j1]
    by_cases e : j / 12 = j % 12
    · rw [if_pos e, if_pos ⟨e, by omega⟩]
    · rw [if_neg e, if_neg (fun z => e z.1)]
  · intro k k0 k1 ih M' f1 f2
    apply k_Bounds_measure_11 hG
    obtain ⟨p1, p2, p3⟩ := w144 ⟨k0, k1⟩ ⟨k0, k1⟩
    rw [p1, w32_1 (k := k) (by omega) (by omega)]
    refine ⟨fun z => absurd z (by omega), fun _ => ⟨⟨p2, p3⟩, ih _ (fun c hc => by rw [es_upd_o c hc, f1 c hc]) (fun j j0 j1 => ?_)⟩⟩
    rw [es_upd_c]
    by_cases e : j = k * 12 + k
    · rw [if_pos e, if_pos (by omega)]
    · rw [if_neg e, f2 j j0 j1]
      by_cases e2 : j / 12 = j % 12 ∧ j / 12 < k
      · rw [if_pos e2, if_pos (by omega)]
      · rw [if_neg e2, if_neg (by omega)]
end
