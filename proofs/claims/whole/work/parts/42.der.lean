/-! what follows of a town: services and passes -/
theorem TI.must {T : es_M} (h : TI T) {s : Int} (h0 : 0 ≤ s) (h1 : s < T 1 0) : 0 ≤ T 6 s ∧ T 6 s ≤ 2 := (h.st h0 h1).2.2.2.2.2.2.2.2.2.1
theorem preS_le {T : es_M} (h : TI T) : ∀ (b a : Nat), a ≤ b → (b : Int) ≤ T 1 0 → preS T a ≤ preS T b
  | 0, a, hab, hb => by have : a = 0 := by omega
                        subst this; exact Int.le_refl _
  | b + 1, a, hab, hb => by
    by_cases e : a = b + 1
    · subst e; exact Int.le_refl _
    · have h1 := preS_le h b a (by omega) (by omega)
      have h2 := (h.must (s := (b : Int)) (by omega) (by omega)).1
      show preS T a ≤ preS T b + T 6 b
      omega
theorem preS_0 {T : es_M} (h : TI T) (a : Nat) (ha : (a : Int) ≤ T 1 0) : 0 ≤ preS T a := preS_le h a 0 (by omega) ha
theorem preS_s {T : es_M} {s : Int} (h0 : 0 ≤ s) : preS T (s + 1).toNat = preS T s.toNat + T 6 s := by
  rw [show (s + 1).toNat = s.toNat + 1 by omega]
  show preS T s.toNat + T 6 (s.toNat : Int) = _
  rw [Int.toNat_of_nonneg h0]
theorem preS_find {T : es_M} (h : TI T) : ∀ (b : Nat), (b : Int) ≤ T 1 0 → ∀ v, 0 ≤ v → v < preS T b → ∃ s k, 0 ≤ s ∧ s < (b : Int) ∧ 0 ≤ k ∧ k < T 6 s ∧ v = preS T s.toNat + k
  | 0, hb, v, h0, h1 => by have : preS T 0 = 0 := rfl
                           omega
  | b + 1, hb, v, h0, h1 => by
    by_cases q : v < preS T b
    · obtain ⟨s, k, a1, a2, a3, a4, a5⟩ := preS_find h b (by omega) v h0 q
      exact ⟨s, k, a1, by omega, a3, a4, a5⟩
    · refine ⟨b, v - preS T b, by omega, by omega, by omega, ?_, ?_⟩
      · have : preS T (b + 1) = preS T b + T 6 b := rfl
        omega
      · rw [Int.toNat_natCast]; omega
/-- a service: its street, its way -/
theorem TI.sf {T : es_M} (h : TI T) {v : Int} (h0 : 0 ≤ v) (h1 : v < T 1 1) : ∃ s k, 0 ≤ s ∧ s < T 1 0 ∧ 0 ≤ k ∧ k < T 6 s ∧ v = preS T s.toNat + k ∧ T 10 v = s ∧ T 11 v = if T 6 s = 1 then 0 else k + 1 := by
  have hn := h.n
  obtain ⟨s, k, a1, a2, a3, a4, a5⟩ := preS_find h (T 1 0).toNat (by omega) v h0 (by rw [← h.nv]; exact h1)
  have a2' : s < T 1 0 := by omega
  obtain ⟨b1, b2⟩ := h.sv a1 a2' k a3 a4
  exact ⟨s, k, a1, a2', a3, a4, a5, by rw [a5]; exact b1, by rw [a5]; exact b2⟩
theorem TI.sr {T : es_M} (h : TI T) {v : Int} (h0 : 0 ≤ v) (h1 : v < T 1 1) : (0 ≤ T 10 v ∧ T 10 v < T 1 0) ∧ (0 ≤ T 11 v ∧ T 11 v ≤ 2) ∧ T 6 (T 10 v) ≠ 0 ∧ (T 11 v = 0 ↔ T 6 (T 10 v) = 1) := by
  obtain ⟨s, k, a1, a2, a3, a4, a5, a6, a7⟩ := h.sf h0 h1
  have hm := h.must a1 a2
  rw [a6, a7]
  by_cases q : T 6 s = 1
  · rw [if_pos q]; refine ⟨⟨a1, a2⟩, by omega, by omega, by simp [q]⟩
  · rw [if_neg q]; exact ⟨⟨a1, a2⟩, by omega, by omega, by constructor <;> intro z <;> omega⟩
/-- a street's services lie below the number of all -/
theorem preS_lt {T : es_M} (h : TI T) {s k : Int} (a1 : 0 ≤ s) (a2 : s < T 1 0) (a3 : 0 ≤ k) (a4 : k < T 6 s) : 0 ≤ preS T s.toNat + k ∧ preS T s.toNat + k < T 1 1 := by
  have h1 := preS_0 h s.toNat (by omega)
  have h2 := preS_le h (T 1 0).toNat (s + 1).toNat (by omega) (by omega)
  rw [preS_s a1, ← h.nv] at h2
  omega
/-- the street of a service, by its number -/
theorem preS_in {T : es_M} (h : TI T) {v : Int} (h0 : 0 ≤ v) (h1 : v < T 1 1) : preS T (T 10 v).toNat ≤ v ∧ v < preS T (T 10 v).toNat + T 6 (T 10 v) := by
  obtain ⟨s, k, a1, a2, a3, a4, a5, a6, a7⟩ := h.sf h0 h1
  rw [a6]; omega
/-- which service a pass does -/
theorem TI.dn {T : es_M} (h : TI T) {p : Int} (h0 : 0 ≤ p) (h1 : p < 36) : (T 13 p = -1 ∨ ((0 ≤ T 13 p ∧ T 13 p < T 1 1) ∧ p < 2 * T 1 0 ∧ isDone T (T 13 p) p)) := by
  have hd := h.db (s := p / 2) (by omega) (by omega)
  by_cases q : p / 2 < T 1 0
  · have hm := h.must (s := p / 2) (by omega) q
    have key : ∀ k, 0 ≤ k → k < T 6 (p / 2) → (T 6 (p / 2) = 1 ∨ k = p % 2) → T 13 p = preS T (p / 2).toNat + k → (T 13 p = -1 ∨ ((0 ≤ T 13 p ∧ T 13 p < T 1 1) ∧ p < 2 * T 1 0 ∧ isDone T (T 13 p) p)) := by
      intro k k0 k1 k2 e
      obtain ⟨b1, b2⟩ := h.sv (s := p / 2) (by omega) q k k0 k1
      rw [e]
      refine Or.inr ⟨preS_lt h (by omega) q k0 k1, by omega, b1, ?_⟩
      rw [b2]
      by_cases z : T 6 (p / 2) = 1
      · rw [if_pos z]; exact Or.inl rfl
      · rw [if_neg z]; exact Or.inr (by omega)
    by_cases e : p % 2 = 0
    · have hp : p = 2 * (p / 2) := by omega
      by_cases z : T 6 (p / 2) = 0
      · left; rw [hp, hd.1, if_neg (by omega)]
      · exact key 0 (by omega) (by omega) (Or.inr (by omega)) (by rw [hp, hd.1, ← hp, if_pos ⟨q, z⟩]; omega)
    · have hp : p = 2 * (p / 2) + 1 := by omega
      by_cases z : T 6 (p / 2) = 0
      · left; rw [hp, hd.2, if_neg (by omega), if_neg (by omega)]
      · by_cases z1 : T 6 (p / 2) = 1
        · refine key 0 (by omega) (by omega) (Or.inl z1) ?_
          have := hd.2
          rw [if_pos ⟨q, z1⟩, ← hp] at this
          omega
        · refine key 1 (by omega) (by omega) (Or.inr (by omega)) ?_
          have := hd.2
          rw [if_neg (fun w => z1 w.2), if_pos ⟨q, by omega⟩, ← hp] at this
          omega
  · left
    by_cases e : p % 2 = 0
    · have hp : p = 2 * (p / 2) := by omega
      have := hd.1
      rw [if_neg (fun w => q w.1), ← hp] at this
      exact this
    · have hp : p = 2 * (p / 2) + 1 := by omega
      have := hd.2
      rw [if_neg (fun w => q w.1), if_neg (fun w => q w.1), ← hp] at this
      exact this
theorem TI.dn2 {T : es_M} (h : TI T) {v p : Int} (v0 : 0 ≤ v) (v1 : v < T 1 1) (h0 : 0 ≤ p) (hd : isDone T v p) : T 13 p = v := by
  have hn := h.n
  obtain ⟨s, k, a1, a2, a3, a4, a5, a6, a7⟩ := h.sf v0 v1
  obtain ⟨d1, d2⟩ := hd
  rw [a6] at d1
  rw [a7] at d2
  have hm := h.must a1 a2
  have hdb := h.db a1 (by omega)
  by_cases e : p % 2 = 0
  · have hp : p = 2 * s := by omega
    rw [hp, hdb.1, if_pos ⟨a2, by omega⟩]
    by_cases z : T 6 s = 1
    · omega
    · rw [if_neg z] at d2; omega
  · have hp : p = 2 * s + 1 := by omega
    rw [hp, hdb.2]
    by_cases z : T 6 s = 1
    · rw [if_pos ⟨a2, z⟩]; omega
    · rw [if_neg z] at d2
      rw [if_neg (fun w => z w.2), if_pos ⟨a2, by omega⟩]; omega
/-- passes of streets -/
theorem TI.ps {T : es_M} (h : TI T) {p : Int} (h0 : 0 ≤ p) (h1 : p < 2 * T 1 0) : (0 ≤ og T p ∧ og T p < 12) ∧ (0 ≤ gl T p ∧ gl T p < 12) ∧ og T p ≠ gl T p ∧ (ln T p = -1 ∨ (1 ≤ ln T p ∧ ln T p ≤ 99)) ∧ T 95 p = ln T p := by
  have hs := h.st (s := p / 2) (by omega) (by omega)
  obtain ⟨a1, a2, a3, a4, a5, -, -, a8, a9, -⟩ := hs
  unfold og gl ln
  by_cases e : p % 2 = 0
  · rw [if_pos e, if_pos e, if_pos e]
    refine ⟨a1, a2, a3, Or.inr a4, ?_⟩
    rw [← a8]; congr 1; omega
  · rw [if_neg e, if_neg e, if_neg e]
    refine ⟨a2, a1, fun z => a3 z.symm, a5, ?_⟩
    rw [← a9]; congr 1; omega
