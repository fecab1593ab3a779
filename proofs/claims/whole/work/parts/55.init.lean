/-! THE FRESH OBJECTS: what the constructors leave, and that it is such a state -/
/-- a memory as the two constructors leave it -/
def Fresh (M : es_M) : Prop :=
  (∀ j, M 1 j = 0) ∧ (∀ k, 0 ≤ k → k < 144 → M 8 k = -1) ∧ (∀ k, 0 ≤ k → k < 1728 → M 9 k = -2) ∧ (∀ k, 0 ≤ k → k < 10 → M 12 k = 0) ∧ (∀ k, 0 ≤ k → k < 36 → M 13 k = -1) ∧
  (∀ j, M 14 j = 0) ∧ (∀ h, 0 ≤ h → h < 24 → M 20 h = 100) ∧ (∀ s, 0 ≤ s → s < 18 → M 21 s = 0 ∧ M 22 s = 1439) ∧ (∀ k, 0 ≤ k → k < 144 → M 23 k = -1) ∧
  (M 25 0 = 0 ∧ M 35 0 = 0 ∧ M 45 0 = 0) ∧ M 55 1 = 0 ∧ M 58 1 = 0 ∧ M 60 5 = 1 ∧ (∀ j, M 91 j = 0) ∧
  (∀ s, 0 ≤ s → s < 18 → M 98 s = 0 ∧ M 99 s = 0 ∧ M 100 s = 1439) ∧ (∀ k, 0 ≤ k → k < 1728 → M 101 k = -1) ∧ (∀ k, 0 ≤ k → k < 144 → M 102 k = 0) ∧ (∀ k, 0 ≤ k → k < 10 → M 108 k = 0 ∧ M 109 k = 0) ∧ (∀ h, 0 ≤ h → h < 24 → M 121 h = 100) ∧ (∀ i, 0 ≤ i → i < 3 → M 137 i = 0)
theorem turnsN_0 {M : es_M} (h : ∀ k, 0 ≤ k → k < 1728 → M 101 k = -1) : ∀ n : Nat, n ≤ 1728 → turnsN M n = 0
  | 0, _ => rfl
  | n + 1, hn => by
    show turnsN M n + (if M 101 n = -1 then 0 else 1) = 0
    rw [turnsN_0 h n (by omega), if_pos (h n (by omega) (by omega))]
    rfl
theorem ebit0 (s : Int) : ¬ ebit 0 s := by
  unfold ebit
  simp
theorem Fresh.inv {M : es_M} (h : Fresh M) : Inv M := by
  obtain ⟨f1, f8, f9, f12, f13, f14, f20, f21, f23, fk, f55, f58, f60, f91, f98, f101, f102, f108, f121, f137⟩ := h
  have z0 : M 1 0 = 0 := f1 0
  have z1 : M 1 1 = 0 := f1 1
  refine ⟨⟨⟨?_, ?_, ?_, ?_, ?_, ?_, ?_, ?_, ?_, ?_, ?_, ?_, ?_⟩, ⟨?_, ?_, ?_, ?_, ?_, ?_, ?_, ?_, ?_⟩, ?_, ?_, ?_⟩, ⟨?_, ?_⟩, CacheOK.stale f60⟩
  · rw [z0, f91 3]; omega
  · rw [z1, f91 23]; omega
  · intro s s0 s1; omega
  · intro a b a0 a1 b0 b1; exact Or.inl (f8 _ (by omega) (by omega))
  · intro s s0 s1; omega
  · intro k k0 k1; exact Or.inl ⟨f9 k k0 k1, f101 k k0 k1⟩
  · rw [f1 2, turnsN_0 f101 1728 (by omega)]
  · rw [z1, z0]; rfl
  · intro s s0 s1; omega
  · intro v v0 v1; omega
  · intro v v0 v1
    rw [f12 v v0 v1, (f108 v v0 v1).1, z1]
    exact ⟨rfl, by omega, by decide, fun _ => rfl, fun z => by unfold ebit at z; rw [show (0 : Int).toNat = 0 from rfl, Nat.zero_testBit] at z; cases z⟩
  · intro s s0 s1
    rw [f13 _ (by omega) (by omega), f13 _ (by omega) (by omega), if_neg (by omega), if_neg (by omega), if_neg (by omega)]
    exact ⟨rfl, rfl⟩
  · rw [f1 3, z1]; rfl
  · unfold SIsc mvN
    simp [f14, f91]
  · rw [f14 4]
    refine ⟨by omega, fun s s0 s1 => ⟨fun q => absurd q (ebit0 s), fun _ => (f98 s s0 s1).1⟩⟩
  · intro i i0 i1; rw [f14 1] at i1; omega
  · intro i i0 i1; rw [f14 1] at i1; omega
  · exact ⟨fun i i0 i1 => by rw [f14 2] at i1; omega, fun i j i0 i1 => by rw [f14 2] at i1; omega⟩
  · intro i i0 i1; rw [f14 3] at i1; omega
  · intro j j0 j1
    show (1 ≤ M 20 j ∧ M 20 j ≤ 400) ∧ M 121 j = M 20 j
    rw [f20 j j0 j1, f121 j j0 j1]; omega
  · intro s s0 s1
    show (0 ≤ M 21 s ∧ M 21 s ≤ 1439) ∧ M 99 s = M 21 s ∧ (0 ≤ M 22 s ∧ M 22 s ≤ 1439) ∧ M 100 s = M 22 s
    rw [(f21 s s0 s1).1, (f21 s s0 s1).2, (f98 s s0 s1).2.1, (f98 s s0 s1).2.2]; omega
  · intro k k0 k1
    show (-1 ≤ M 23 k ∧ M 23 k ≤ 11) ∧ M 102 k = M 23 k + 1
    rw [f23 k k0 k1, f102 k k0 k1]; omega
  · intro i hi
    rcases (show i = 0 ∨ i = 1 ∨ i = 2 by omega) with rfl | rfl | rfl
    · show (M 25 0 = 0 ∨ M 25 0 = 1) ∧ M 137 ((0 : Nat) : Int) = M 25 0 ∧ (M 25 0 = 1 → _)
      rw [fk.1, f137 _ (by omega) (by omega)]
      exact ⟨Or.inl rfl, rfl, fun z => by omega⟩
    · show (M 35 0 = 0 ∨ M 35 0 = 1) ∧ M 137 ((1 : Nat) : Int) = M 35 0 ∧ (M 35 0 = 1 → _)
      rw [fk.2.1, f137 _ (by omega) (by omega)]
      exact ⟨Or.inl rfl, rfl, fun z => by omega⟩
    · show (M 45 0 = 0 ∨ M 45 0 = 1) ∧ M 137 ((2 : Nat) : Int) = M 45 0 ∧ (M 45 0 = 1 → _)
      rw [fk.2.2, f137 _ (by omega) (by omega)]
      exact ⟨Or.inl rfl, rfl, fun z => by omega⟩
  · refine ⟨by rw [f55, f91 16]; omega, fun i i0 i1 => by rw [f55] at i1; omega⟩
  · intro i i0 i1; exact (f108 i i0 i1).2
  · rw [f58, f91 1]; omega
  · intro i i0 i1; rw [f58] at i1; omega
/-- there is such a memory: the state isn't empty -/
theorem Fresh.some : ∃ M : es_M, Fresh M := ⟨fun c j => if c = 8 ∨ c = 13 ∨ c = 23 ∨ c = 101 then -1 else if c = 9 then -2 else if c = 20 ∨ c = 121 then 100 else if c = 22 ∨ c = 100 then 1439 else if c = 60 ∧ j = 5 then 1 else 0, by
  unfold Fresh
  simp⟩
