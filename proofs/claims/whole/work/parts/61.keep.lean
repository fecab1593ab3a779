/-! PAIRS OF CALLS: keep, again (2) -/
/-- the class's cells from x on hold what those from y on held -/
def Tk (x y : Nat) (M M' : es_M) : Prop := (∀ j, 1 ≤ j → j ≤ 5 → M' x j = M y j) ∧ (∀ j, 0 ≤ j → j < 60 → M' (x + 1) j = M (y + 1) j) ∧ (∀ j, 0 ≤ j → j < 60 → M' (x + 2) j = M (y + 2) j) ∧ (∀ j, 0 ≤ j → j < 10 → M' (x + 3) j = M (y + 3) j) ∧ (∀ j, 0 ≤ j → j < 12 → M' (x + 4) j = M (y + 4) j) ∧ (∀ j, 0 ≤ j → j < 12 → M' (x + 5) j = M (y + 5) j) ∧ (∀ j, 0 ≤ j → j < 24 → M' (x + 6) j = M (y + 6) j) ∧ (∀ j, 0 ≤ j → j < 18 → M' (x + 7) j = M (y + 7) j) ∧ (∀ j, 0 ≤ j → j < 18 → M' (x + 8) j = M (y + 8) j) ∧ (∀ j, 0 ≤ j → j < 144 → M' (x + 9) j = M (y + 9) j)
theorem SI.agree {M M' : es_M} {x y : Nat} {mv mv' : Nat → Int → Int} (h : SI M y mv) (e : tow M M') (hk : Tk x y M M') (hm : ∀ k j, inr k j → (k = 3 → j < M y 2) → mv' k j = mv k j) : SI M' x mv' := by
  obtain ⟨h1, h2, h3, h4, h5, h6, h7, h8, h9⟩ := h
  obtain ⟨k0, k1, k2, k3, k4, k5, k6, k7, k8, k9⟩ := hk
  unfold SI
  rw [k0 4 (by decide) (by decide), k0 1 (by decide) (by decide), k0 2 (by decide) (by decide), k0 3 (by decide) (by decide), e 1 (by decide)]
  obtain ⟨⟨a1, a2, a3⟩, ⟨b1, b2, b3⟩, ⟨c1, c2, c3⟩, ⟨d1, d2, d3⟩⟩ := h1
  refine ⟨?_, ⟨h2.1, fun s s0 s1 => ?_⟩, fun i i0 i1 => ?_, fun i i0 i1 => ?_, ⟨fun i i0 i1 => ?_, fun i j i0 i1 j0 j1 => ?_⟩, fun i i0 i1 => ?_, fun s s0 s1 => ?_, fun s s0 s1 => ?_, fun s s0 s1 => ?_⟩
  · unfold SIsc
    rw [k0 1 (by decide) (by decide), k0 2 (by decide) (by decide), k0 3 (by decide) (by decide), k0 5 (by decide) (by decide), hm 0 0 ⟨by decide, by decide, by decide⟩ (fun z => absurd z (by decide)), hm 0 1 ⟨by decide, by decide, by decide⟩ (fun z => absurd z (by decide)), hm 0 2 ⟨by decide, by decide, by decide⟩ (fun z => absurd z (by decide)), hm 0 3 ⟨by decide, by decide, by decide⟩ (fun z => absurd z (by decide))]
    exact ⟨⟨a1, a2, a3⟩, ⟨b1, b2, b3⟩, ⟨c1, c2, c3⟩, ⟨d1, d2, d3⟩⟩
  · rw [hm 6 s ⟨by decide, s0, s1⟩ (fun z => absurd z (by decide))]; exact h2.2 s s0 s1
  · rw [k1 i i0 (by omega), hm 1 i ⟨by decide, i0, by show i < 60; omega⟩ (fun z => absurd z (by decide))]; exact h3 i i0 i1
  · rw [k1 i i0 (by omega), k1 (i + 1) (by omega) (by omega), k2 i i0 (by omega), og_congr (e 2 (by decide)) (e 3 (by decide)), gl_congr (e 2 (by decide)) (e 3 (by decide)), ln_congr (e 4 (by decide)) (e 5 (by decide)), e 1 (by decide)]; exact h4 i i0 i1
  · rw [k3 i i0 (by omega), hm 2 i ⟨by decide, i0, by show i < 10; omega⟩ (fun z => absurd z (by decide)), hm 3 i ⟨by decide, i0, by show i < 10; omega⟩ (fun _ => i1), canDo_congr (e 4 (by decide)) (e 5 (by decide)) (e 10 (by decide)) (e 13 (by decide)), e 1 (by decide)]; exact h5.1 i i0 i1
  · rw [k3 i i0 (by omega), k3 j j0 (by omega)]; exact h5.2 i j i0 i1 j0 j1
  · rw [k4 i i0 (by omega), k5 i i0 (by omega), hm 4 i ⟨by decide, i0, by show i < 12; omega⟩ (fun z => absurd z (by decide)), hm 5 i ⟨by decide, i0, by show i < 12; omega⟩ (fun z => absurd z (by decide))]; exact h6 i i0 i1
  · rw [k6 s s0 s1, hm 9 s ⟨by decide, s0, s1⟩ (fun z => absurd z (by decide))]; exact h7 s s0 s1
  · rw [k7 s s0 s1, k8 s s0 s1, hm 7 s ⟨by decide, s0, s1⟩ (fun z => absurd z (by decide)), hm 8 s ⟨by decide, s0, s1⟩ (fun z => absurd z (by decide))]; exact h8 s s0 s1
  · rw [k9 s s0 s1, hm 10 s ⟨by decide, s0, s1⟩ (fun z => absurd z (by decide))]; exact h9 s s0 s1
theorem Tk.same {x : Nat} {M M' : es_M} (h : ∀ c, x ≤ c → c ≤ x + 9 → M' c = M c) : Tk x x M M' := by
  refine ⟨fun j _ _ => by rw [h x (by omega) (by omega)], ?_, ?_, ?_, ?_, ?_, ?_, ?_, ?_, ?_⟩ <;> (intro j _ _; rw [h _ (by omega) (by omega)])
theorem Tk.then {x y : Nat} {M M' M'' : es_M} (h : Tk x y M M') (h2 : ∀ c, x ≤ c → c ≤ x + 9 → ∀ j, (c = x → 1 ≤ j) → M'' c j = M' c j) : Tk x y M M'' := by
  obtain ⟨k0, k1, k2, k3, k4, k5, k6, k7, k8, k9⟩ := h
  refine ⟨fun j a b => by rw [h2 x (by omega) (by omega) j (fun _ => a)]; exact k0 j a b, ?_, ?_, ?_, ?_, ?_, ?_, ?_, ?_, ?_⟩ <;> (intro j a b; rw [h2 _ (by omega) (by omega) j (by omega)])
  · exact k1 j a b
  · exact k2 j a b
  · exact k3 j a b
  · exact k4 j a b
  · exact k5 j a b
  · exact k6 j a b
  · exact k7 j a b
  · exact k8 j a b
  · exact k9 j a b
section
variable {d : Nat} {Q : Int → es_M → Prop} {M : es_M}
theorem s_take_25_14 (h : ∀ M', (∀ c, c < 25 ∨ 25 + 9 < c → M' c = M c) → M' 25 0 = M 25 0 → Tk 25 14 M M' → Q 0 M') : es_Call (d + 1) 72 [.inr (.inr 25), .inr (.inr 14)] M Q := by
  apply c_State_take_25_14
  refine ⟨by decide, by decide, by decide, by decide, by decide, by decide, by decide, by decide, by decide, h _ (fun c hc => ?_) ?_ ⟨?_, ?_, ?_, ?_, ?_, ?_, ?_, ?_, ?_, ?_⟩⟩
  · funext j
    have z : ∀ k, 25 ≤ k → k ≤ 25 + 9 → c ≠ k := fun k a b => by omega
    simp only [es_cpy, es_upd, if_neg (fun w => z 25 (by decide) (by decide) (And.left w)), if_neg (fun w => z 26 (by decide) (by decide) (And.left w)), if_neg (fun w => z 27 (by decide) (by decide) (And.left w)), if_neg (fun w => z 28 (by decide) (by decide) (And.left w)), if_neg (fun w => z 29 (by decide) (by decide) (And.left w)), if_neg (fun w => z 30 (by decide) (by decide) (And.left w)), if_neg (fun w => z 31 (by decide) (by decide) (And.left w)), if_neg (fun w => z 32 (by decide) (by decide) (And.left w)), if_neg (fun w => z 33 (by decide) (by decide) (And.left w)), if_neg (fun w => z 34 (by decide) (by decide) (And.left w))]
  · simp [es_cpy, es_upd]
  · intro j a b
    rcases (show j = 1 ∨ j = 2 ∨ j = 3 ∨ j = 4 ∨ j = 5 by omega) with rfl | rfl | rfl | rfl | rfl <;> simp [es_cpy, es_upd]
  · intro j a b
    simp [es_cpy, es_upd, a, b]
  · intro j a b
    simp [es_cpy, es_upd, a, b]
  · intro j a b
    simp [es_cpy, es_upd, a, b]
  · intro j a b
    simp [es_cpy, es_upd, a, b]
  · intro j a b
    simp [es_cpy, es_upd, a, b]
  · intro j a b
    simp [es_cpy, es_upd, a, b]
  · intro j a b
    simp [es_cpy, es_upd, a, b]
  · intro j a b
    simp [es_cpy, es_upd, a, b]
  · intro j a b
    simp [es_cpy, es_upd, a, b]
theorem s_take_35_14 (h : ∀ M', (∀ c, c < 35 ∨ 35 + 9 < c → M' c = M c) → M' 35 0 = M 35 0 → Tk 35 14 M M' → Q 0 M') : es_Call (d + 1) 72 [.inr (.inr 35), .inr (.inr 14)] M Q := by
  apply c_State_take_35_14
  refine ⟨by decide, by decide, by decide, by decide, by decide, by decide, by decide, by decide, by decide, h _ (fun c hc => ?_) ?_ ⟨?_, ?_, ?_, ?_, ?_, ?_, ?_, ?_, ?_, ?_⟩⟩
  · funext j
    have z : ∀ k, 35 ≤ k → k ≤ 35 + 9 → c ≠ k := fun k a b => by omega
    simp only [es_cpy, es_upd, if_neg (fun w => z 35 (by decide) (by decide) (And.left w)), if_neg (fun w => z 36 (by decide) (by decide) (And.left w)), if_neg (fun w => z 37 (by decide) (by decide) (And.left w)), if_neg (fun w => z 38 (by decide) (by decide) (And.left w)), if_neg (fun w => z 39 (by decide) (by decide) (And.left w)), if_neg (fun w => z 40 (by decide) (by decide) (And.left w)), if_neg (fun w => z 41 (by decide) (by decide) (And.left w)), if_neg (fun w => z 42 (by decide) (by decide) (And.left w)), if_neg (fun w => z 43 (by decide) (by decide) (And.left w)), if_neg (fun w => z 44 (by decide) (by decide) (And.left w))]
  · simp [es_cpy, es_upd]
  · intro j a b
    rcases (show j = 1 ∨ j = 2 ∨ j = 3 ∨ j = 4 ∨ j = 5 by omega) with rfl | rfl | rfl | rfl | rfl <;> simp [es_cpy, es_upd]
  · intro j a b
    simp [es_cpy, es_upd, a, b]
  · intro j a b
    simp [es_cpy, es_upd, a, b]
  · intro j a b
    simp [es_cpy, es_upd, a, b]
  · intro j a b
    simp [es_cpy, es_upd, a, b]
  · intro j a b
    simp [es_cpy, es_upd, a, b]
  · intro j a b
    simp [es_cpy, es_upd, a, b]
  · intro j a b
    simp [es_cpy, es_upd, a, b]
  · intro j a b
    simp [es_cpy, es_upd, a, b]
  · intro j a b
    simp [es_cpy, es_upd, a, b]
theorem s_take_45_14 (h : ∀ M', (∀ c, c < 45 ∨ 45 + 9 < c → M' c = M c) → M' 45 0 = M 45 0 → Tk 45 14 M M' → Q 0 M') : es_Call (d + 1) 72 [.inr (.inr 45), .inr (.inr 14)] M Q := by
  apply c_State_take_45_14
  refine ⟨by decide, by decide, by decide, by decide, by decide, by decide, by decide, by decide, by decide, h _ (fun c hc => ?_) ?_ ⟨?_, ?_, ?_, ?_, ?_, ?_, ?_, ?_, ?_, ?_⟩⟩
  · funext j
    have z : ∀ k, 45 ≤ k → k ≤ 45 + 9 → c ≠ k := fun k a b => by omega
    simp only [es_cpy, es_upd, if_neg (fun w => z 45 (by decide) (by decide) (And.left w)), if_neg (fun w => z 46 (by decide) (by decide) (And.left w)), if_neg (fun w => z 47 (by decide) (by decide) (And.left w)), if_neg (fun w => z 48 (by decide) (by decide) (And.left w)), if_neg (fun w => z 49 (by decide) (by decide) (And.left w)), if_neg (fun w => z 50 (by decide) (by decide) (And.left w)), if_neg (fun w => z 51 (by decide) (by decide) (And.left w)), if_neg (fun w => z 52 (by decide) (by decide) (And.left w)), if_neg (fun w => z 53 (by decide) (by decide) (And.left w)), if_neg (fun w => z 54 (by decide) (by decide) (And.left w))]
  · simp [es_cpy, es_upd]
  · intro j a b
    rcases (show j = 1 ∨ j = 2 ∨ j = 3 ∨ j = 4 ∨ j = 5 by omega) with rfl | rfl | rfl | rfl | rfl <;> simp [es_cpy, es_upd]
  · intro j a b
    simp [es_cpy, es_upd, a, b]
  · intro j a b
    simp [es_cpy, es_upd, a, b]
  · intro j a b
    simp [es_cpy, es_upd, a, b]
  · intro j a b
    simp [es_cpy, es_upd, a, b]
  · intro j a b
    simp [es_cpy, es_upd, a, b]
  · intro j a b
    simp [es_cpy, es_upd, a, b]
  · intro j a b
    simp [es_cpy, es_upd, a, b]
  · intro j a b
    simp [es_cpy, es_upd, a, b]
  · intro j a b
    simp [es_cpy, es_upd, a, b]
theorem s_take_14_25 (h : ∀ M', (∀ c, c < 14 ∨ 14 + 9 < c → M' c = M c) → M' 14 0 = M 14 0 → Tk 14 25 M M' → Q 0 M') : es_Call (d + 1) 72 [.inr (.inr 14), .inr (.inr 25)] M Q := by
  apply c_State_take_14_25
  refine ⟨by decide, by decide, by decide, by decide, by decide, by decide, by decide, by decide, by decide, h _ (fun c hc => ?_) ?_ ⟨?_, ?_, ?_, ?_, ?_, ?_, ?_, ?_, ?_, ?_⟩⟩
  · funext j
    have z : ∀ k, 14 ≤ k → k ≤ 14 + 9 → c ≠ k := fun k a b => by omega
    simp only [es_cpy, es_upd, if_neg (fun w => z 14 (by decide) (by decide) (And.left w)), if_neg (fun w => z 15 (by decide) (by decide) (And.left w)), if_neg (fun w => z 16 (by decide) (by decide) (And.left w)), if_neg (fun w => z 17 (by decide) (by decide) (And.left w)), if_neg (fun w => z 18 (by decide) (by decide) (And.left w)), if_neg (fun w => z 19 (by decide) (by decide) (And.left w)), if_neg (fun w => z 20 (by decide) (by decide) (And.left w)), if_neg (fun w => z 21 (by decide) (by decide) (And.left w)), if_neg (fun w => z 22 (by decide) (by decide) (And.left w)), if_neg (fun w => z 23 (by decide) (by decide) (And.left w))]
  · simp [es_cpy, es_upd]
  · intro j a b
    rcases (show j = 1 ∨ j = 2 ∨ j = 3 ∨ j = 4 ∨ j = 5 by omega) with rfl | rfl | rfl | rfl | rfl <;> simp [es_cpy, es_upd]
  · intro j a b
    simp [es_cpy, es_upd, a, b]
  · intro j a b
    simp [es_cpy, es_upd, a, b]
  · intro j a b
    simp [es_cpy, es_upd, a, b]
  · intro j a b
    simp [es_cpy, es_upd, a, b]
  · intro j a b
    simp [es_cpy, es_upd, a, b]
  · intro j a b
    simp [es_cpy, es_upd, a, b]
  · intro j a b
    simp [es_cpy, es_upd, a, b]
  · intro j a b
    simp [es_cpy, es_upd, a, b]
  · intro j a b
    simp [es_cpy, es_upd, a, b]
theorem s_take_14_35 (h : ∀ M', (∀ c, c < 14 ∨ 14 + 9 < c → M' c = M c) → M' 14 0 = M 14 0 → Tk 14 35 M M' → Q 0 M') : es_Call (d + 1) 72 [.inr (.inr 14), .inr (.inr 35)] M Q := by
  apply c_State_take_14_35
  refine ⟨by decide, by decide, by decide, by decide, by decide, by decide, by decide, by decide, by decide, h _ (fun c hc => ?_) ?_ ⟨?_, ?_, ?_, ?_, ?_, ?_, ?_, ?_, ?_, ?_⟩⟩
  · funext j
    have z : ∀ k, 14 ≤ k → k ≤ 14 + 9 → c ≠ k := fun k a b => by omega
    simp only [es_cpy, es_upd, if_neg (fun w => z 14 (by decide) (by decide) (And.left w)), if_neg (fun w => z 15 (by decide) (by decide) (And.left w)), if_neg (fun w => z 16 (by decide) (by decide) (And.left w)), if_neg (fun w => z 17 (by decide) (by decide) (And.left w)), if_neg (fun w => z 18 (by decide) (by decide) (And.left w)), if_neg (fun w => z 19 (by decide) (by decide) (And.left w)), if_neg (fun w => z 20 (by decide) (by decide) (And.left w)), if_neg (fun w => z 21 (by decide) (by decide) (And.left w)), if_neg (fun w => z 22 (by decide) (by decide) (And.left w)), if_neg (fun w => z 23 (by decide) (by decide) (And.left w))]
  · simp [es_cpy, es_upd]
  · intro j a b
    rcases (show j = 1 ∨ j = 2 ∨ j = 3 ∨ j = 4 ∨ j = 5 by omega) with rfl | rfl | rfl | rfl | rfl <;> simp [es_cpy, es_upd]
  · intro j a b
    simp [es_cpy, es_upd, a, b]
  · intro j a b
    simp [es_cpy, es_upd, a, b]
  · intro j a b
    simp [es_cpy, es_upd, a, b]
  · intro j a b
    simp [es_cpy, es_upd, a, b]
  · intro j a b
    simp [es_cpy, es_upd, a, b]
  · intro j a b
    simp [es_cpy, es_upd, a, b]
  · intro j a b
    simp [es_cpy, es_upd, a, b]
  · intro j a b
    simp [es_cpy, es_upd, a, b]
  · intro j a b
    simp [es_cpy, es_upd, a, b]
theorem s_take_14_45 (h : ∀ M', (∀ c, c < 14 ∨ 14 + 9 < c → M' c = M c) → M' 14 0 = M 14 0 → Tk 14 45 M M' → Q 0 M') : es_Call (d + 1) 72 [.inr (.inr 14), .inr (.inr 45)] M Q := by
  apply c_State_take_14_45
  refine ⟨by decide, by decide, by decide, by decide, by decide, by decide, by decide, by decide, by decide, h _ (fun c hc => ?_) ?_ ⟨?_, ?_, ?_, ?_, ?_, ?_, ?_, ?_, ?_, ?_⟩⟩
  · funext j
    have z : ∀ k, 14 ≤ k → k ≤ 14 + 9 → c ≠ k := fun k a b => by omega
    simp only [es_cpy, es_upd, if_neg (fun w => z 14 (by decide) (by decide) (And.left w)), if_neg (fun w => z 15 (by decide) (by decide) (And.left w)), if_neg (fun w => z 16 (by decide) (by decide) (And.left w)), if_neg (fun w => z 17 (by decide) (by decide) (And.left w)), if_neg (fun w => z 18 (by decide) (by decide) (And.left w)), if_neg (fun w => z 19 (by decide) (by decide) (And.left w)), if_neg (fun w => z 20 (by decide) (by decide) (And.left w)), if_neg (fun w => z 21 (by decide) (by decide) (And.left w)), if_neg (fun w => z 22 (by decide) (by decide) (And.left w)), if_neg (fun w => z 23 (by decide) (by decide) (And.left w))]
  · simp [es_cpy, es_upd]
  · intro j a b
    rcases (show j = 1 ∨ j = 2 ∨ j = 3 ∨ j = 4 ∨ j = 5 by omega) with rfl | rfl | rfl | rfl | rfl <;> simp [es_cpy, es_upd]
  · intro j a b
    simp [es_cpy, es_upd, a, b]
  · intro j a b
    simp [es_cpy, es_upd, a, b]
  · intro j a b
    simp [es_cpy, es_upd, a, b]
  · intro j a b
    simp [es_cpy, es_upd, a, b]
  · intro j a b
    simp [es_cpy, es_upd, a, b]
  · intro j a b
    simp [es_cpy, es_upd, a, b]
  · intro j a b
    simp [es_cpy, es_upd, a, b]
  · intro j a b
    simp [es_cpy, es_upd, a, b]
  · intro j a b
    simp [es_cpy, es_upd, a, b]
end
def wq (c : Nat) (j : Int) : Bool := wp c j || (Nat.ble 14 c && Nat.ble c 54) || Nat.beq c 137 || (Nat.beq c 91 && decide (j = 0)) || (Nat.beq c 60 && decide (j = 5))
theorem Inv.kept {M M' : es_M} (h : Inv M) (e : Fr wq M M') (hs : SI M' 14 (mvN M')) (hk : TIkept M') (hc : CacheOK M' M') : Inv M' := by
  obtain ⟨⟨h1, h2, h3, h4, h5⟩, hr, -⟩ := h
  have c13 : ∀ c, 1 ≤ c ∧ c ≤ 13 → M' c = M c := by
    intro c hc
    rcases (show c = 1 ∨ c = 2 ∨ c = 3 ∨ c = 4 ∨ c = 5 ∨ c = 6 ∨ c = 7 ∨ c = 8 ∨ c = 9 ∨ c = 10 ∨ c = 11 ∨ c = 12 ∨ c = 13 by omega) with rfl | rfl | rfl | rfl | rfl | rfl | rfl | rfl | rfl | rfl | rfl | rfl | rfl <;> exact e.cell _ fun _ => rfl
  refine ⟨⟨h1.congr (fun c hc => ?_) (e 91 3 rfl) (e 91 23 rfl), hs, hk, h4.congr (e 55 1 rfl) (e 91 16 rfl) (e.cell 56 fun _ => rfl) (e.cell 103 fun _ => rfl), fun i a b => by rw [e 109 i rfl]; exact h5 i a b⟩, ?_, hc⟩
  · rcases hc with hc | hc | hc | hc
    · exact c13 c hc
    · rcases (show c = 93 ∨ c = 94 ∨ c = 95 ∨ c = 96 ∨ c = 97 by omega) with rfl | rfl | rfl | rfl | rfl <;> exact e.cell _ fun _ => rfl
    · subst hc; exact e.cell _ fun _ => rfl
    · rcases (show c = 106 ∨ c = 107 ∨ c = 108 by omega) with rfl | rfl | rfl <;> exact e.cell _ fun _ => rfl
  · unfold RowEq at hr ⊢
    rw [e.cell 58 fun _ => rfl, e.cell 59 fun _ => rfl, e 91 1 rfl, e.cell 92 fun _ => rfl]
    exact hr
theorem wq_tow {M M' : es_M} (e : Fr wq M M') : tow M M' := by
  intro c hc
  rcases (show c = 1 ∨ c = 2 ∨ c = 3 ∨ c = 4 ∨ c = 5 ∨ c = 6 ∨ c = 7 ∨ c = 8 ∨ c = 9 ∨ c = 10 ∨ c = 11 ∨ c = 12 ∨ c = 13 by omega) with rfl | rfl | rfl | rfl | rfl | rfl | rfl | rfl | rfl | rfl | rfl | rfl | rfl <;> exact e.cell _ fun _ => rfl
theorem wp_c {c : Nat} {j : Int} (h : c ≤ 90) : wp c j = false := by
  unfold wp
  have z : ∀ k : Nat, 90 < k → Nat.beq c k = false := fun k hk => by rw [← Bool.not_eq_true, Nat.beq_eq]; omega
  simp [z 98 (by decide), z 99 (by decide), z 100 (by decide), z 102 (by decide), z 112 (by decide), z 113 (by decide), z 120 (by decide), z 121 (by decide), z 125 (by decide), z 126 (by decide), z 138 (by decide), z 91 (by decide)]
theorem wq_c {c : Nat} {j : Int} (h : wq c j = false) : wp c j = false ∧ (c < 14 ∨ 54 < c) ∧ c ≠ 137 ∧ ¬ (c = 91 ∧ j = 0) ∧ ¬ (c = 60 ∧ j = 5) := by
  unfold wq at h
  simp only [Bool.or_eq_false_iff] at h
  obtain ⟨⟨⟨⟨h1, h2⟩, h3⟩, h4⟩, h5⟩ := h
  refine ⟨h1, ?_, ?_, ?_, ?_⟩
  · refine Classical.byContradiction fun z => ?_
    rw [show Nat.ble 14 c = true from Nat.ble_eq_true_of_le (by omega), show Nat.ble c 54 = true from Nat.ble_eq_true_of_le (by omega)] at h2
    cases h2
  · rintro rfl; cases h3
  · rintro ⟨rfl, rfl⟩; cases h4
  · rintro ⟨rfl, rfl⟩; cases h5
/-- values that are truths pass through -/
theorem nv_tr {x : Int} (h : x = 0 ∨ x = 1) : trF x = x ∧ (if x = 1 then (1 : Int) else 0) = x := by
  rcases h with rfl | rfl <;> exact ⟨rfl, rfl⟩
theorem SI.tru {M : es_M} {c : Nat} {mv : Nat → Int → Int} (h : SI M c mv) (k : Nat) (j : Int) (hr : inr k j) (h3 : k = 3 → j < M c 2) (hk : k = 3 ∨ k = 6) : mv k j = 0 ∨ mv k j = 1 := by
  rcases hk with rfl | rfl
  · have := (h.2.2.2.2.1.1 j hr.2.1 (h3 rfl)).2.2.1
    omega
  · have := h.2.1.2 j hr.2.1 hr.2.2
    by_cases q : ebit (M c 4) j
    · exact Or.inr (this.1 q).1
    · exact Or.inl (this.2 q)
section
variable {d : Nat} {M : es_M}
theorem keepM (h : Inv M) (i : Nat) (hi : i < 3) {N : es_M} (f1 : ∀ c, c < 25 + 10 * i ∨ 25 + 10 * i + 9 < c → N c = M c) (f2 : N (25 + 10 * i) 0 = 1) (f3 : Tk (25 + 10 * i) 14 M N) : es_Call (d + 20) 279 [.inr (.inr 91), .inl (i : Nat)] N (fun y' M2 => y' = 1 ∧ Inv M2) := by
  refine c_Model_keep (s_m_in (fun _ _ => es_f1 ⟨by omega, es_b1, s_m_passes (by omega) (fun M2 hS => ⟨es_b1, rfl, ?_⟩)⟩) (fun z => absurd ⟨by omega, by omega⟩ z))
  obtain ⟨s1, s2, s3, s4⟩ := hS
  have n91 : ∀ c, 91 ≤ c → N c = M c := fun c hc => f1 c (by omega)
  have eA : ∀ c j, ¬ (c = 91 ∧ j = 0) → c ≠ 137 → es_upd (es_upd N 91 0 0) 137 (i : Nat) 1 c j = N c j := by
    intro c j a b
    rw [es_upd_n b]; unfold es_upd; rw [if_neg a]
  have mA : ∀ k j, mvN (es_upd (es_upd N 91 0 0) 137 (i : Nat) 1) k j = mvN M k j := by
    intro k j
    unfold mvN
    rw [eA 91 41 (by decide) (by decide), eA 91 47 (by decide) (by decide), eA 91 30 (by decide) (by decide), eA 91 13 (by decide) (by decide), eA 120 j (by simp) (by decide), eA 125 j (by simp) (by decide), eA 126 j (by simp) (by decide), eA 112 j (by simp) (by decide), eA 113 j (by simp) (by decide), eA 98 j (by simp) (by decide), eA 99 j (by simp) (by decide), eA 100 j (by simp) (by decide), eA 121 j (by simp) (by decide), eA 102 j (by simp) (by decide)]
    rw [n91 91 (by decide), n91 120 (by decide), n91 125 (by decide), n91 126 (by decide), n91 112 (by decide), n91 113 (by decide), n91 98 (by decide), n91 99 (by decide), n91 100 (by decide), n91 121 (by decide), n91 102 (by decide)]
  have pv : ∀ k j, inr k j → (k = 3 → j < M 14 2) → pvF2 (es_upd (es_upd N 91 0 0) 137 (i : Nat) 1) (i : Nat) 0 k j = mvN M k j ∧ nvF k (mvN M k j) = mvN M k j := by
    intro k j hr h3
    unfold pvF2 nvF
    rw [if_pos rfl, mA]
    by_cases q : k = 3 ∨ k = 6
    · rw [if_pos q, if_pos q]
      exact nv_tr (h.1.S.tru k j hr h3 q)
    · rw [if_neg q, if_neg q]; exact ⟨rfl, rfl⟩
  have H1 : ∀ k j, inr k j → (k = 3 → j < M 14 2) → mvN M2 k j = mvN M k j := fun k j hr h3 => by
    rw [(s4 k j hr).2.2.1 (ofk_r hr).2, (pv k j hr h3).1, (pv k j hr h3).2]
  have H2 : ∀ k j, inr k j → (k = 3 → j < M 14 2) → mvK M2 (i : Nat) k j = mvN M k j := fun k j hr h3 => by
    rw [mvK_of M2 _ k j hr.1, (s4 k j hr).1 (ofk_r hr).2, (pv k j hr h3).1]
  have c90 : ∀ c, c ≤ 90 → M2 c = N c := fun c hc => funext fun j => by rw [s2 c j (wp_c hc), eA c j (by omega) (by omega)]
  have e : Fr wq M M2 := by
    intro c j q
    obtain ⟨q1, q2, q3, q4, q5⟩ := wq_c q
    rw [s2 c j q1, eA c j q4 q3, f1 c (by omega)]
  have tw := wq_tow e
  have c24 : ∀ c, c < 25 → M2 c = M c := fun c hc => by rw [c90 c (by omega), f1 c (by omega)]
  refine h.kept e (h.1.S.agree tw (Tk.same fun c a b => c24 c (by omega)) H1) (fun i' hi' => ?_) (h.2.2.congr (stp_congr (c24 2 (by omega)) (c24 3 (by omega)) (c24 4 (by omega)) (c24 5 (by omega)) (c24 9 (by omega)) (c24 14 (by omega))) (c24 1 (by omega)) ?_ (e.cell 61 fun _ => rfl) (e.cell 62 fun _ => rfl) (e.cell 63 fun _ => rfl))
  · have e137 : M2 137 (i' : Nat) = es_upd (es_upd N 91 0 0) 137 (i : Nat) 1 137 (i' : Nat) := s2 137 _ rfl
    by_cases q : i' = i
    · subst q
      rw [e137, es_upd_s, c90 _ (by omega), f2]
      refine ⟨Or.inr rfl, rfl, fun _ => h.1.S.agree tw (f3.then fun c a b j _ => by rw [c90 c (by omega)]) H2⟩
    · obtain ⟨k1, k2, k3⟩ := h.1.K i' hi'
      have cc : ∀ c, 25 + 10 * i' ≤ c → c ≤ 25 + 10 * i' + 9 → M2 c = M c := fun c a b => by rw [c90 c (by omega), f1 c (by omega)]
      rw [e137, es_upd_j (by omega), es_upd_n (by decide), n91 137 (by decide), cc _ (by omega) (by omega)]
      refine ⟨k1, k2, fun z => (k3 z).agree tw (Tk.same cc) (fun k j hr _ => ?_)⟩
      have := ofk_r hr
      rw [mvK_of _ _ k j hr.1, mvK_of _ _ k j hr.1, s3 _ (by omega), eA 138 _ (by simp) (by decide), n91 138 (by decide)]
  · rw [c90 60 (by decide), f1 60 (by omega)]
theorem P_keep (h : Inv M) {a : Int} : Pair (d + 20) 46 279 [.inl a] M := by
  apply m_EveryStreet_keep
  intro G hG
  apply k_EveryStreet_keep_0 hG
  have no : ¬ (0 ≤ a ∧ a ≤ 2) → es_Call (d + 20) 279 [.inr (.inr 91), .inl a] M (fun y' M2 => y' = 0 ∧ Inv M2) := fun q => c_Model_keep (s_m_in (fun q1 q2 => absurd ⟨q1, q2⟩ q) (fun _ => es_f0 ⟨es_b0, rfl, h.th⟩))
  have fin : ∀ (i : Nat) (M1 : es_M), i < 3 → (∀ c, c < 25 + 10 * i ∨ 25 + 10 * i + 9 < c → M1 c = M c) → Tk (25 + 10 * i) 14 M M1 → es_Call (d + 20) 279 [.inr (.inr 91), .inl (i : Nat)] (es_upd M1 (25 + 10 * i) 0 1) (fun y' M2 => y' = 1 ∧ Inv M2) := by
    intro i M1 hi f1 f3
    refine keepM h i hi (fun c hc => by rw [es_upd_o c (by omega)]; exact f1 c hc) es_upd_s (f3.then fun c _ _ j hj => ?_)
    unfold es_upd
    rw [if_neg]
    rintro ⟨rfl, rfl⟩
    have := hj rfl
    omega
  refine ⟨fun q => ⟨es_b0, no (by omega)⟩, fun q => ⟨fun q2 => ?_, fun q2 => ⟨es_b0, no (by omega)⟩⟩⟩
  rcases (show a = 0 ∨ a = 1 ∨ a = 2 by omega) with rfl | rfl | rfl
  · exact k_EveryStreet_keep_16_0 hG ⟨by decide, s_take_25_14 (fun M1 f1 f2 f3 => k_EveryStreet_keep_29_0 hG ⟨by decide, es_b1, es_b1, fin 0 M1 (by decide) f1 f3⟩)⟩
  · exact k_EveryStreet_keep_16_1 hG ⟨by decide, s_take_35_14 (fun M1 f1 f2 f3 => k_EveryStreet_keep_29_1 hG ⟨by decide, es_b1, es_b1, fin 1 M1 (by decide) f1 f3⟩)⟩
  · exact k_EveryStreet_keep_16_2 hG ⟨by decide, s_take_45_14 (fun M1 f1 f2 f3 => k_EveryStreet_keep_29_2 hG ⟨by decide, es_b1, es_b1, fin 2 M1 (by decide) f1 f3⟩)⟩
theorem againM (h : Inv M) (i : Nat) (hi : i < 3) (hh : M (25 + 10 * i) 0 = 1) {N : es_M} (f1 : ∀ c, c < 14 ∨ 23 < c → c ≠ 60 → N c = M c) (f60 : N 60 5 = 1) (f6 : ∀ j, j ≠ 5 → N 60 j = M 60 j) (f3 : Tk 14 (25 + 10 * i) M N) : es_Call (d + 20) 282 [.inr (.inr 91), .inl (i : Nat)] N (fun y' M2 => y' = 1 ∧ Inv M2) := by
  obtain ⟨kk1, kk2, kk3⟩ := h.1.K i hi
  have kS := kk3 hh
  have n91 : ∀ c, 91 ≤ c → N c = M c := fun c hc => f1 c (by omega) (by omega)
  refine c_Model_again (s_m_in (fun _ _ => es_t1 ⟨by omega, fun _ => s_m_passes (by omega) (fun M2 hS => ⟨es_b1, rfl, ?_⟩), fun z => ?_⟩) (fun z => absurd ⟨by omega, by omega⟩ z))
  · obtain ⟨s1, s2, s3, s4⟩ := hS
    have eA : ∀ c j, ¬ (c = 91 ∧ j = 0) → es_upd N 91 0 0 c j = N c j := by
      intro c j a
      unfold es_upd; rw [if_neg a]
    have pv : ∀ k j, inr k j → (k = 3 → j < M (25 + 10 * i) 2) → pvF2 (es_upd N 91 0 0) (i : Nat) 1 k j = mvK M (i : Nat) k j ∧ nvF k (mvK M (i : Nat) k j) = mvK M (i : Nat) k j := by
      intro k j hr h3
      unfold pvF2 nvF
      rw [if_neg (by decide), eA 138 _ (by simp), n91 138 (by decide), mvK_of M _ k j hr.1]
      refine ⟨rfl, ?_⟩
      rw [← mvK_of M _ k j hr.1]
      by_cases q : k = 3 ∨ k = 6
      · rw [if_pos q]
        exact (nv_tr (kS.tru k j hr h3 q)).2
      · rw [if_neg q]
    have H1 : ∀ k j, inr k j → (k = 3 → j < M (25 + 10 * i) 2) → mvN M2 k j = mvK M (i : Nat) k j := fun k j hr h3 => by
      rw [(s4 k j hr).2.2.1 (ofk_r hr).2, (pv k j hr h3).1, (pv k j hr h3).2]
    have c90 : ∀ c, c ≤ 90 → M2 c = N c := fun c hc => funext fun j => by rw [s2 c j (wp_c hc), eA c j (by omega)]
    have e : Fr wq M M2 := by
      intro c j q
      obtain ⟨q1, q2, q3, q4, q5⟩ := wq_c q
      rw [s2 c j q1, eA c j q4]
      by_cases z : c = 60
      · subst z
        exact f6 j (fun w => q5 ⟨rfl, w⟩)
      · rw [f1 c (by omega) z]
    have tw := wq_tow e
    refine h.kept e (kS.agree tw (f3.then fun c a b j _ => by rw [c90 c (by omega)]) H1) (fun i' hi' => ?_) (CacheOK.stale (by rw [c90 60 (by decide)]; exact f60))
    obtain ⟨k1, k2, k3⟩ := h.1.K i' hi'
    have cc : ∀ c, 25 + 10 * i' ≤ c → c ≤ 25 + 10 * i' + 9 → M2 c = M c := fun c a b => by rw [c90 c (by omega), f1 c (by omega) (by omega)]
    rw [s2 137 _ rfl, eA 137 _ (by simp), n91 137 (by decide), cc _ (by omega) (by omega)]
    refine ⟨k1, k2, fun z => (k3 z).agree tw (Tk.same cc) (fun k j hr _ => ?_)⟩
    have := ofk_r hr
    rw [mvK_of _ _ k j hr.1, mvK_of _ _ k j hr.1]
    by_cases q : i' = i
    · subst q
      rw [(s4 k j hr).1 (ofk_r hr).2]
      unfold pvF2
      rw [if_neg (by decide), eA 138 _ (by simp), n91 138 (by decide)]
    · rw [s3 _ (by omega), eA 138 _ (by simp), n91 138 (by decide)]
  · rw [es_upd_n (by decide), n91 137 (by decide), kk2, hh] at z
    exact absurd z (by decide)
theorem P_again (h : Inv M) {a : Int} : Pair (d + 20) 47 282 [.inl a] M := by
  apply m_EveryStreet_again
  intro G hG
  apply k_EveryStreet_again_0 hG
  have no : ¬ (0 ≤ a ∧ a ≤ 2) → es_Call (d + 20) 282 [.inr (.inr 91), .inl a] M (fun y' M2 => y' = 0 ∧ Inv M2) := fun q => c_Model_again (s_m_in (fun q1 q2 => absurd ⟨q1, q2⟩ q) (fun _ => es_t0 ⟨es_b0, rfl, h.th⟩))
  have nk : ∀ i : Nat, i < 3 → M (25 + 10 * i) 0 = 0 → es_Call (d + 20) 282 [.inr (.inr 91), .inl (i : Nat)] M (fun y' M2 => y' = 0 ∧ Inv M2) := by
    intro i hi z
    obtain ⟨k1, k2, -⟩ := h.1.K i hi
    refine c_Model_again (s_m_in (fun _ _ => es_t1 ⟨by omega, fun w => absurd ?_ w, fun _ => ⟨es_b0, rfl, h.th⟩⟩) (fun w => absurd ⟨by omega, by omega⟩ w))
    rw [rd0 (by decide), k2, z]
  have fin : ∀ (i : Nat) (M1 : es_M), i < 3 → ¬ M (25 + 10 * i) 0 = 0 → (∀ c, c < 14 ∨ 14 + 9 < c → M1 c = M c) → Tk 14 (25 + 10 * i) M M1 → es_Call (d + 20) 282 [.inr (.inr 91), .inl (i : Nat)] (es_upd M1 60 5 1) (fun y' M2 => y' = 1 ∧ Inv M2) := by
    intro i M1 hi hn f1 f3
    have k1 := (h.1.K i hi).1
    refine againM h i hi (k1.resolve_left hn) (fun c hc hc2 => by rw [es_upd_o c hc2]; exact f1 c (by omega)) es_upd_s (fun j hj => by rw [es_upd_j hj, f1 60 (by omega)]) (f3.then fun c _ _ j _ => ?_)
    rw [es_upd_o c (by omega)]
  refine ⟨fun q => ⟨es_b0, no (by omega)⟩, fun q => ⟨fun q2 => ⟨es_b0, no (by omega)⟩, fun q2 => ?_⟩⟩
  rcases (show a = 0 ∨ a = 1 ∨ a = 2 by omega) with rfl | rfl | rfl
  · exact k_EveryStreet_again_14_0 hG ⟨by decide, fun z => k_EveryStreet_again_32_0 hG ⟨by decide, s_take_14_25 (fun M1 f1 f2 f3 => ⟨es_b1, es_b1, fin 0 M1 (by decide) z f1 f3⟩)⟩, fun z => ⟨es_b0, nk 0 (by decide) z⟩⟩
  · exact k_EveryStreet_again_14_1 hG ⟨by decide, fun z => k_EveryStreet_again_32_1 hG ⟨by decide, s_take_14_35 (fun M1 f1 f2 f3 => ⟨es_b1, es_b1, fin 1 M1 (by decide) z f1 f3⟩)⟩, fun z => ⟨es_b0, nk 1 (by decide) z⟩⟩
  · exact k_EveryStreet_again_14_2 hG ⟨by decide, fun z => k_EveryStreet_again_32_2 hG ⟨by decide, s_take_14_45 (fun M1 f1 f2 f3 => ⟨es_b1, es_b1, fin 2 M1 (by decide) z f1 f3⟩)⟩, fun z => ⟨es_b0, nk 2 (by decide) z⟩⟩
end
