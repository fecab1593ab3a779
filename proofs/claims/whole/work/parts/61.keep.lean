/-! PAIRS OF CALLS: keep, again (2) -/
/-- the class's cells from x on hold what those from y on held -/
def Tk (x y : Nat) (M M' : es_M) : Prop := (∀ j, 1 ≤ j → j ≤ 5 → M' x j = M y j) ∧ (∀ j, 0 ≤ j → j < 60 → M' (x + 1) j = M (y + 1) j) ∧ (∀ j, 0 ≤ j → j < 60 → M' (x + 2) j = M (y + 2) j) ∧ (∀ j, 0 ≤ j → j < 10 → M' (x + 3) j = M (y + 3) j) ∧ (∀ j, 0 ≤ j → j < 12 → M' (x + 4) j = M (y + 4) j) ∧ (∀ j, 0 ≤ j → j < 12 → M' (x + 5) j = M (y + 5) j) ∧ (∀ j, 0 ≤ j → j < 24 → M' (x + 6) j = M (y + 6) j) ∧ (∀ j, 0 ≤ j → j < 18 → M' (x + 7) j = M (y + 7) j) ∧ (∀ j, 0 ≤ j → j < 18 → M' (x + 8) j = M (y + 8) j) ∧ (∀ j, 0 ≤ j → j < 144 → M' (x + 9) j = M (y + 9) j)
theorem SI.agree {M M' : es_M} {x y : Nat} {mv mv' : Nat → Int → Int} (h : SI M y mv) (e : tow M M') (hk : Tk x y M M') (hm : ∀ k j, inr k j → (k = 3 → j < M y 2) → mv' k j = mv k j) : SI M' x mv' := by
  obtain ⟨h1, h2, h3, h4, h5, h6, h7, h8, h9⟩ := h
  obtain ⟨k0, k1, k2, k3, k4, k5, k6, k7, k8, k9⟩ := hk
  unfold SI
  rw [k0 4 (by decide) (by decide), k0 1 (by decide) (by decide), k0 2 (by decide) (by decide), k0 3 (by decide) (by decide), e 1 (by decide)]
  obtain ⟨⟨a1, a2, a3⟩, ⟨b1, b2, b3⟩, ⟨c1, c2, c3⟩, ⟨d1, d2, d3⟩⟩ := h1
  refine ⟨?_, ⟨h2.1, fun s s0 s1 => ?_⟩, fun i i0 i1 => ?_, fun i i0 i1 => ?_, ⟨fun i i0 i1 => ?_, fun i j i0 i1 j0 j1 => ?_⟩, fun i i0 i1 => ?_, fun s s0 s1 => ?_, fun s s0 s1 => ?_, fun s s0 s1 => ?_⟩
  · unfold SIsc
    rw [k0 1 (by decide) (by decide), k0 2 (by decide) (by decide), k0 3 (by decide) (by decide), k0 5 (by decide) (by decide), hm 0 0 ⟨by decide, by decide, by decide⟩ (by decide), hm 0 1 ⟨by decide, by decide, by decide⟩ (by decide), hm 0 2 ⟨by decide, by decide, by decide⟩ (by decide), hm 0 3 ⟨by decide, by decide, by decide⟩ (by decide)]
    exact ⟨⟨a1, a2, a3⟩, ⟨b1, b2, b3⟩, ⟨c1, c2, c3⟩, ⟨d1, d2, d3⟩⟩
  · rw [hm 6 s ⟨by decide, s0, s1⟩ (by decide)]; exact h2.2 s s0 s1
  · rw [k1 i i0 (by omega), hm 1 i ⟨by decide, i0, by show i < 60; omega⟩ (by decide)]; exact h3 i i0 i1
  · rw [k1 i i0 (by omega), k1 (i + 1) (by omega) (by omega), k2 i i0 (by omega), og_congr (e 2 (by decide)) (e 3 (by decide)), gl_congr (e 2 (by decide)) (e 3 (by decide)), ln_congr (e 4 (by decide)) (e 5 (by decide)), e 1 (by decide)]; exact h4 i i0 i1
  · rw [k3 i i0 (by omega), hm 2 i ⟨by decide, i0, by show i < 10; omega⟩ (by decide), hm 3 i ⟨by decide, i0, by show i < 10; omega⟩ (fun _ => i1), canDo_congr (e 4 (by decide)) (e 5 (by decide)) (e 10 (by decide)) (e 13 (by decide)), e 1 (by decide)]; exact h5.1 i i0 i1
  · rw [k3 i i0 (by omega), k3 j j0 (by omega)]; exact h5.2 i j i0 i1 j0 j1
  · rw [k4 i i0 (by omega), k5 i i0 (by omega), hm 4 i ⟨by decide, i0, by show i < 12; omega⟩ (by decide), hm 5 i ⟨by decide, i0, by show i < 12; omega⟩ (by decide)]; exact h6 i i0 i1
  · rw [k6 s s0 s1, hm 9 s ⟨by decide, s0, s1⟩ (by decide)]; exact h7 s s0 s1
  · rw [k7 s s0 s1, k8 s s0 s1, hm 7 s ⟨by decide, s0, s1⟩ (by decide), hm 8 s ⟨by decide, s0, s1⟩ (by decide)]; exact h8 s s0 s1
  · rw [k9 s s0 s1, hm 10 s ⟨by decide, s0, s1⟩ (by decide)]; exact h9 s s0 s1
theorem Tk.same {x : Nat} {M M' : es_M} (h : ∀ c, x ≤ c → c ≤ x + 9 → M' c = M c) : Tk x x M M' := by
  refine ⟨fun j _ _ => by rw [h x (by omega) (by omega)], ?_, ?_, ?_, ?_, ?_, ?_, ?_, ?_, ?_⟩ <;> (intro j _ _; rw [h _ (by omega) (by omega)])
theorem Tk.then {x y : Nat} {M M' M'' : es_M} (h : Tk x y M M') (h2 : ∀ c, x ≤ c → c ≤ x + 9 → ∀ j, (c = x → 1 ≤ j) → M'' c j = M' c j) : Tk x y M M'' := by
  obtain ⟨k0, k1, k2, k3, k4, k5, k6, k7, k8, k9⟩ := h
  refine ⟨fun j a b => by rw [h2 x (by omega) (by omega) j (fun _ => a)]; exact k0 j a b, ?_, ?_, ?_, ?_, ?_, ?_, ?_, ?_, ?_⟩ <;> (intro j a b; rw [h2 _ (by omega) (by omega) j (by omega)])
  · exact k1 j a b
  · exact k2 j a b
  · exact k3 j a b
  · exact k4 j a b
  · exact k5 j a b
  · exact k6 j a b
  · exact k7 j a b
  · exact k8 j a b
  · exact k9 j a b
section
variable {d : Nat} {Q : Int → es_M → Prop} {M : es_M}
theorem s_take_25_14 (h : ∀ M', (∀ c, c < 25 ∨ 25 + 9 < c → M' c = M c) → M' 25 0 = M 25 0 → Tk 25 14 M M' → Q 0 M') : es_Call (d + 1) 72 [.inr (.inr 25), .inr (.inr 14)] M Q := by
  apply c_State_take_25_14
  refine ⟨by decide, by decide, by decide, by decide, by decide, by decide, by decide, by decide, by decide, h _ (fun c hc => ?_) ?_ ⟨?_, ?_, ?_, ?_, ?_, ?_, ?_, ?_, ?_, ?_⟩⟩
  · funext j
    have z : ∀ k, 25 ≤ k → k ≤ 25 + 9 → c ≠ k := fun k a b => by omega
    simp only [es_cpy, es_upd, if_neg (fun w => z 25 (by decide) (by decide) (And.left w)), if_neg (fun w => z 26 (by decide) (by decide) (And.left w)), if_neg (fun w => z 27 (by decide) (by decide) (And.left w)), if_neg (fun w => z 28 (by decide) (by decide) (And.left w)), if_neg (fun w => z 29 (by decide) (by decide) (And.left w)), if_neg (fun w => z 30 (by decide) (by decide) (And.left w)), if_neg (fun w => z 31 (by decide) (by decide) (And.left w)), if_neg (fun w => z 32 (by decide) (by decide) (And.left w)), if_neg (fun w => z 33 (by decide) (by decide) (And.left w)), if_neg (fun w => z 34 (by decide) (by decide) (And.left w))]
  · simp [es_cpy, es_upd]
  · intro j a b
    rcases (show j = 1 ∨ j = 2 ∨ j = 3 ∨ j = 4 ∨ j = 5 by omega) with rfl | rfl | rfl | rfl | rfl <;> simp [es_cpy, es_upd]
  · intro j a b
    simp [es_cpy, es_upd, a, b]
  · intro j a b
    simp [es_cpy, es_upd, a, b]
  · intro j a b
    simp [es_cpy, es_upd, a, b]
  · intro j a b
    simp [es_cpy, es_upd, a, b]
  · intro j a b
    simp [es_cpy, es_upd, a, b]
  · intro j a b
    simp [es_cpy, es_upd, a, b]
  · intro j a b
    simp [es_cpy, es_upd, a, b]
  · intro j a b
    simp [es_cpy, es_upd, a, b]
  · intro j a b
    simp [es_cpy, es_upd, a, b]
theorem s_take_35_14 (h : ∀ M', (∀ c, c < 35 ∨ 35 + 9 < c → M' c = M c) → M' 35 0 = M 35 0 → Tk 35 14 M M' → Q 0 M') : es_Call (d + 1) 72 [.inr (.inr 35), .inr (.inr 14)] M Q := by
  apply c_State_take_35_14
  refine ⟨by decide, by decide, by decide, by decide, by decide, by decide, by decide, by decide, by decide, h _ (fun c hc => ?_) ?_ ⟨?_, ?_, ?_, ?_, ?_, ?_, ?_, ?_, ?_, ?_⟩⟩
  · funext j
    have z : ∀ k, 35 ≤ k → k ≤ 35 + 9 → c ≠ k := fun k a b => by omega
    simp only [es_cpy, es_upd, if_neg (fun w => z 35 (by decide) (by decide) (And.left w)), if_neg (fun w => z 36 (by decide) (by decide) (And.left w)), if_neg (fun w => z 37 (by decide) (by decide) (And.left w)), if_neg (fun w => z 38 (by decide) (by decide) (And.left w)), if_neg (fun w => z 39 (by decide) (by decide) (And.left w)), if_neg (fun w => z 40 (by decide) (by decide) (And.left w)), if_neg (fun w => z 41 (by decide) (by decide) (And.left w)), if_neg (fun w => z 42 (by decide) (by decide) (And.left w)), if_neg (fun w => z 43 (by decide) (by decide) (And.left w)), if_neg (fun w => z 44 (by decide) (by decide) (And.left w))]
  · simp [es_cpy, es_upd]
  · intro j a b
    rcases (show j = 1 ∨ j = 2 ∨ j = 3 ∨ j = 4 ∨ j = 5 by omega) with rfl | rfl | rfl | rfl | rfl <;> simp [es_cpy, es_upd]
  · intro j a b
    simp [es_cpy, es_upd, a, b]
  · intro j a b
    simp [es_cpy, es_upd, a, b]
  · intro j a b
    simp [es_cpy, es_upd, a, b]
  · intro j a b
    simp [es_cpy, es_upd, a, b]
  · intro j a b
    simp [es_cpy, es_upd, a, b]
  · intro j a b
    simp [es_cpy, es_upd, a, b]
  · intro j a b
    simp [es_cpy, es_upd, a, b]
  · intro j a b
    simp [es_cpy, es_upd, a, b]
  · intro j a b
    simp [es_cpy, es_upd, a, b]
theorem s_take_45_14 (h : ∀ M', (∀ c, c < 45 ∨ 45 + 9 < c → M' c = M c) → M' 45 0 = M 45 0 → Tk 45 14 M M' → Q 0 M') : es_Call (d + 1) 72 [.inr (.inr 45), .inr (.inr 14)] M Q := by
  apply c_State_take_45_14
  refine ⟨by decide, by decide, by decide, by decide, by decide, by decide, by decide, by decide, by decide, h _ (fun c hc => ?_) ?_ ⟨?_, ?_, ?_, ?_, ?_, ?_, ?_, ?_, ?_, ?_⟩⟩
  · funext j
    have z : ∀ k, 45 ≤ k → k ≤ 45 + 9 → c ≠ k := fun k a b => by omega
    simp only [es_cpy, es_upd, if_neg (fun w => z 45 (by decide) (by decide) (And.left w)), if_neg (fun w => z 46 (by decide) (by decide) (And.left w)), if_neg (fun w => z 47 (by decide) (by decide) (And.left w)), if_neg (fun w => z 48 (by decide) (by decide) (And.left w)), if_neg (fun w => z 49 (by decide) (by decide) (And.left w)), if_neg (fun w => z 50 (by decide) (by decide) (And.left w)), if_neg (fun w => z 51 (by decide) (by decide) (And.left w)), if_neg (fun w => z 52 (by decide) (by decide) (And.left w)), if_neg (fun w => z 53 (by decide) (by decide) (And.left w)), if_neg (fun w => z 54 (by decide) (by decide) (And.left w))]
  · simp [es_cpy, es_upd]
  · intro j a b
    rcases (show j = 1 ∨ j = 2 ∨ j = 3 ∨ j = 4 ∨ j = 5 by omega) with rfl | rfl | rfl | rfl | rfl <;> simp [es_cpy, es_upd]
  · intro j a b
    simp [es_cpy, es_upd, a, b]
  · intro j a b
    simp [es_cpy, es_upd, a, b]
  · intro j a b
    simp [es_cpy, es_upd, a, b]
  · intro j a b
    simp [es_cpy, es_upd, a, b]
  · intro j a b
    simp [es_cpy, es_upd, a, b]
  · intro j a b
    simp [es_cpy, es_upd, a, b]
  · intro j a b
    simp [es_cpy, es_upd, a, b]
  · intro j a b
    simp [es_cpy, es_upd, a, b]
  · intro j a b
    simp [es_cpy, es_upd, a, b]
theorem s_take_14_25 (h : ∀ M', (∀ c, c < 14 ∨ 14 + 9 < c → M' c = M c) → M' 14 0 = M 14 0 → Tk 14 25 M M' → Q 0 M') : es_Call (d + 1) 72 [.inr (.inr 14), .inr (.inr 25)] M Q := by
  apply c_State_take_14_25
  refine ⟨by decide, by decide, by decide, by decide, by decide, by decide, by decide, by decide, by decide, h _ (fun c hc => ?_) ?_ ⟨?_, ?_, ?_, ?_, ?_, ?_, ?_, ?_, ?_, ?_⟩⟩
  · funext j
    have z : ∀ k, 14 ≤ k → k ≤ 14 + 9 → c ≠ k := fun k a b => by omega
    simp only [es_cpy, es_upd, if_neg (fun w => z 14 (by decide) (by decide) (And.left w)), if_neg (fun w => z 15 (by decide) (by decide) (And.left w)), if_neg (fun w => z 16 (by decide) (by decide) (And.left w)), if_neg (fun w => z 17 (by decide) (by decide) (And.left w)), if_neg (fun w => z 18 (by decide) (by decide) (And.left w)), if_neg (fun w => z 19 (by decide) (by decide) (And.left w)), if_neg (fun w => z 20 (by decide) (by decide) (And.left w)), if_neg (fun w => z 21 (by decide) (by decide) (And.left w)), if_neg (fun w => z 22 (by decide) (by decide) (And.left w)), if_neg (fun w => z 23 (by decide) (by decide) (And.left w))]
  · simp [es_cpy, es_upd]
  · intro j a b
    rcases (show j = 1 ∨ j = 2 ∨ j = 3 ∨ j = 4 ∨ j = 5 by omega) with rfl | rfl | rfl | rfl | rfl <;> simp [es_cpy, es_upd]
  · intro j a b
    simp [es_cpy, es_upd, a, b]
  · intro j a b
    simp [es_cpy, es_upd, a, b]
  · intro j a b
    simp [es_cpy, es_upd, a, b]
  · intro j a b
    simp [es_cpy, es_upd, a, b]
  · intro j a b
    simp [es_cpy, es_upd, a, b]
  · intro j a b
    simp [es_cpy, es_upd, a, b]
  · intro j a b
    simp [es_cpy, es_upd, a, b]
  · intro j a b
    simp [es_cpy, es_upd, a, b]
  · intro j a b
    simp [es_cpy, es_upd, a, b]
theorem s_take_14_35 (h : ∀ M', (∀ c, c < 14 ∨ 14 + 9 < c → M' c = M c) → M' 14 0 = M 14 0 → Tk 14 35 M M' → Q 0 M') : es_Call (d + 1) 72 [.inr (.inr 14), .inr (.inr 35)] M Q := by
  apply c_State_take_14_35
  refine ⟨by decide, by decide, by decide, by decide, by decide, by decide, by decide, by decide, by decide, h _ (fun c hc => ?_) ?_ ⟨?_, ?_, ?_, ?_, ?_, ?_, ?_, ?_, ?_, ?_⟩⟩
  · funext j
    have z : ∀ k, 14 ≤ k → k ≤ 14 + 9 → c ≠ k := fun k a b => by omega
    simp only [es_cpy, es_upd, if_neg (fun w => z 14 (by decide) (by decide) (And.left w)), if_neg (fun w => z 15 (by decide) (by decide) (And.left w)), if_neg (fun w => z 16 (by decide) (by decide) (And.left w)), if_neg (fun w => z 17 (by decide) (by decide) (And.left w)), if_neg (fun w => z 18 (by decide) (by decide) (And.left w)), if_neg (fun w => z 19 (by decide) (by decide) (And.left w)), if_neg (fun w => z 20 (by decide) (by decide) (And.left w)), if_neg (fun w => z 21 (by decide) (by decide) (And.left w)), if_neg (fun w => z 22 (by decide) (by decide) (And.left w)), if_neg (fun w => z 23 (by decide) (by decide) (And.left w))]
  · simp [es_cpy, es_upd]
  · intro j a b
    rcases (show j = 1 ∨ j = 2 ∨ j = 3 ∨ j = 4 ∨ j = 5 by omega) with rfl | rfl | rfl | rfl | rfl <;> simp [es_cpy, es_upd]
  · intro j a b
    simp [es_cpy, es_upd, a, b]
  · intro j a b
    simp [es_cpy, es_upd, a, b]
  · intro j a b
    simp [es_cpy, es_upd, a, b]
  · intro j a b
    simp [es_cpy, es_upd, a, b]
  · intro j a b
    simp [es_cpy, es_upd, a, b]
  · intro j a b
    simp [es_cpy, es_upd, a, b]
  · intro j a b
    simp [es_cpy, es_upd, a, b]
  · intro j a b
    simp [es_cpy, es_upd, a, b]
  · intro j a b
    simp [es_cpy, es_upd, a, b]
theorem s_take_14_45 (h : ∀ M', (∀ c, c < 14 ∨ 14 + 9 < c → M' c = M c) → M' 14 0 = M 14 0 → Tk 14 45 M M' → Q 0 M') : es_Call (d + 1) 72 [.inr (.inr 14), .inr (.inr 45)] M Q := by
  apply c_State_take_14_45
  refine ⟨by decide, by decide, by decide, by decide, by decide, by decide, by decide, by decide, by decide, h _ (fun c hc => ?_) ?_ ⟨?_, ?_, ?_, ?_, ?_, ?_, ?_, ?_, ?_, ?_⟩⟩
  · funext j
    have z : ∀ k, 14 ≤ k → k ≤ 14 + 9 → c ≠ k := fun k a b => by omega
    simp only [es_cpy, es_upd, if_neg (fun w => z 14 (by decide) (by decide) (And.left w)), if_neg (fun w => z 15 (by decide) (by decide) (And.left w)), if_neg (fun w => z 16 (by decide) (by decide) (And.left w)), if_neg (fun w => z 17 (by decide) (by decide) (And.left w)), if_neg (fun w => z 18 (by decide) (by decide) (And.left w)), if_neg (fun w => z 19 (by decide) (by decide) (And.left w)), if_neg (fun w => z 20 (by decide) (by decide) (And.left w)), if_neg (fun w => z 21 (by decide) (by decide) (And.left w)), if_neg (fun w => z 22 (by decide) (by decide) (And.left w)), if_neg (fun w => z 23 (by decide) (by decide) (And.left w))]
  · simp [es_cpy, es_upd]
  · intro j a b
    rcases (show j = 1 ∨ j = 2 ∨ j = 3 ∨ j = 4 ∨ j = 5 by omega) with rfl | rfl | rfl | rfl | rfl <;> simp [es_cpy, es_upd]
  · intro j a b
    simp [es_cpy, es_upd, a, b]
  · intro j a b
    simp [es_cpy, es_upd, a, b]
  · intro j a b
    simp [es_cpy, es_upd, a, b]
  · intro j a b
    simp [es_cpy, es_upd, a, b]
  · intro j a b
    simp [es_cpy, es_upd, a, b]
  · intro j a b
    simp [es_cpy, es_upd, a, b]
  · intro j a b
    simp [es_cpy, es_upd, a, b]
  · intro j a b
    simp [es_cpy, es_upd, a, b]
  · intro j a b
    simp [es_cpy, es_upd, a, b]
end
