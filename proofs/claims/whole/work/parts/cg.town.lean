/-! THE TOWN'S TEXT (6): the class tells the town -/
def CC (V M : es_M) : Prop := ∀ c : Nat, 1 ≤ c → c ≤ 13 → M c = V c
def FC (M M' : es_M) : Prop := ∀ c : Nat, ¬ (1 ≤ c ∧ c ≤ 13) → M' c = M c
section
variable {d : Nat} {M V : es_M} {Q : Int → es_M → Prop}
theorem s_putService {s w : Int} (s0 : 0 ≤ s) (s1 : s < 18) (hw : 0 ≤ w ∧ w ≤ 2) (v0 : 0 ≤ M 1 1) (v1 : M 1 1 < 10)
    (k : ∀ M', (∀ (c : Nat) (j : Int), c ≠ 1 → c ≠ 10 → c ≠ 11 → c ≠ 13 → M' c j = M c j) → M' 1 1 = M 1 1 + 1 → M' 1 3 = od1 (M 1 3) (M 2 s) (M 3 s) → (∀ j, j ≠ 1 → j ≠ 3 → M' 1 j = M 1 j) → (∀ j, M' 10 j = if j = M 1 1 then s else M 10 j) → (∀ j, M' 11 j = if j = M 1 1 then w else M 11 j) → (∀ j, M' 13 j = if j = 2 * s ∧ w ≠ 2 then M 1 1 else if j = 2 * s + 1 ∧ w ≠ 1 then M 1 1 else M 13 j) → Q 0 M') : es_Call (d + 1) 52 [.inr (.inr 1), .inl s, .inl w] M Q := by
  apply c_Town_putService
  refine ⟨fun _ => ?_, fun z => absurd v1 z⟩
  rw [w32_1 (by omega) (by omega), w32_s (k := 2 * s) (by omega) (by omega), w32_1 (by omega) (by omega)]
  refine ⟨⟨v0, v1⟩, ⟨v0, v1⟩, fun z => ⟨fun z2 => absurd z (by omega), fun _ => ⟨by omega, ⟨s0, s1⟩, ⟨s0, s1⟩, k _ ?_ ?_ ?_ ?_ ?_ ?_ ?_⟩⟩, fun z => ⟨by omega, fun z2 => ⟨⟨s0, s1⟩, ⟨s0, s1⟩, k _ ?_ ?_ ?_ ?_ ?_ ?_ ?_⟩, fun z2 => ⟨by omega, ⟨s0, s1⟩, ⟨s0, s1⟩, k _ ?_ ?_ ?_ ?_ ?_ ?_ ?_⟩⟩⟩
  · intro c j a b e f; rw [es_upd_n a, es_upd_n f, es_upd_n e, es_upd_n b, es_upd_n a]
  · rw [es_upd_j (by decide), es_upd_n (by decide), es_upd_n (by decide), es_upd_n (by decide), es_upd_s]
  · rw [es_upd_s, es_upd_n (by decide), es_upd_n (by decide), es_upd_n (by decide), es_upd_j (by decide), es_upd_n (by decide), es_upd_n (by decide), es_upd_n (by decide), es_upd_n (by decide), es_upd_n (by decide), es_upd_n (by decide), es_upd_n (by decide), es_upd_n (by decide)]; rfl
  · intro j a b; rw [es_upd_j b, es_upd_n (by decide), es_upd_n (by decide), es_upd_n (by decide), es_upd_j a]
  · intro j; rw [es_upd_n (by decide), es_upd_n (by decide), es_upd_n (by decide), es_upd_c, es_upd_n (by decide)]
  · intro j; rw [es_upd_n (by decide), es_upd_n (by decide), es_upd_c, es_upd_n (by decide), es_upd_n (by decide)]
  · intro j; rw [es_upd_n (by decide), es_upd_c, es_upd_n (by decide), es_upd_n (by decide), es_upd_n (by decide)]
    by_cases e : j = 2 * s + 1
    · rw [if_pos e, if_neg (fun y => y.2 z), if_pos ⟨e, by omega⟩]
    · rw [if_neg e, if_neg (fun y => y.2 z), if_neg (fun y => e y.1)]
  · intro c j a b e f; rw [es_upd_n a, es_upd_n f, es_upd_n e, es_upd_n b, es_upd_n a]
  · rw [es_upd_j (by decide), es_upd_n (by decide), es_upd_n (by decide), es_upd_n (by decide), es_upd_s]
  · rw [es_upd_s, es_upd_n (by decide), es_upd_n (by decide), es_upd_n (by decide), es_upd_j (by decide), es_upd_n (by decide), es_upd_n (by decide), es_upd_n (by decide), es_upd_n (by decide), es_upd_n (by decide), es_upd_n (by decide), es_upd_n (by decide), es_upd_n (by decide)]; rfl
  · intro j a b; rw [es_upd_j b, es_upd_n (by decide), es_upd_n (by decide), es_upd_n (by decide), es_upd_j a]
  · intro j; rw [es_upd_n (by decide), es_upd_n (by decide), es_upd_n (by decide), es_upd_c, es_upd_n (by decide)]
  · intro j; rw [es_upd_n (by decide), es_upd_n (by decide), es_upd_c, es_upd_n (by decide), es_upd_n (by decide)]
  · intro j; rw [es_upd_n (by decide), es_upd_c, es_upd_n (by decide), es_upd_n (by decide), es_upd_n (by decide)]
    by_cases e : j = 2 * s
    · rw [if_pos e, if_pos ⟨e, z⟩]
    · rw [if_neg e, if_neg (fun y => e y.1), if_neg (fun y => y.2 z2)]
  · intro c j a b e f; rw [es_upd_n a, es_upd_n f, es_upd_n f, es_upd_n e, es_upd_n b, es_upd_n a]
  · rw [es_upd_j (by decide), es_upd_n (by decide), es_upd_n (by decide), es_upd_n (by decide), es_upd_n (by decide), es_upd_s]
  · rw [es_upd_s, es_upd_n (by decide), es_upd_n (by decide), es_upd_n (by decide), es_upd_n (by decide), es_upd_j (by decide), es_upd_n (by decide), es_upd_n (by decide), es_upd_n (by decide), es_upd_n (by decide), es_upd_n (by decide), es_upd_n (by decide), es_upd_n (by decide), es_upd_n (by decide), es_upd_n (by decide), es_upd_n (by decide)]; rfl
  · intro j a b; rw [es_upd_j b, es_upd_n (by decide), es_upd_n (by decide), es_upd_n (by decide), es_upd_n (by decide), es_upd_j a]
  · intro j; rw [es_upd_n (by decide), es_upd_n (by decide), es_upd_n (by decide), es_upd_n (by decide), es_upd_c, es_upd_n (by decide)]
  · intro j; rw [es_upd_n (by decide), es_upd_n (by decide), es_upd_n (by decide), es_upd_c, es_upd_n (by decide), es_upd_n (by decide)]
  · intro j; rw [es_upd_n (by decide), es_upd_c, es_upd_c, es_upd_n (by decide), es_upd_n (by decide), es_upd_n (by decide)]
    by_cases e : j = 2 * s
    · rw [if_neg (by omega), if_pos e, if_pos ⟨e, z⟩]
    · by_cases e2 : j = 2 * s + 1
      · rw [if_pos e2, if_neg (fun y => e y.1), if_pos ⟨e2, z2⟩]
      · rw [if_neg e2, if_neg e, if_neg (fun y => e y.1), if_neg (fun y => e2 y.1)]
theorem s_putTurn (hC : CC V M) {it : It} (ha : 0 ≤ it.2.1 ∧ it.2.1 < 12) (hb : 0 ≤ it.2.2.1 ∧ it.2.2.1 < 12) (hc : 0 ≤ it.2.2.2.1 ∧ it.2.2.2.1 < 12) (hv : 0 ≤ V 1 2 ∧ V 1 2 ≤ 1728) (k : ∀ M', CC (pT V it) M' → FC M M' → Q 0 M') : es_Call (d + 1) 53 [.inr (.inr 1), .inl it.2.1, .inl it.2.2.1, .inl it.2.2.2.1, .inl it.2.2.2.2.1] M Q := by
  apply c_Town_putTurn
  obtain ⟨x, a, b, c, m, y, z⟩ := it
  simp only at ha hb hc ⊢
  rw [w32_s (k := a * 12) (by omega) (by omega), w32_s (k := a * 12 + b) (by omega) (by omega), w32_s (k := (a * 12 + b) * 12) (by omega) (by omega), w32_s (k := (a * 12 + b) * 12 + c) (by omega) (by omega)]
  have pl : plI (x, a, b, c, m, y, z) = (a * 12 + b) * 12 + c := rfl
  refine ⟨by omega, fun q => ⟨by omega, k _ (fun c1 h1 h2 => ?_) (fun c1 h1 => ?_)⟩, fun q => ⟨by omega, k _ (fun c1 h1 h2 => ?_) (fun c1 h1 => ?_)⟩⟩
  · rw [hC 9 (by decide) (by decide)] at q
    by_cases e : c1 = 9
    · subst e
      funext j
      rw [es_upd_c, hC 9 (by decide) (by decide)]; rfl
    · rw [es_upd_o c1 e, hC c1 h1 h2]
      by_cases e1 : c1 = 1
      · subst e1
        funext j
        by_cases e2 : j = 2
        · subst e2
          show V 1 2 = (if V 9 (plI (x, a, b, c, m, y, z)) = -2 then V 1 2 + 1 else V 1 2)
          rw [pl, if_neg q]
        · exact (pT_1 e2).symm
      · rw [pT_o (by omega)]
  · exact es_upd_o c1 (by omega)
  · rw [hC 9 (by decide) (by decide)] at q
    rw [hC 1 (by decide) (by decide), w32_1 (by omega) (by omega)]
    by_cases e : c1 = 9
    · subst e
      funext j
      rw [es_upd_c, es_upd_n (by decide), hC 9 (by decide) (by decide)]; rfl
    · rw [es_upd_o c1 e]
      by_cases e1 : c1 = 1
      · subst e1
        funext j
        rw [es_upd_c, hC 1 (by decide) (by decide)]
        by_cases e2 : j = 2
        · subst e2
          rw [if_pos rfl]
          show V 1 2 + 1 = (if V 9 (plI (x, a, b, c, m, y, z)) = -2 then V 1 2 + 1 else V 1 2)
          rw [pl, if_pos q]
        · rw [if_neg e2]; exact (pT_1 e2).symm
      · rw [es_upd_o c1 e1, hC c1 h1 h2, pT_o (by omega)]
  · rw [es_upd_o c1 (by omega), es_upd_o c1 (by omega)]
end
