/-! LEVEL (9): the class's answer -/
section
variable {d : Nat} {Q : Int → es_M → Prop} {T M : es_M}
theorem s_fill80 {n v : Int} (n0 : 0 ≤ n) (n1 : n ≤ 396) (h : ∀ M', (∀ c, c ≠ 80 → M' c = M c) → (∀ j, 0 ≤ j → j < n → M' 80 j = v) → Q 0 M') : es_Call (d + 2) 291 [.inr (.inr 80), .inl 0, .inl n, .inl v] M Q := by
  apply m_Arrays_fill_1_80
  intro G hG
  apply k_Arrays_fill_1_80_0 hG
  apply c_Arrays_rangeCheck
  refine ⟨fun _ => ⟨fun _ => ⟨fun _ => ?_, fun z => absurd n1 z⟩, fun z => absurd (by decide) z⟩, fun z => absurd n0 z⟩
  refine es_up (P := fun k => ∀ M', (∀ c, c ≠ 80 → M' c = M c) → (∀ j, 0 ≤ j → j < k → M' 80 j = v) → G 10 [lr 80, none, li n, li v, li k] [] M') (n := n) n0 ?_ ?_ M (fun _ _ => rfl) (fun j j0 j1 => by omega)
  · intro M' f1 f2
    apply k_Arrays_fill_1_80_10 hG
    exact ⟨fun _ => h M' f1 f2, fun z => absurd (Int.le_refl _) z⟩
  · intro k k0 k1 ih M' f1 f2
    apply k_Arrays_fill_1_80_10 hG
    rw [w32_1 (by omega) (by omega)]
    refine ⟨fun z => absurd z (by omega), fun _ => ⟨by omega, ih _ (fun c hc => by rw [es_upd_o c hc, f1 c hc]) (fun j j0 j1 => ?_)⟩⟩
    rw [es_upd_c]
    by_cases e : j = k
    · rw [if_pos e]
    · rw [if_neg e]; exact f2 j j0 (by omega)
/-- nothing goes, nothing is over -/
theorem OPF_0 (hT : TI T) {f : Int → Int} (h : ∀ p, 0 ≤ p → p < ((2 * T 1 0).toNat : Int) → f p = 0) : OPF T (Bsv T (fun _ => -1)) f ∧ Csv T (fun _ => -1) = 0 ∧ coF (2 * T 1 0).toNat (ln T) f = 0 := by
  refine ⟨⟨fun p p0 p1 => ⟨by rw [h p p0 p1]; exact Int.le_refl _, fun z => by rw [h p p0 p1] at z; omega⟩, ⟨fun _ => 0, fun p p0 p1 => ⟨fun z => by have := (hT.gr.2 p p0 p1).2.2.2 z; show 0 ≤ ln T p + 0 - 0; omega, fun z => by rw [h p p0 p1] at z; omega⟩⟩, fun x _ _ => ?_⟩, ?_, ?_⟩
  · unfold Bsv dvF
    rw [sm_congr (h := fun _ => 0) (T 1 1).toNat (fun i _ _ => if_pos rfl), sm_0, sm_congr (h := fun _ => 0) (2 * T 1 0).toNat (fun p p0 p1 => by rw [h p p0 p1, Int.zero_mul]), sm_0]; rfl
  · unfold Csv
    rw [sm_congr (h := fun _ => 0) (T 1 1).toNat (fun i _ _ => if_pos rfl), sm_0]
  · unfold coF
    rw [sm_congr (h := fun _ => 0) (2 * T 1 0).toNat (fun p p0 p1 => by rw [h p p0 p1, Int.zero_mul]), sm_0]
def ofLs (M M' : es_M) : Prop := ∀ c : Nat, ¬ (79 ≤ c ∧ c ≤ 83) → c ≠ 58 → c ≠ 59 → M' c = M c
theorem s_solve (hT : TI T) (hR : RepC T M) (kn : (∀ w x, ACs T w x → 1000000 ≤ x) → ∀ M', ofLs M M' → M' 58 = M 58 → M' 59 = M 59 → Q (-2) M')
    (ky : ∀ q w0 L, QPs T q → L < 1000000 → ACs T w0 L → (∀ w x, ACs T w x → L ≤ x ∧ (x = L → smW T w0 w ∨ lxq T q w0 w)) → ∀ M', ofLs M M' → M' 58 1 = T 1 1 → (∀ i, 0 ≤ i → i < T 1 1 → M' 59 i = w0 i) → Q L M') : es_Call (d + 20) 142 [.inr (.inr 79), .inr (.inr 58)] M Q := by
  have hv := hT.v
  have hn := hT.n
  apply m_Level_solve
  intro G hG
  apply k_Level_solve_0 hG
  have hR0 : RepC T (es_upd (es_upd (es_upd M 79 8 1000000) 79 7 0) 79 6 0) := ((hR.upd rfl).upd rfl).upd rfl
  refine s_queueUp hT hR0 (fun M1 f1 qp => s_fill80 (by decide) (by decide) (fun M2 g1 g2 => ?_))
  have e79 : ∀ j, M2 79 j = es_upd (es_upd (es_upd M 79 8 1000000) 79 7 0) 79 6 0 79 j := fun j => by rw [g1 79 (by decide), f1 79 (by decide)]
  have b6 : M2 79 6 = 0 := by rw [e79, es_upd_s]
  have b7 : M2 79 7 = 0 := by rw [e79, es_upd_j (by decide), es_upd_s]
  have b8 : M2 79 8 = 1000000 := by rw [e79, es_upd_j (by decide), es_upd_j (by decide), es_upd_s]
  have hR2 : RepC T M2 := fun c j z => by
    have h0 : c ≠ 80 := fun e => by subst e; have : persC 80 j = false := rfl; rw [this] at z; cases z
    have h3 : c ≠ 83 := fun e => by subst e; have : persC 83 j = false := rfl; rw [this] at z; cases z
    rw [g1 c h0, f1 c h3]; exact hR0 c j z
  have e83 : M2 83 = M1 83 := g1 83 (by decide)
  have off2 : ∀ c : Nat, ¬ (79 ≤ c ∧ c ≤ 83) → M2 c = M c := fun c hc => by rw [g1 c (by omega), f1 c (by omega), es_upd_o c (by omega), es_upd_o c (by omega), es_upd_o c (by omega)]
  obtain ⟨z1, z2, z3⟩ := OPF_0 hT (f := fun p => M2 80 (36 * 0 + p)) (fun p p0 p1 => g2 _ (by omega) (by omega))
  have ch := s_choose hT qp (d := d + 14 - (T 1 1).toNat) (T 1 1).toNat 0 0 M2 (fun _ => -1) (fun _ => 0) (fun _ M3 => (((M3 79 8) < 1000000 → es_Call (d + 19) 88 [.inr (.inr 58)] M3 (fun _ M4 => G 55 [lr 79, lr 58, li 0] [] M4)) ∧ (¬ (M3 79 8) < 1000000 → Q (-2) M3))) (by omega) (by decide) hR2 e83 ⟨fun j j0 j1 => by omega, fun s _ _ _ => rfl, by rw [b6]; decide⟩ (fun x hx => by have := z1.min hT hx; omega) (fun _ => ⟨z1, fun p p0 p1 => by rw [g2 _ (by omega) (by omega)]; decide, by omega⟩) (by rw [b8]; exact Int.le_refl _) (fun M3 h3 r3 => ?_)
  · rw [show d + 14 - (T 1 1).toNat + (T 1 1).toNat + 5 = d + 19 by omega] at ch
    exact ch
  · rw [b8, b7] at r3
    have off3 : ∀ c : Nat, ¬ (79 ≤ c ∧ c ≤ 83) → M3 c = M c := fun c hc => by rw [h3.1 c (by omega) (by omega) (by omega) (by omega)]; exact off2 c hc
    have hR3 := ofLv.rep hR2 h3
    refine ⟨fun lt => c_Row_clear ?_, fun ge => ?_⟩
    · rcases r3 with ⟨y, -⟩ | ⟨-, w0, -, ac, en, best⟩
      · omega
      · refine es_up (P := fun k => ∀ M4, (∀ c : Nat, c ≠ 58 → c ≠ 59 → M4 c = M3 c) → M4 58 1 = k → (∀ i, 0 ≤ i → i < k → M4 59 i = w0 i) → G 55 [lr 79, lr 58, li k] [] M4) (n := T 1 1) hv.1 ?_ ?_ _ (fun c a b => es_upd_o c a) es_upd_s (fun i i0 i1 => by omega)
        · intro M4 u1 u2 u3
          apply k_Level_solve_55 hG
          have e11 : M4 1 1 = T 1 1 := by rw [u1 1 (by decide) (by decide)]; exact hR3 1 1 rfl
          rw [e11, u1 79 (by decide) (by decide)]
          refine ⟨fun _ => ?_, fun y => absurd (Int.le_refl _) y⟩
          exact ky (M1 83) w0 _ qp lt ac (fun w x acw => best w x (fun j j0 j1 => by omega) acw) M4 (fun c a b e => by rw [u1 c b e]; exact off3 c a) u2 u3
        · intro k k0 k1 ih M4 u1 u2 u3
          apply k_Level_solve_55 hG
          have e11 : M4 1 1 = T 1 1 := by rw [u1 1 (by decide) (by decide)]; exact hR3 1 1 rfl
          rw [e11, u1 79 (by decide) (by decide), w32_1 (by omega) (by omega)]
          refine ⟨fun y => absurd y (by omega), fun _ => ?_⟩
          have en1 := en.2 k k0 k1
          refine s_has en.1.1 (by have := en.1.2; omega) k0 (by omega) (fun hb => es_t1 ?_) (fun hb => es_t0 ?_)
          · refine s_put' (by omega) (by omega) (fun M5 v1 v2 v3 v4 v5 => ih M5 (fun c a b => by rw [v1 c a b]; exact u1 c a b) (by omega) (fun i i0 i1 => ?_))
            by_cases e : i = k
            · rw [e, ← u2, v4, u2, en1.1 hb]
            · rw [v5 i (by omega)]; exact u3 i i0 (by omega)
          · refine s_put' (by omega) (by omega) (fun M5 v1 v2 v3 v4 v5 => ih M5 (fun c a b => by rw [v1 c a b]; exact u1 c a b) (by omega) (fun i i0 i1 => ?_))
            by_cases e : i = k
            · rw [e, ← u2, v4, u2, en1.2 hb]
            · rw [v5 i (by omega)]; exact u3 i i0 (by omega)
    · rcases r3 with ⟨y, -, no⟩ | ⟨y, -⟩
      · exact kn (fun w x ac => no w x (fun j j0 j1 => by omega) ac) M3 (fun c a _ _ => off3 c a) (off3 58 (by decide)) (off3 59 (by decide))
      · omega
end
