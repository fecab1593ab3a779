/-! SHARES (2): the class shares -/
section
variable {d : Nat} {Q : Int → es_M → Prop} {T M : es_M} {L N : Int} {cst : Int → Int}
theorem rep74 {M' : es_M} (hR : RepC T M) (h : ∀ c, c ≠ 74 → c ≠ 58 → c ≠ 59 → M' c = M c) : RepC T M' := by
  intro c j q
  rw [h c (by rintro rfl; cases q) (by rintro rfl; cases q) (by rintro rfl; cases q)]; exact hR _ _ q
theorem num2 {n : Nat} {S : Int} (hn : n ≤ 3) (S0 : 0 ≤ S) (S1 : S < 1024) {m : Nat} {U : Int} (U0 : 0 ≤ U) (U1 : U < 1024) (e : (n : Int) * 1024 + S = (m : Int) * 1024 + U) : n = m ∧ S = U := by omega
theorem s_share (hT : TI T) (hR : RepC T M) (hc : cOK (allF T) cst) (h73 : ∀ S, 0 ≤ S → S ≤ allF T → M 73 S = cst S) {K : Nat} (hK : K ≤ 3)
    (hno : ¬ shF L cst K (allF T) < 1000000 → ∀ M', (∀ c, c ≠ 74 → M' c = M c) → Q (-2) M')
    (hyes : shF L cst K (allF T) < 1000000 → ∀ M', (∀ c, c ≠ 74 → c ≠ 58 → c ≠ 59 → M' c = M c) → RwC (tlR L cst K (allF T) (shF L cst K (allF T)) (0, fun _ => 0)) M' → Q (shF L cst K (allF T)) M') : es_Call (d + 4) 117 [.inr (.inr 72), .inl ((K : Int) + 1), .inl L, .inr (.inr 58)] M Q := by
  have ha := hT.all
  have NN : allF T < 1024 := by omega
  generalize hN : allF T = N at *
  apply m_Shares_share
  intro G hG
  apply k_Shares_share_0 hG
  refine s_allServices hT hR ?_
  rw [hN]
  clear hN
  have w1 : w32 (N + 1) = N + 1 := w32_1 (by omega) (by omega)
  rw [w1]
  refine ⟨by omega, ?_⟩
  have K1 : w32 ((K : Int) + 1 - 1) = K := by rw [w32_s (by omega) (by omega)]; omega
  -- telling
  have L2 : ∀ M' : es_M, (∀ c, c ≠ 74 → M' c = M c) → (∀ n : Nat, n < K → lsOK L cst N n M') → shF L cst K N < 1000000 → G 137 [lr 72, none, li L, lr 58, none, li (shF L cst K N), li N, li (shF L cst K N), li (K : Nat), none] [] (es_upd M' 58 1 0) := by
    intro M' f1 f2 lt
    have key : ∀ (n : Nat) (left bd : Int) (r : RW) (X : es_M), n ≤ K → 0 ≤ left → left ≤ N → (-1000000 * (3 - (n : Int)) - 1000000 ≤ bd ∧ bd ≤ 1000000) → (∀ c, c ≠ 58 → c ≠ 59 → X c = M' c) → RwC r X → (∀ X', (∀ c, c ≠ 58 → c ≠ 59 → X' c = M' c) → RwC (tlR L cst n left bd r) X' → Q (shF L cst K N) X') → G 137 [lr 72, none, li L, lr 58, none, li (shF L cst K N), li left, li bd, li (n : Nat), none] [] X := by
      intro n
      induction n with
      | zero =>
        intro left bd r X _ _ _ _ x1 x2 fin
        apply k_Shares_share_137 hG
        exact ⟨fun _ => s_putR x2 (fun X' g1 _ g3 => fin X' (fun c c1 c2 => by rw [g1 c c1 c2]; exact x1 c c1 c2) g3), fun z => absurd (by decide) z⟩
      | succ n ih =>
        intro left bd r X hn l0 l1 bdr x1 x2 fin
        have lsX : lsOK L cst N n X := fun S S0 S1 => by rw [x1 74 (by decide) (by decide)]; exact f2 n (by omega) S S0 S1
        have h73X : ∀ S, 0 ≤ S → S ≤ N → X 73 S = cst S := fun S S0 S1 => by rw [x1 73 (by decide) (by decide), f1 73 (by decide)]; exact h73 S S0 S1
        have nn : ¬ ((n + 1 : Nat) : Int) ≤ 0 := by omega
        have ws : w32 (((n + 1 : Nat) : Int) + -1) = (n : Nat) := by rw [w32_s (by omega) (by omega)]; omega
        have l31 : left < 2147483648 := by omega
        apply k_Shares_share_137 hG
        rw [ws, show ((n + 1 : Nat) : Int) = (n : Int) + 1 by omega]
        refine ⟨fun z => absurd z (by omega), fun _ => s_firstShare hc NN h73X (by omega) lsX l0 l1 (fun o ho => s_putR x2 (fun X2 g1 _ g3 => ?_))⟩
        have ef := fsF_eq ho
        have o0 := ho.1.1
        have oN : o ≤ N := Int.le_trans ho.1.2.1 l1
        have co := hc o o0 oN
        have o1024 : 0 ≤ o ∧ o < 1024 := ⟨o0, Int.lt_of_le_of_lt oN NN⟩
        have cX : X2 73 o = cst o := by rw [g1 73 (by decide) (by decide)]; exact h73X o o0 oN
        have b1 : w32 (bd - cst o) = bd - cst o := by clear lt; exact w32_s (by omega) (by omega)
        have b2 : w32 (bd - 0) = bd := by clear lt; rw [w32_s (by omega) (by omega)]; omega
        have r1 : -1000000 * (3 - (n : Int)) - 1000000 ≤ bd - cst o ∧ bd - cst o ≤ 1000000 := by clear lt; omega
        have r2 : -1000000 * (3 - (n : Int)) - 1000000 ≤ bd ∧ bd ≤ 1000000 := by clear lt; omega
        have nK : n ≤ K := by clear lt; omega
        have dr := dfS_r l0 o
        have ed : es_and left (es_xor o (-1)) = dfS left o := ei_dif l0 l31 o0 (Int.lt_trans o1024.2 (by decide))
        rw [ed, cX, b1, b2]
        clear ed
        have x3 : ∀ c, c ≠ 58 → c ≠ 59 → X2 c = M' c := fun c c1 c2 => by rw [g1 c c1 c2]; exact x1 c c1 c2
        refine ⟨fun z => ⟨o1024, ih _ _ _ X2 nK dr.1 (Int.le_trans dr.2 l1) r1 x3 g3 (fun X' a1 a2 => fin X' a1 ?_)⟩, fun z => ih _ _ _ X2 nK dr.1 (Int.le_trans dr.2 l1) r2 x3 g3 (fun X' a1 a2 => fin X' a1 ?_)⟩
        · show RwC (tlR L cst n (dfS left (fsF L cst n left bd)) (if L = 0 then bd - cst (fsF L cst n left bd) else bd) (apd r (fsF L cst n left bd))) X'
          rw [ef, if_pos z]; exact a2
        · show RwC (tlR L cst n (dfS left (fsF L cst n left bd)) (if L = 0 then bd - cst (fsF L cst n left bd) else bd) (apd r (fsF L cst n left bd))) X'
          rw [ef, if_neg z]; exact a2
    have sr := sh_r (L := L) hc K N ha.1 (Int.le_refl _)
    refine key K N _ (0, fun _ => 0) _ (Nat.le_refl _) ha.1 (Int.le_refl _) (by omega) (fun c c1 _ => es_upd_o c c1) ⟨⟨es_upd_s, (by decide : (0 : Int) ≤ 0), (by decide : (0 : Int) ≤ 120)⟩, fun i i0 i1 => absurd (show i < 0 from i1) (by omega)⟩ (fun X' a1 a2 => hyes lt X' (fun c c1 c2 c3 => by rw [a1 c c2 c3]; exact f1 c c1) a2)
  -- all levels
  have L1 : ∀ (m : Nat) (n : Nat) (M' : es_M), n + m = K + 1 → 1 ≤ n → (∀ c, c ≠ 74 → M' c = M c) → (∀ i : Nat, i < n → i < K → lsOK L cst N i M') → (n = K + 1 → M' 74 ((K : Int) * 1024 + N) = shF L cst K N) → G 29 [lr 72, li ((K : Int) + 1), li L, lr 58, li N, li (n : Nat), none, none, none, none] [] M' := by
    intro m
    induction m with
    | zero =>
      intro n M' nm n1 f1 f2 f3
      have en : n = K + 1 := by omega
      obtain ⟨x1, x2, x3⟩ := w1024 (n := K) (S := N) (by omega) ha.1 NN
      apply k_Shares_share_29 hG
      rw [K1, x1, f3 en]
      refine ⟨fun _ => ⟨⟨x2, x3⟩, fun z => c_Row_clear (L2 M' f1 (fun i hi => f2 i (by omega) hi) z), fun z => hno z M' f1⟩, fun z => absurd (by omega) z⟩
    | succ m ih =>
      intro n M' nm n1 f1 f2 f3
      have nK : n ≤ K := by omega
      have wn : w32 ((n : Int) + 1) = ((n + 1 : Nat) : Int) := by rw [w32_1 (by omega) (by omega)]; omega
      obtain ⟨p, rfl⟩ : ∃ p, n = p + 1 := ⟨n - 1, by omega⟩
      -- a level, from the set lo on
      have lev : ∀ lo : Int, 0 ≤ lo → lo ≤ N → (p + 1 = K ∨ lo = 0) → G 51 [lr 72, li ((K : Int) + 1), li L, lr 58, li N, li ((p + 1 : Nat) : Int), li lo, none, none, none] [] M' := by
        intro lo lo0 lo1 hlo
        refine es_upl (P := fun S => ∀ X : es_M, (∀ c, c ≠ 74 → X c = M c) → (∀ i : Nat, i < p + 1 → i < K → lsOK L cst N i X) → (∀ U, lo ≤ U → U < S → U ≤ N → X 74 (((p + 1 : Nat) : Int) * 1024 + U) = shF L cst (p + 1) U) → G 51 [lr 72, li ((K : Int) + 1), li L, lr 58, li N, li ((p + 1 : Nat) : Int), li S, none, none, none] [] X) (lo := lo) (n := N + 1) (by omega) ?_ ?_ M' f1 f2 (fun U a b => absurd b (by omega))
        · intro X g1 g2 g3
          apply k_Shares_share_51 hG
          rw [wn]
          refine ⟨fun _ => ih (p + 1 + 1) X (by omega) (by omega) g1 (fun i hi hiK => ?_) (fun e => ?_), fun z => absurd (by omega) z⟩
          · by_cases q : i = p + 1
            · subst q
              have : lo = 0 := by omega
              intro S S0 S1
              exact g3 S (by omega) (by omega) S1
            · exact g2 i (by omega) hiK
          · have e2 : p + 1 = K := by omega
            rw [← e2]; exact g3 N lo1 (by omega) (Int.le_refl _)
        · intro S S0 S1 ih2 X g1 g2 g3
          have lsX : lsOK L cst N p X := g2 p (by omega) (by omega)
          obtain ⟨x1, x2, x3⟩ := w1024 (n := p + 1) (S := S) (by omega) (by omega) (by omega)
          apply k_Shares_share_51 hG
          rw [w32_1 (k := S) (by omega) (by omega), x1]
          have lw := s_leastWith (d := d + 1) (L := L) (S := S) (Q := fun y2 M1 => ((0 ≤ ((p + 1 : Nat) : Int) * 1024 + S ∧ ((p + 1 : Nat) : Int) * 1024 + S < 4096) ∧ G 51 [lr 72, li ((K : Int) + 1), li L, lr 58, li N, li ((p + 1 : Nat) : Int), li (S + 1), none, none, none] [] (es_upd M1 74 (((p + 1 : Nat) : Int) * 1024 + S) y2))) hc NN (fun S S0 S1 => by rw [g1 73 (by decide)]; exact h73 S S0 S1) (n := p) (by omega) lsX (by omega) (by omega)
          rw [show (p : Int) + 1 = ((p + 1 : Nat) : Int) by omega] at lw
          refine ⟨fun z => absurd z (by omega), fun _ => lw ⟨⟨x2, x3⟩, ih2 _ (fun c hc' => by rw [es_upd_o c hc']; exact g1 c hc') (fun i hi hiK U U0 U1 => ?_) (fun U U0 U1 U2 => ?_)⟩⟩
          · rw [es_upd_j (by omega)]; exact g2 i hi hiK U U0 U1
          · rw [es_upd_c]
            by_cases q : U = S
            · rw [if_pos (by omega), q]
            · rw [if_neg (by omega)]; exact g3 U U0 (by omega) U2
      apply k_Shares_share_29 hG
      rw [wn]
      refine ⟨fun z => absurd z (by omega), fun _ => ⟨fun z => lev 0 (by decide) ha.1 (Or.inr rfl), fun z => lev N ha.1 (Int.le_refl _) (Or.inl (by omega))⟩⟩
  refine L1 K 1 _ (by omega) (by decide) (fun c hc' => es_cpy_o c hc') (fun i hi hiK S S0 S1 => ?_) (fun e => ?_)
  · have : i = 0 := by omega
    subst this
    unfold es_cpy
    rw [if_pos ⟨rfl, by omega, by omega⟩, show 0 + (((0 : Nat) : Int) * 1024 + S - 0) = S by omega]
    exact h73 S S0 S1
  · have : K = 0 := by omega
    subst this
    unfold es_cpy
    rw [if_pos ⟨rfl, by omega, by omega⟩, show 0 + (((0 : Nat) : Int) * 1024 + N - 0) = N by omega]
    exact h73 N ha.1 (Int.le_refl _)
end
