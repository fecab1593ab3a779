/-! THE TOWN'S TEXT (10): the model tells the town -/
theorem TI0_clr {M : es_M} (h : TI M) : TI0 (tclr M) := by
  obtain ⟨h1, ⟨s1, s2, -, -, -, -, s7, s8, s9⟩, h3, h4, h5⟩ := h
  have a1 : tclr M 14 1 = 0 := by simp [tclr]
  have a2 : tclr M 14 2 = 0 := by simp [tclr]
  have a3 : tclr M 14 3 = 0 := by simp [tclr]
  have a4 : tclr M 14 4 = M 14 4 := by simp [tclr]
  have a5 : tclr M 14 5 = M 14 5 := by simp [tclr]
  have k1 : tclr M 25 0 = 0 := by simp [tclr]
  have k2 : tclr M 35 0 = 0 := by simp [tclr]
  have k3 : tclr M 45 0 = 0 := by simp [tclr]
  have b1 : tclr M 91 41 = 0 := by simp [tclr]
  have b2 : tclr M 91 47 = 0 := by simp [tclr]
  have b3 : tclr M 91 30 = 0 := by simp [tclr]
  have b4 : tclr M 91 13 = M 91 13 := clr_91 (by decide)
  refine ⟨⟨h1.congr (fun c hc => clr_o (by omega)) (clr_91 (by decide)) (clr_91 (by decide)), SI_0 ?_ ?_ a1 a2 a3 ?_ ?_ ?_, TIkept_0 ⟨k1, k2, k3⟩ (fun i i0 i1 => ?_), ?_, ?_⟩, a1, a2, a3, k1, k2, k3⟩
  · unfold SIsc at s1 ⊢
    show (0 ≤ tclr M 14 1 ∧ tclr M 14 1 ≤ 60 ∧ tclr M 91 41 = tclr M 14 1) ∧ (0 ≤ tclr M 14 2 ∧ tclr M 14 2 ≤ 10 ∧ tclr M 91 47 = tclr M 14 2) ∧ (0 ≤ tclr M 14 3 ∧ tclr M 14 3 ≤ 12 ∧ tclr M 91 30 = tclr M 14 3) ∧ (0 ≤ tclr M 14 5 ∧ tclr M 14 5 ≤ 99 ∧ tclr M 91 13 = tclr M 14 5)
    rw [a1, a2, a3, a5, b1, b2, b3, b4]
    exact ⟨by decide, by decide, by decide, s1.2.2.2⟩
  · show SIsh (tclr M 1 0) (tclr M 14 4) (tclr M 98)
    rw [clr_o (c := 1) (by decide), a4, clr_o (c := 98) (by decide)]; exact s2
  · show SIbz (tclr M 20) (tclr M 121)
    rw [clr_o (c := 20) (by decide), clr_o (c := 121) (by decide)]; exact s7
  · show SIop (tclr M 21) (tclr M 22) (tclr M 99) (tclr M 100)
    rw [clr_o (c := 21) (by decide), clr_o (c := 22) (by decide), clr_o (c := 99) (by decide), clr_o (c := 100) (by decide)]; exact s8
  · show SIst (tclr M 23) (tclr M 102)
    rw [clr_o (c := 23) (by decide), clr_o (c := 102) (by decide)]; exact s9
  · unfold tclr
    rw [if_neg (by omega), if_neg (by omega), if_neg (by omega), if_neg (by omega), if_pos ⟨rfl, i0, i1⟩]
  · have e1 : tclr M 55 1 = 0 := by simp [tclr]
    have e2 : tclr M 91 16 = 0 := by simp [tclr]
    unfold TItext
    rw [e1, e2]
    exact ⟨by decide, fun i i0 i1 => by omega⟩
  · intro i i0 i1
    rw [clr_o (c := 109) (by decide)]; exact h5 i i0 i1
theorem TI0_l {M : es_M} (h : TI M) (l : List It) : GoodL M l → pBL (tclr M) l 1 0 ≤ 18 → pBL (tclr M) l 1 1 ≤ 10 → TI0 (pBL (tclr M) l) := by
  refine snoc_ind (P := fun l => GoodL M l → pBL (tclr M) l 1 0 ≤ 18 → pBL (tclr M) l 1 1 ≤ 10 → TI0 (pBL (tclr M) l)) (fun _ _ _ => TI0_clr h) (fun l it ih g n1 v1 => ?_) l
  obtain ⟨g1, g2⟩ := g.init
  have V := VI_l h l g1
  rw [pBL_snoc] at n1 v1 ⊢
  unfold pB at n1 v1 ⊢
  rcases g2 with ⟨z, c1, c2, c3, c4⟩ | ⟨z, ⟨c1, c2, c3, c4⟩, c5, c6, c7, c8, c9, c10⟩
  · rw [if_neg (by omega)] at n1 v1 ⊢
    rw [pT_1 (by decide)] at n1 v1
    obtain ⟨k, a, b, c, m, x, y⟩ := it
    exact TI0_pT (ih g1 n1 v1) c1 c2 c3 c4
  · rw [if_pos z] at n1 v1 ⊢
    obtain ⟨k, a, b, f, r, kd, w⟩ := it
    have n1' : pBL (tclr M) l 1 0 + 1 ≤ 18 := n1
    have v1' : pBL (tclr M) l 1 1 + kd ≤ 10 := v1
    simp only at c1 c2 c3 c4 c5 c6 c7 c8 c9 c10
    exact TI0_pS (ih g1 (by omega) (by omega)) c1 c2 c3 ((V.2.2.2.2.2.1 a b c1.1 c1.2 c2.1 c2.2).mpr (by rw [c4]; decide)) c5 c6 c7 c8 c9 c10 (by omega) v1'
theorem pBL_o {V : es_M} {c : Nat} (h : (c = 12 ∨ 14 ≤ c) ∧ c ≠ 91 ∧ ¬ (93 ≤ c ∧ c ≤ 97) ∧ c ≠ 101 ∧ c ≠ 106 ∧ c ≠ 107) (l : List It) : pBL V l c = V c := by
  refine snoc_ind (P := fun l => pBL V l c = V c) rfl (fun l it ih => ?_) l
  rw [pBL_snoc]
  unfold pB
  split
  · rw [pS_o (by omega), ih]
  · rw [pT_o (by omega), ih]
theorem pBL_91 {V : es_M} {j : Int} (h3 : j ≠ 3) (h23 : j ≠ 23) (l : List It) : pBL V l 91 j = V 91 j := by
  refine snoc_ind (P := fun l => pBL V l 91 j = V 91 j) rfl (fun l it ih => ?_) l
  rw [pBL_snoc]
  unfold pB
  split
  · rw [pS_91 h3 h23, ih]
  · rw [pT_o (by decide), ih]
section
variable {d : Nat} {M V N : es_M} {Q : Int → es_M → Prop}
theorem s_m_services (hV : TI V) (hn : N 91 3 = V 1 0) (h96 : ∀ s, 0 ≤ s → s < V 1 0 → N 96 s = V 6 s) (k : ∀ N', (∀ (c : Nat) (j : Int), c ≠ 106 → c ≠ 107 → ¬ (c = 91 ∧ j = 23) → N' c j = N c j) → N' 91 23 = V 1 1 → (∀ v, 0 ≤ v → v < V 1 1 → N' 106 v = V 10 v ∧ N' 107 v = V 11 v) → Q 0 N') : es_Call (d + 1) 184 [.inr (.inr 91)] N Q := by
  apply m_Model_services
  intro G hG
  apply k_Model_services_0 hG
  have n18 := hV.n
  have v10 := hV.v
  have key : ∀ (r : Nat) (s : Int) (N1 : es_M), 0 ≤ s → s + r = V 1 0 → (∀ (c : Nat) (j : Int), c ≠ 106 → c ≠ 107 → ¬ (c = 91 ∧ j = 23) → N1 c j = N c j) → N1 91 23 = preS V s.toNat → (∀ v, 0 ≤ v → v < preS V s.toNat → N1 106 v = V 10 v ∧ N1 107 v = V 11 v) → G 7 [lr 91, li s, none] [] N1 := by
    intro r
    induction r with
    | zero =>
      intro s N1 s0 sr f1 f2 f3
      apply k_Model_services_7 hG
      rw [f1 91 3 (by decide) (by decide) (fun z => absurd z.2 (by decide)), hn]
      refine ⟨fun _ => ?_, fun z => absurd (by omega) z⟩
      have e : s = V 1 0 := by omega
      subst e
      rw [← hV.nv] at f2 f3
      exact k N1 f1 f2 f3
    | succ r ih =>
      intro s N1 s0 sr f1 f2 f3
      apply k_Model_services_7 hG
      rw [f1 91 3 (by decide) (by decide) (fun z => absurd z.2 (by decide)), hn]
      refine ⟨fun z => absurd z (by omega), fun _ => ?_⟩
      have s1 : s < V 1 0 := by omega
      have sv := hV.sv s0 s1
      have st := hV.st s0 s1
      have ps := preS_s (T := V) s0
      have c0 : 0 ≤ V 6 s ∧ V 6 s ≤ 2 := st.2.2.2.2.2.2.2.2.2.1
      have key2 : ∀ (r2 : Nat) (k2 : Int) (N2 : es_M), 0 ≤ k2 → k2 + r2 = V 6 s → (∀ (c : Nat) (j : Int), c ≠ 106 → c ≠ 107 → ¬ (c = 91 ∧ j = 23) → N2 c j = N c j) → N2 91 23 = preS V s.toNat + k2 → (∀ v, 0 ≤ v → v < preS V s.toNat + k2 → N2 106 v = V 10 v ∧ N2 107 v = V 11 v) → G 17 [lr 91, li s, li k2] [] N2 := by
        intro r2
        induction r2 with
        | zero =>
          intro k2 N2 k0 kr g1 g2 g3
          apply k_Model_services_17 hG
          have e96 : N2 96 s = V 6 s := (g1 96 s (by decide) (by decide) (fun z => absurd z.1 (by decide))).trans (h96 s s0 s1)
          rw [e96]
          refine ⟨by omega, fun _ => ?_, fun z => absurd (by omega) z⟩
          rw [w32_1 (by omega) (by omega)]
          have e : k2 = V 6 s := by omega
          subst e
          exact ih (s + 1) N2 (by omega) (by omega) g1 (by rw [ps, g2]) (fun v a b => g3 v a (by rw [ps] at b; exact b))
        | succ r2 ih2 =>
          intro k2 N2 k0 kr g1 g2 g3
          apply k_Model_services_17 hG
          have e96 : N2 96 s = V 6 s := (g1 96 s (by decide) (by decide) (fun z => absurd z.1 (by decide))).trans (h96 s s0 s1)
          have pl := preS_lt hV s0 s1 k0 (by omega)
          have sk := sv k2 k0 (by omega)
          have u96 : ∀ x y, es_upd N2 106 x y 96 s = V 6 s := fun x y => by rw [es_upd_n (by decide), e96]
          have u23 : ∀ x y, es_upd N2 106 x y 91 23 = preS V s.toNat + k2 := fun x y => by rw [es_upd_n (by decide), g2]
          have u23' : ∀ x y x' y', es_upd (es_upd N2 106 x y) 107 x' y' 91 23 = preS V s.toNat + k2 := fun x y x' y' => by rw [es_upd_n (by decide), es_upd_n (by decide), g2]
          rw [e96, u96, u23, u23', u23', g2, w32_1 (k := k2) (by omega) (by omega), w32_1 (k := preS V s.toNat + k2) (by omega) (by omega)]
          have go : ∀ x, x = V 11 (preS V s.toNat + k2) → G 17 [lr 91, li s, li (k2 + 1)] [] (es_upd (es_upd (es_upd N2 106 (preS V s.toNat + k2) s) 107 (preS V s.toNat + k2) x) 91 23 (preS V s.toNat + k2 + 1)) := by
            intro x hx
            refine ih2 (k2 + 1) _ (by omega) (by omega) (fun c j a b e => ?_) ?_ (fun v a b => ?_)
            · rw [show es_upd (es_upd (es_upd N2 106 (preS V s.toNat + k2) s) 107 (preS V s.toNat + k2) x) 91 23 (preS V s.toNat + k2 + 1) c j = es_upd (es_upd N2 106 (preS V s.toNat + k2) s) 107 (preS V s.toNat + k2) x c j from if_neg e, es_upd_n b, es_upd_n a]
              exact g1 c j a b e
            · rw [es_upd_s]; omega
            · rw [es_upd_n (by decide), es_upd_n (by decide), es_upd_c, es_upd_n (by decide), es_upd_c, es_upd_n (by decide)]
              by_cases e : v = preS V s.toNat + k2
              · rw [if_pos e, if_pos e, e, sk.1]; exact ⟨rfl, hx⟩
              · rw [if_neg e, if_neg e]; exact g3 v a (by omega)
          refine ⟨by omega, fun z => absurd z (by omega), fun _ => ⟨by omega, by omega, fun z => ⟨by omega, go _ ?_⟩, fun z => ⟨by omega, go _ ?_⟩⟩⟩
          · rw [sk.2, if_neg z]
          · rw [sk.2, if_pos z]
      exact key2 (V 6 s).toNat 0 N1 (by omega) (by omega) f1 (by rw [f2]; omega) (fun v a b => f3 v a (by omega))
  refine key (V 1 0).toNat 0 _ (by omega) (by omega) (fun c j a b e => if_neg e) ?_ (fun v a b => absurd b (by show ¬ v < 0; omega))
  rw [es_upd_s]; rfl
end
