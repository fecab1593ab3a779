/-! THE TOWN'S TEXT (11): the model's call -/
def FinM (M : es_M) (l : List It) (M2 : es_M) : Prop := (M2 91 3 = pBL (tclr M) l 91 3 ∧ M2 91 23 = pBL (tclr M) l 1 1 ∧ M2 91 16 = 0 ∧ M2 91 41 = 0 ∧ M2 91 47 = 0 ∧ M2 91 30 = 0) ∧ (∀ c : Nat, 93 ≤ c → c ≤ 97 → M2 c = pBL (tclr M) l c) ∧ M2 101 = pBL (tclr M) l 101 ∧ (∀ v, 0 ≤ v → v < pBL (tclr M) l 1 1 → M2 106 v = pBL (tclr M) l 10 v ∧ M2 107 v = pBL (tclr M) l 11 v) ∧
  (∀ j, M2 137 j = if 0 ≤ j ∧ j < 3 then 0 else M 137 j) ∧ (∀ (c : Nat) (j : Int), 91 ≤ c → ¬ (93 ≤ c ∧ c ≤ 97) → c ≠ 101 → c ≠ 104 → c ≠ 105 → c ≠ 106 → c ≠ 107 → c ≠ 137 → ¬ (c = 91 ∧ (j = 0 ∨ j = 3 ∨ j = 16 ∨ j = 17 ∨ j = 18 ∨ j = 19 ∨ j = 20 ∨ j = 23 ∨ j = 30 ∨ j = 41 ∨ j = 47)) → M2 c j = M c j)
theorem tus_rng {M : es_M} {l : List It} (g : GoodL M l) {it : It} (h : it ∈ tus l) : 0 ≤ plI it ∧ plI it < 1728 := by
  unfold tus at h
  obtain ⟨h1, h2⟩ := List.mem_filter.mp h
  obtain ⟨l1, l2, e⟩ := List.append_of_mem h1
  have w := g l1 it l2 e
  have ne : ¬ it.1 = 0 := by simpa using h2
  rcases w with ⟨z, c1, c2, c3, c4⟩ | ⟨z, -⟩
  · unfold plI; omega
  · exact absurd z ne
section
variable {d : Nat} {M M0 : es_M} {Q : Int → es_M → Prop}
theorem s_m_town (h : TI M) (hm : ∀ c : Nat, 91 ≤ c → M0 c = M c) {R : Int × Bool × List It} (hR : prs M (M 56) (min (M 55 1) 60) 15 0 [] = R)
    (kf : ¬ (R.2.1 = true ∧ M 55 1 ≤ R.1) → ∀ M2, MRw M R.2.2 M2 → lowF M0 M2 → Q (-1 - R.1) M2)
    (kn : R.2.1 = true → M 55 1 ≤ R.1 → ¬ (pBL (tclr M) R.2.2 1 0 ≤ 18 ∧ pBL (tclr M) R.2.2 1 1 ≤ 10) → ∀ M2, MRw M R.2.2 M2 → lowF M0 M2 → Q (-100) M2)
    (ky : R.2.1 = true → M 55 1 ≤ R.1 → pBL (tclr M) R.2.2 1 0 ≤ 18 → pBL (tclr M) R.2.2 1 1 ≤ 10 → ∀ M2, FinM M R.2.2 M2 → lowF M0 M2 → Q (R.2.2.length : Nat) M2) : es_Call (d + 5) 173 [.inr (.inr 91)] M0 Q := by
  apply m_Model_town
  intro G hG
  apply k_Model_town_0 hG
  obtain ⟨⟨x0, x1, x2⟩, x3⟩ := h.X
  have e16 : es_upd M0 91 0 0 91 16 = M 55 1 := by rw [es_upd_j (by decide), hm 91 (by decide), x2]
  rw [e16]
  have e3 : es_upd (es_upd (es_upd (es_upd M0 91 0 0) 91 16 0) 91 17 0) 91 18 (min (M 55 1) 60) 91 3 = M 91 3 := by rw [es_upd_j (by decide), es_upd_j (by decide), es_upd_j (by decide), es_upd_j (by decide), hm 91 (by decide)]
  rw [e3]
  generalize hN : es_upd (es_upd (es_upd (es_upd (es_upd (es_upd M0 91 0 0) 91 16 0) 91 17 0) 91 18 (min (M 55 1) 60)) 91 19 (M 91 3)) 91 20 0 = N
  have n0 : N 91 0 = 0 := by rw [← hN, es_upd_j (by decide), es_upd_j (by decide), es_upd_j (by decide), es_upd_j (by decide), es_upd_j (by decide), es_upd_s]
  have n16 : N 91 16 = 0 := by rw [← hN, es_upd_j (by decide), es_upd_j (by decide), es_upd_j (by decide), es_upd_j (by decide), es_upd_s]
  have n17 : N 91 17 = 0 := by rw [← hN, es_upd_j (by decide), es_upd_j (by decide), es_upd_j (by decide), es_upd_s]
  have n18 : N 91 18 = min (M 55 1) 60 := by rw [← hN, es_upd_j (by decide), es_upd_j (by decide), es_upd_s]
  have n19 : N 91 19 = M 91 3 := by rw [← hN, es_upd_j (by decide), es_upd_s]
  have n20 : N 91 20 = 0 := by rw [← hN, es_upd_s]
  have nc : ∀ c : Nat, c ≠ 91 → N c = M0 c := fun c hc => by rw [← hN, es_upd_o c hc, es_upd_o c hc, es_upd_o c hc, es_upd_o c hc, es_upd_o c hc, es_upd_o c hc]
  have nj : ∀ j : Int, ¬ (j = 0 ∨ j = 16 ∨ j = 17 ∨ j = 18 ∨ j = 19 ∨ j = 20) → N 91 j = M0 91 j := fun j hj => by rw [← hN, es_upd_j (by omega), es_upd_j (by omega), es_upd_j (by omega), es_upd_j (by omega), es_upd_j (by omega), es_upd_j (by omega)]
  clear hN
  have hX : TX (M 56) (min (M 55 1) 60) := ⟨by omega, fun i i0 i1 => (x3 i i0 (by omega)).2⟩
  have MXN : MX (M 56) (min (M 55 1) 60) 0 N := ⟨fun i i0 i1 => by rw [nc 103 (by decide), hm 103 (by decide)]; exact (x3 i i0 (by omega)).1, n18, n17, ⟨by omega, by omega⟩, hX⟩
  have MRN : MRw M [] N := by
    refine ⟨?_, fun c c0 c1 => ?_, ⟨n0, n16⟩, fun c j c0 c1 c4 c5 c9 => ?_⟩
    · rw [n19]; exact (clr_91 (j := 3) (by decide)).symm
    · rw [nc c (by omega), hm c (by omega)]; exact (clr_o (by omega)).symm
    · by_cases e : c = 91
      · subst e; rw [nj j (fun z => c9 ⟨rfl, z⟩), hm 91 (by decide)]
      · rw [nc c e, hm c c0]
  have MTN : MRt [] N := ⟨n20, fun k it hk => by cases hk⟩
  have lowN : lowF M0 N := fun c hc => nc c (by omega)
  have pok := prs_ok (M := M) (t := M 56) (L := min (M 55 1) 60) 15 0 [] (by omega) GoodL.nil
  have fin := s_m_reads (M0 := M0) (n0 := M 55 1) h hG hX ?_ ?_ 15 0 [] N rfl (by decide) GoodL.nil MXN MRN MTN lowN rfl
  · exact fin
  · rw [hR] at pok ⊢
    obtain ⟨g, ⟨p0, pL⟩, -, -⟩ := pok
    intro x M2 hb hx hw hl
    have no := kf (fun z => by rw [hb] at z; cases z.1) M2 hw hl
    have e17 : M2 91 17 = R.1 := hx.2.2.1
    have q167 : G 167 [lr 91, none, li x, li 0, none, none, none] [] M2 := by
      apply k_Model_town_167 hG
      refine es_f0 ?_
      rw [e17, w32_s (by omega) (by omega)]; exact no
    apply k_Model_town_124 hG
    refine es_t0 (k_Model_town_143 hG ⟨fun _ => q167, fun z => es_f0 ⟨fun _ => q167, fun z2 => k_Model_town_164 hG ?_⟩⟩)
    have e : R.1 = 60 := by omega
    rw [e] at no; exact no
  · rw [hR] at pok ⊢
    obtain ⟨g, ⟨p0, pL⟩, -, l15⟩ := pok
    intro M2 hb hx hw ht hl
    have e17 : M2 91 17 = R.1 := hx.2.2.1
    have e18 : M2 91 18 = min (M 55 1) 60 := hx.2.1
    have VV := VI_l h R.2.2 g
    have l15' : R.2.2.length ≤ 15 := by simpa using l15
    have hn18 := h.n
    have hv10 := h.v
    have q167 : ¬ (M 55 1 ≤ R.1) → G 167 [lr 91, none, li ((R.2.2.length : Nat) : Int), li 0, none, none, none] [] M2 := by
      intro z
      apply k_Model_town_167 hG
      refine es_f0 ?_
      rw [e17, w32_s (by omega) (by omega)]; exact kf (fun y => z y.2) M2 hw hl
    have q164 : ¬ (M 55 1 ≤ R.1) → R.1 = 60 → G 164 [none, none, none, none, none, none, none] [] M2 := by
      intro z e
      have no := kf (fun y => z y.2) M2 hw hl
      rw [e] at no
      exact k_Model_town_164 hG no
    apply k_Model_town_124 hG
    refine es_t1 ⟨fun z => k_Model_town_143 hG ⟨fun z2 => q167 (by omega), fun z2 => es_f0 ⟨fun z3 => q167 (by omega), fun z3 => q164 (by omega) (by omega)⟩⟩, fun z => ⟨fun z2 => ?_, fun z2 => es_f1 (q164 (by omega) (by omega))⟩⟩
    have done : M 55 1 ≤ R.1 := by omega
    apply k_Model_town_167 hG
    refine es_f1 ?_
    have v19 : M2 91 19 = pBL (tclr M) R.2.2 1 0 := hw.1.trans VV.1.1
    have v96 : M2 96 = pBL (tclr M) R.2.2 96 := hw.2.1 96 (by decide) (by decide)
    have srng : ∀ k : Nat, (k : Int) ≤ pBL (tclr M) R.2.2 1 0 → 0 ≤ sm96 (pBL (tclr M) R.2.2) k ∧ sm96 (pBL (tclr M) R.2.2) k ≤ 2 * k := by
      intro k
      induction k with
      | zero => intro _; exact ⟨Int.le_refl _, Int.le_refl _⟩
      | succ k ih =>
        intro hk
        have a := ih (by omega)
        have b := VV.2.2.2.2.2.2.2.2 k (by omega) (by omega)
        show 0 ≤ sm96 (pBL (tclr M) R.2.2) k + pBL (tclr M) R.2.2 96 k ∧ sm96 (pBL (tclr M) R.2.2) k + pBL (tclr M) R.2.2 96 k ≤ 2 * ((k + 1 : Nat) : Int)
        omega
    refine es_up (P := fun k => G 184 [lr 91, none, li ((R.2.2.length : Nat) : Int), none, none, li (sm96 (pBL (tclr M) R.2.2) k.toNat), li k] [] M2) (n := pBL (tclr M) R.2.2 1 0) (by have := VV.2.1.1; omega) ?_ ?_
    · apply k_Model_town_184 hG
      rw [v19, VV.2.2.2.1]
      have bad : ¬ (pBL (tclr M) R.2.2 1 0 ≤ 18 ∧ pBL (tclr M) R.2.2 1 1 ≤ 10) → G 227 [none, none, none, none, none, none, none] [] M2 := fun z3 => k_Model_town_227 hG (kn hb done z3 M2 hw hl)
      refine ⟨fun _ => ⟨fun z3 => bad (by omega), fun z3 => ⟨fun z4 => ?_, fun z4 => bad (by omega)⟩⟩, fun z3 => absurd (Int.le_refl _) z3⟩
      have ky2 := ky hb done (by omega) z4
      have hT := TI0_l h R.2.2 g (by omega) z4
      generalize hVd : pBL (tclr M) R.2.2 = V at *
      have key : ∀ (r : Nat) (k : Nat) (N1 : es_M), k + r = (tus R.2.2).length → (∀ c, c ≠ 101 → N1 c = es_upd M2 91 3 (V 1 0) c) → N1 101 = tuZ ((tus R.2.2).take k) (M 101) → G 241 [lr 91, none, li ((R.2.2.length : Nat) : Int), none, none, none, li (k : Int)] [] N1 := by
        intro r
        induction r with
        | zero =>
          intro k N1 kr f1 f2
          apply k_Model_town_241 hG
          have e20 : N1 91 20 = (tus R.2.2).length := by rw [f1 91 (by decide), es_upd_j (by decide), ht.1]
          rw [e20]
          refine ⟨fun _ => ?_, fun z5 => absurd (by omega) z5⟩
          rw [List.take_of_length_le (by omega), ← VV.2.2.2.2.2.2.2.1] at f2
          refine s_m_services (V := V) hT.1 (by rw [f1 91 (by decide), es_upd_s]) (fun s s0 s1 => ?_) (fun N2 q1 q2 q3 => ?_)
          · rw [f1 96 (by decide), es_upd_n (by decide), v96]
            exact (hT.1.st s0 s1).2.2.2.2.2.2.2.2.2.2.1
          · have key3 : ∀ (r3 : Nat) (k3 : Int) (N3 : es_M), 0 ≤ k3 → k3 + r3 = 3 → (∀ c, c ≠ 137 → N3 c = es_upd (es_upd (es_upd N2 91 41 0) 91 47 0) 91 30 0 c) → (∀ j, N3 137 j = if 0 ≤ j ∧ j < k3 then 0 else M 137 j) → G 297 [lr 91, none, li ((R.2.2.length : Nat) : Int), none, none, none, li k3] [] N3 := by
              intro r3
              induction r3 with
              | zero =>
                intro k3 N3 a0 a1 u1 u2
                apply k_Model_town_297 hG
                refine ⟨fun _ => ?_, fun z5 => absurd (by omega) z5⟩
                have e3 : k3 = 3 := by omega
                subst e3
                have w91 : ∀ j : Int, j ≠ 41 → j ≠ 47 → j ≠ 30 → N3 91 j = N2 91 j := fun j a b c => by rw [u1 91 (by decide), es_upd_j c, es_upd_j b, es_upd_j a]
                have wc : ∀ c : Nat, c ≠ 91 → c ≠ 137 → N3 c = N2 c := fun c a b => by rw [u1 c b, es_upd_o c a, es_upd_o c a, es_upd_o c a]
                have y91 : ∀ j : Int, j ≠ 41 → j ≠ 47 → j ≠ 30 → j ≠ 23 → j ≠ 3 → N3 91 j = M2 91 j := fun j a b c e f => by rw [w91 j a b c, q1 91 j (by decide) (by decide) (fun z => e z.2), f1 91 (by decide), es_upd_j f]
                have yc : ∀ c : Nat, c ≠ 91 → c ≠ 137 → c ≠ 106 → c ≠ 107 → c ≠ 101 → N3 c = M2 c := fun c a b e f i => by rw [wc c a b, (funext fun j => q1 c j e f (fun z => a z.1) : N2 c = N1 c), f1 c i, es_upd_o c a]
                refine ky2 N3 ⟨⟨?_, ?_, ?_, ?_, ?_, ?_⟩, fun c c0 c1 => ?_, ?_, fun v v0 v1 => ?_, u2, fun c j c0 c1 c2 c3 c4 c5 c6 c7 c9 => ?_⟩ (fun c hc => ?_)
                · rw [hVd, w91 3 (by decide) (by decide) (by decide), q1 91 3 (by decide) (by decide) (fun z => absurd z.2 (by decide)), f1 91 (by decide), es_upd_s, VV.1.1]
                · rw [hVd, w91 23 (by decide) (by decide) (by decide), q2]
                · rw [y91 16 (by decide) (by decide) (by decide) (by decide) (by decide)]; exact hw.2.2.1.2
                · rw [u1 91 (by decide), es_upd_j (by decide), es_upd_j (by decide), es_upd_s]
                · rw [u1 91 (by decide), es_upd_j (by decide), es_upd_s]
                · rw [u1 91 (by decide), es_upd_s]
                · rw [hVd, yc c (by omega) (by omega) (by omega) (by omega) (by omega), hw.2.1 c c0 c1, hVd]
                · rw [hVd, wc 101 (by decide) (by decide), (funext fun j => q1 101 j (by decide) (by decide) (fun z => absurd z.1 (by decide)) : N2 101 = N1 101), f2]
                · rw [hVd] at v1 ⊢
                  rw [wc 106 (by decide) (by decide), wc 107 (by decide) (by decide)]; exact q3 v v0 v1
                · by_cases e : c = 91
                  · subst e
                    rw [y91 j (by omega) (by omega) (by omega) (by omega) (by omega)]
                    exact hw.2.2.2 91 j c0 c1 c3 c4 (fun z => c9 ⟨rfl, by omega⟩)
                  · rw [yc c e c7 c5 c6 c2]
                    exact hw.2.2.2 c j c0 c1 c3 c4 (fun z => e z.1)
                · rw [yc c (by omega) (by omega) (by omega) (by omega) (by omega)]; exact hl c hc
              | succ r3 ih3 =>
                intro k3 N3 a0 a1 u1 u2
                apply k_Model_town_297 hG
                refine ⟨fun z5 => absurd z5 (by omega), fun _ => ⟨by omega, es_b0, ?_⟩⟩
                rw [w32_1 (by omega) (by omega)]
                refine ih3 (k3 + 1) _ (by omega) (by omega) (fun c hc => by rw [es_upd_o c hc]; exact u1 c hc) (fun j => ?_)
                rw [es_upd_c, u2]
                by_cases e : j = k3
                · rw [if_pos e, if_pos (by omega)]
                · rw [if_neg e]
                  by_cases e2 : 0 ≤ j ∧ j < k3
                  · rw [if_pos e2, if_pos (by omega)]
                  · rw [if_neg e2, if_neg (by omega)]
            refine key3 3 0 _ (by decide) (by decide) (fun c _ => rfl) (fun j => ?_)
            rw [es_upd_n (by decide), es_upd_n (by decide), es_upd_n (by decide), q1 137 j (by decide) (by decide) (fun z => absurd z.1 (by decide)), f1 137 (by decide), es_upd_n (by decide), if_neg (by omega)]
            exact hw.2.2.2 137 j (by decide) (by decide) (by decide) (by decide) (fun z => absurd z.1 (by decide))
        | succ r ih =>
          intro k N1 kr f1 f2
          apply k_Model_town_241 hG
          have e20 : N1 91 20 = (tus R.2.2).length := by rw [f1 91 (by decide), es_upd_j (by decide), ht.1]
          rw [e20]
          have lt : k < (tus R.2.2).length := by omega
          have hk : (tus R.2.2)[k]? = some (tus R.2.2)[k] := List.getElem?_eq_getElem lt
          have tk := ht.2 k _ hk
          have rr := tus_rng g (List.getElem_mem lt)
          have e104 : N1 104 k = plI (tus R.2.2)[k] := by rw [f1 104 (by decide), es_upd_n (by decide), tk.1]
          have e105 : N1 105 k = mI (tus R.2.2)[k] := by rw [f1 105 (by decide), es_upd_n (by decide), tk.2]
          have tl := tus_le R.2.2
          refine ⟨fun z5 => absurd z5 (by omega), fun _ => ⟨by omega, by omega, by rw [e104]; exact rr, ?_⟩⟩
          rw [e104, e105, w32_1 (by omega) (by omega)]
          refine ih (k + 1) _ (by omega) (fun c hc => by rw [es_upd_o c hc]; exact f1 c hc) ?_
          rw [List.take_succ, hk]
          unfold tuZ at f2 ⊢
          rw [List.foldl_append]
          funext j
          rw [es_upd_c, f2]
          rfl
      refine key _ 0 _ (Nat.zero_add _) (fun c _ => rfl) ?_
      rw [es_upd_o 101 (by decide)]
      exact funext fun j => hw.2.2.2 101 j (by decide) (by decide) (by decide) (by decide) (fun z => absurd z.1 (by decide))
    · intro k k0 k1 ih
      apply k_Model_town_184 hG
      rw [v19, v96]
      have sr := srng k.toNat (by omega)
      have vr := VV.2.2.2.2.2.2.2.2 k k0 k1
      have up := VV.2.1.2
      refine ⟨fun z3 => absurd z3 (by omega), fun _ => ⟨by omega, ?_⟩⟩
      rw [w32_1 (by omega) (by omega), w32_s (by omega) (by omega)]
      have e : sm96 (pBL (tclr M) R.2.2) (k + 1).toNat = sm96 (pBL (tclr M) R.2.2) k.toNat + pBL (tclr M) R.2.2 96 k := by
        rw [toN1 k0]
        show sm96 (pBL (tclr M) R.2.2) k.toNat + pBL (tclr M) R.2.2 96 (k.toNat : Int) = _
        rw [toNI k0]
      rw [e] at ih
      exact ih
end
