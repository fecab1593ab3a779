/-! THE TOWN'S TEXT (12): the class's call -/
theorem GoodL.take {M : es_M} {l : List It} (g : GoodL M l) (i : Nat) : GoodL M (l.take i) := by
  intro l1 it l2 e
  refine g l1 it (l2 ++ l.drop i) ?_
  rw [← List.cons_append, ← List.append_assoc, ← e, List.take_append_drop]
theorem pBL_mono {T : es_M} {l1 : List It} (l2 : List It) : GoodL T (l1 ++ l2) → pBL (tclr T) l1 1 0 ≤ pBL (tclr T) (l1 ++ l2) 1 0 ∧ pBL (tclr T) l1 1 1 ≤ pBL (tclr T) (l1 ++ l2) 1 1 := by
  refine snoc_ind (P := fun l2 => GoodL T (l1 ++ l2) → pBL (tclr T) l1 1 0 ≤ pBL (tclr T) (l1 ++ l2) 1 0 ∧ pBL (tclr T) l1 1 1 ≤ pBL (tclr T) (l1 ++ l2) 1 1) (fun _ => by rw [List.append_nil]; exact ⟨Int.le_refl _, Int.le_refl _⟩) (fun l it ih g => ?_) l2
  rw [← List.append_assoc] at g ⊢
  obtain ⟨g1, g2⟩ := g.init
  have x := ih g1
  rw [pBL_snoc]
  unfold pB
  rcases g2 with ⟨z, -⟩ | ⟨z, ⟨-, -, -, -⟩, -, -, c3, -⟩
  · rw [if_neg (by omega), pT_1 (by decide), pT_1 (by decide)]; exact x
  · rw [if_pos z]
    show pBL (tclr T) l1 1 0 ≤ pBL (tclr T) (l1 ++ l) 1 0 + 1 ∧ pBL (tclr T) l1 1 1 ≤ pBL (tclr T) (l1 ++ l) 1 1 + it.2.2.2.2.2.1
    omega
theorem take_s {l : List It} {i : Nat} (h : i < l.length) : l.take (i + 1) = l.take i ++ [l[i]] := by rw [List.take_succ, List.getElem?_eq_getElem h]; rfl
theorem turnsN_rng (T : es_M) : ∀ n : Nat, 0 ≤ turnsN T n ∧ turnsN T n ≤ n
  | 0 => ⟨Int.le_refl _, Int.le_refl _⟩
  | n + 1 => by
    have := turnsN_rng T n
    show 0 ≤ turnsN T n + (if T 101 n = -1 then 0 else 1) ∧ turnsN T n + (if T 101 n = -1 then 0 else 1) ≤ ((n + 1 : Nat) : Int)
    split <;> omega
theorem GoodL.at {M : es_M} {l : List It} (g : GoodL M l) {i : Nat} (h : i < l.length) : WFI (tjF M (l.take i)) l[i] := by
  refine g (l.take i) l[i] (l.drop (i + 1)) ?_
  rw [List.getElem_cons_drop, List.take_append_drop]
section
variable {d : Nat} {M T : es_M} {Q : Int → es_M → Prop} {l : List It}
theorem s_fits (hT : TI T) (g : GoodL T l) (e1 : M 1 = T 1) (hl : DR l (M 57)) (h3 : M 55 3 = l.length) (l15 : l.length ≤ 15) (k1 : pBL (tclr T) l 1 0 ≤ 18 → pBL (tclr T) l 1 1 ≤ 10 → Q 1 M) (k0 : ¬ (pBL (tclr T) l 1 0 ≤ 18 ∧ pBL (tclr T) l 1 1 ≤ 10) → Q 0 M) : es_Call (d + 1) 86 [.inr (.inr 55), .inr (.inr 1)] M Q := by
  apply m_Reader_fits
  intro G hG
  apply k_Reader_fits_0 hG
  have z0 : tclr T 1 = T 1 := clr_o (by decide)
  have st : G 13 [lr 55, none, li (pBL (tclr T) (l.take (0 : Int).toNat) 1 0), li (pBL (tclr T) (l.take (0 : Int).toNat) 1 1), li 0] [] M := by
    refine es_up (P := fun k => G 13 [lr 55, none, li (pBL (tclr T) (l.take k.toNat) 1 0), li (pBL (tclr T) (l.take k.toNat) 1 1), li k] [] M) (n := l.length) (by omega) ?_ ?_
    · apply k_Reader_fits_13 hG
      rw [h3, Int.toNat_natCast, List.take_length]
      refine ⟨fun _ => ⟨fun z => ⟨es_b0, k0 (by omega)⟩, fun z => ⟨fun z2 => ⟨es_b0, k0 (by omega)⟩, fun z2 => ⟨es_b1, k1 (by omega) (by omega)⟩⟩⟩, fun z => absurd (Int.le_refl _) z⟩
    · intro k a0 a1 ih
      apply k_Reader_fits_13 hG
      have kl : k.toNat < l.length := by omega
      have V := VI_l hT _ (g.take k.toNat)
      have Va := V.2.1
      have Vb := V.2.2.1
      have tl : (l.take k.toNat).length ≤ 15 := by rw [List.length_take]; omega
      have hn := hT.n
      have hv := hT.v
      have it := hl k.toNat l[k.toNat] (List.getElem?_eq_getElem kl)
      rw [toNI a0] at it
      rw [h3, w32_s (k := k * 7) (by omega) (by omega), w32_s (k := k * 7 + 5) (by omega) (by omega), w32_1 (k := k) (by omega) (by omega), w32_1 (k := pBL (tclr T) (l.take k.toNat) 1 0) (by omega) (by omega), show k * 7 = 7 * k by omega, it.1]
      rw [toN1 a0, take_s kl, pBL_snoc] at ih
      unfold pB at ih
      refine ⟨fun z => absurd z (by omega), fun _ => ⟨by omega, fun z => ?_, fun z => ⟨by omega, ?_⟩⟩⟩
      · rw [if_neg z, pT_1 (by decide), pT_1 (by decide)] at ih; exact ih
      · rw [if_pos z] at ih
        rw [(it.2.2.2.2.2 z).1]
        have w := g.at kl
        have kd : 0 ≤ l[k.toNat].2.2.2.2.2.1 ∧ l[k.toNat].2.2.2.2.2.1 ≤ 2 := by
          rcases w with ⟨y, -⟩ | ⟨-, ⟨-, -, -, -⟩, -, -, c3, -⟩
          · omega
          · exact c3
        rw [w32_s (k := pBL (tclr T) (l.take k.toNat) 1 1 + l[k.toNat].2.2.2.2.2.1) (by omega) (by omega)]
        exact ih
  have e0 : pBL (tclr T) (l.take (0 : Int).toNat) 1 = M 1 := by show tclr T 1 = M 1; rw [z0, e1]
  rw [e0] at st
  exact st
theorem s_tell' (hT : TI T) (g : GoodL T l) (eC : ∀ c : Nat, 1 ≤ c → c ≤ 13 → M c = T c) (hl : DR l (M 57)) (h3 : M 55 3 = l.length) (l15 : l.length ≤ 15) (n1 : pBL (tclr T) l 1 0 ≤ 18) (v1 : pBL (tclr T) l 1 1 ≤ 10) (k : ∀ M', CC (pBL (tclr T) l) M' → FC M M' → Q 0 M') : es_Call (d + 3) 87 [.inr (.inr 55), .inr (.inr 1)] M Q := by
  apply m_Reader_tell
  intro G hG
  have key : ∀ (r i : Nat) (M1 : es_M), i + r = l.length → CC (pBL (tclr T) (l.take i)) M1 → FC M M1 → G 2 [lr 55, lr 1, li (i : Int), none, none, none, none, none] [] M1 := by
    intro r
    induction r with
    | zero =>
      intro i M1 ir c1 f1
      apply k_Reader_tell_2 hG
      rw [f1 55 (by decide), h3]
      refine ⟨fun _ => ?_, fun z => absurd (by omega) z⟩
      rw [List.take_of_length_le (by omega)] at c1
      exact k M1 c1 f1
    | succ r ih =>
      intro i M1 ir c1 f1
      apply k_Reader_tell_2 hG
      have kl : i < l.length := by omega
      have it := hl i l[i] (List.getElem?_eq_getElem kl)
      rw [f1 55 (by decide), h3, f1 57 (by decide), w32_s (k := (i : Int) * 7) (by omega) (by omega), w32_s (k := (i : Int) * 7 + 1) (by omega) (by omega), w32_s (k := (i : Int) * 7 + 2) (by omega) (by omega), w32_s (k := (i : Int) * 7 + 3) (by omega) (by omega), w32_s (k := (i : Int) * 7 + 4) (by omega) (by omega), w32_s (k := (i : Int) * 7 + 5) (by omega) (by omega), w32_s (k := (i : Int) * 7 + 6) (by omega) (by omega), w32_1 (k := (i : Int)) (by omega) (by omega), show (i : Int) * 7 = 7 * i by omega, it.1, it.2.1, it.2.2.1, it.2.2.2.1, it.2.2.2.2.1]
      have w := g.at kl
      have V := VI_l hT _ (g.take i)
      have hn := hT.n
      have hv := hT.v
      have e1 := take_s kl
      have mo := pBL_mono (T := T) (l1 := l.take (i + 1)) (l.drop (i + 1)) (by rw [List.take_append_drop]; exact g)
      rw [List.take_append_drop, e1, pBL_snoc] at mo
      have next : ∀ M2, CC (pB (pBL (tclr T) (l.take i)) l[i]) M2 → FC M1 M2 → G 2 [lr 55, lr 1, li ((i : Int) + 1), none, none, none, none, none] [] M2 := by
        intro M2 c2 f2
        have x := ih (i + 1) M2 (by omega) (by rw [e1, pBL_snoc]; exact c2) (fun c hc => (f2 c hc).trans (f1 c hc))
        exact x
      unfold pB at next mo
      refine ⟨fun z => absurd z (by omega), fun _ => ⟨by omega, by omega, by omega, by omega, by omega, fun z => ?_, fun z => ⟨by omega, by omega, ?_⟩⟩⟩
      · rw [if_neg z] at next mo
        rw [pT_1 (by decide), pT_1 (by decide)] at mo
        rcases w with ⟨y, b1, b2, b3, b4⟩ | ⟨y, -⟩
        · refine s_putTurn c1 b1 b2 b3 ?_ next
          rw [(TI0_l hT _ (g.take i) (by omega) (by omega)).1.tt]
          exact turnsN_rng _ 1728
        · exact absurd y z
      · rw [if_pos z] at next mo
        rw [(it.2.2.2.2.2 z).1, (it.2.2.2.2.2 z).2]
        generalize l[i] = t at *
        obtain ⟨kk, a, b, f, r', kd, w'⟩ := t
        rcases w with ⟨y, -⟩ | ⟨-, ⟨c4, c5, -, -⟩, -, -, c3, -⟩
        · exact absurd z (by simp only at y; omega)
        · have mo0 : pBL (tclr T) (l.take i) 1 0 + 1 ≤ pBL (tclr T) l 1 0 := mo.1
          have mo1 : pBL (tclr T) (l.take i) 1 1 + kd ≤ pBL (tclr T) l 1 1 := mo.2
          have V1 := V.2.1.1
          have V2 := V.2.2.1.1
          exact s_putStreet (k := kk) (a := a) (b := b) (f := f) (r := r') (kd := kd) (w := w') c1 c4 c5 c3 (by omega) (by omega) (by omega) (by omega) next
  apply k_Reader_tell_0 hG
  exact key l.length 0 M (Nat.zero_add _) (fun c a b => by show M c = tclr T c; rw [clr_o (by omega), eC c a b]) (fun c _ => rfl)
end
/-- a town whose rows differ behind their ends -/
theorem TI.but {T W : es_M} (h : TI T) (e : ∀ (c : Nat) (j : Int), pers c j = true → ¬ (93 ≤ c ∧ c ≤ 97) → c ≠ 106 → c ≠ 107 → W c j = T c j)
    (e1 : ∀ s, 0 ≤ s → s < T 1 0 → W 93 s = T 93 s ∧ W 94 s = T 94 s ∧ W 95 (2 * s) = T 95 (2 * s) ∧ W 95 (2 * s + 1) = T 95 (2 * s + 1) ∧ W 96 s = T 96 s ∧ W 97 s = T 97 s) (e2 : ∀ v, 0 ≤ v → v < T 1 1 → W 106 v = T 106 v ∧ W 107 v = T 107 v) : TI W := by
  have hR : Rep T (fun c j => if (93 ≤ c ∧ c ≤ 97) ∨ c = 106 ∨ c = 107 then T c j else W c j) := by
    intro c j q
    by_cases z : (93 ≤ c ∧ c ≤ 97) ∨ c = 106 ∨ c = 107
    · exact if_pos z
    · exact (if_neg z).trans (e c j q (by omega) (by omega) (by omega))
  have hT' := h.rep hR
  have x3 : ∀ s, (fun c j => if (93 ≤ c ∧ c ≤ 97) ∨ c = 106 ∨ c = 107 then T c j else W c j : es_M) 93 s = T 93 s := fun s => if_pos (by decide)
  have x4 : ∀ s, (fun c j => if (93 ≤ c ∧ c ≤ 97) ∨ c = 106 ∨ c = 107 then T c j else W c j : es_M) 94 s = T 94 s := fun s => if_pos (by decide)
  have x5 : ∀ s, (fun c j => if (93 ≤ c ∧ c ≤ 97) ∨ c = 106 ∨ c = 107 then T c j else W c j : es_M) 95 s = T 95 s := fun s => if_pos (by decide)
  have x6 : ∀ s, (fun c j => if (93 ≤ c ∧ c ≤ 97) ∨ c = 106 ∨ c = 107 then T c j else W c j : es_M) 96 s = T 96 s := fun s => if_pos (by decide)
  have x7 : ∀ s, (fun c j => if (93 ≤ c ∧ c ≤ 97) ∨ c = 106 ∨ c = 107 then T c j else W c j : es_M) 97 s = T 97 s := fun s => if_pos (by decide)
  have y6 : ∀ s, (fun c j => if (93 ≤ c ∧ c ≤ 97) ∨ c = 106 ∨ c = 107 then T c j else W c j : es_M) 106 s = T 106 s := fun s => if_pos (by decide)
  have y7 : ∀ s, (fun c j => if (93 ≤ c ∧ c ≤ 97) ∨ c = 106 ∨ c = 107 then T c j else W c j : es_M) 107 s = T 107 s := fun s => if_pos (by decide)
  have xo : ∀ c : Nat, ¬ ((93 ≤ c ∧ c ≤ 97) ∨ c = 106 ∨ c = 107) → W c = (fun c j => if (93 ≤ c ∧ c ≤ 97) ∨ c = 106 ∨ c = 107 then T c j else W c j : es_M) c := fun c hc => funext fun j => (if_neg hc).symm
  have t1 : (fun c j => if (93 ≤ c ∧ c ≤ 97) ∨ c = 106 ∨ c = 107 then T c j else W c j : es_M) 1 = T 1 := hR.c54 (by decide) (by decide)
  generalize (fun c j => if (93 ≤ c ∧ c ≤ 97) ∨ c = 106 ∨ c = 107 then T c j else W c j : es_M) = U at *
  obtain ⟨⟨u1, u2, u3, u4, u5, u6, u7, u8, u9, u10, u11, u12, u13⟩, h2, h3, h4, h5⟩ := hT'
  have a1 := xo 1 (by decide)
  have a6 := xo 6 (by decide)
  have tw : tow U W := fun c hc => xo c (by omega)
  refine ⟨⟨?_, ?_, ?_, ?_, ?_, ?_, ?_, ?_, ?_, ?_, ?_, ?_, ?_⟩, h2.congr tw (fun i hi => xo _ (by omega)) ?_, h3.congr tw (fun c hc => xo c (by omega)) (xo 137 (by decide)) (xo 138 (by decide)), h4.congr (by rw [xo 55 (by decide)]) (by rw [xo 91 (by decide)]) (xo 56 (by decide)) (xo 103 (by decide)), fun i i0 i1 => by rw [xo 109 (by decide)]; exact h5 i i0 i1⟩
  · rw [a1, xo 91 (by decide)]; exact u1
  · rw [a1, xo 91 (by decide)]; exact u2
  · rw [a1]
    intro s s0 s1
    have x := u3 s s0 s1
    rw [t1] at s1
    obtain ⟨w3, w4, w5, w5', w6, w7⟩ := e1 s s0 s1
    unfold TIst at x ⊢
    rw [x3, x4, x5, x5, x6, x7] at x
    rw [w3, w4, w5, w5', w6, w7, xo 2 (by decide), xo 3 (by decide), xo 4 (by decide), xo 5 (by decide), a6, xo 7 (by decide)]
    exact x
  · rw [a1, xo 2 (by decide), xo 3 (by decide), xo 8 (by decide)]; exact u4
  · rw [a1, xo 2 (by decide), xo 3 (by decide), xo 8 (by decide)]; exact u5
  · rw [xo 9 (by decide), xo 101 (by decide)]; exact u6
  · rw [a1, turnsN_congr (xo 101 (by decide))]; exact u7
  · rw [a1, preS_congr a6]; exact u8
  · rw [a1]; unfold TIsv at u9 ⊢; rw [preS_congr a6, a6, xo 10 (by decide), xo 11 (by decide)]; exact u9
  · rw [a1, xo 10 (by decide), xo 11 (by decide)]
    intro v v0 v1
    have x := u10 v v0 v1
    rw [y6, y7] at x
    rw [t1] at v1
    rw [(e2 v v0 v1).1, (e2 v v0 v1).2]
    exact x
  · rw [a1, xo 108 (by decide), xo 12 (by decide)]; exact u11
  · rw [a1, a6, xo 13 (by decide), preS_congr a6]; exact u12
  · rw [a1, oddN_congr (xo 2 (by decide)) (xo 3 (by decide)) (xo 10 (by decide))]; exact u13
  · funext k j
    unfold mvN
    rw [xo 91 (by decide), xo 120 (by decide), xo 125 (by decide), xo 126 (by decide), xo 112 (by decide), xo 113 (by decide), xo 98 (by decide), xo 99 (by decide), xo 100 (by decide), xo 121 (by decide), xo 102 (by decide)]
