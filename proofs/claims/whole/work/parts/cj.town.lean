/-! THE TOWN'S TEXT (9): the model reads all -/
theorem prs_ok {M : es_M} {t : Int → Int} {L : Int} : ∀ (n : Nat) (p : Int) (l : List It), p ≤ L → GoodL M l → GoodL M (prs M t L n p l).2.2 ∧ (p ≤ (prs M t L n p l).1 ∧ (prs M t L n p l).1 ≤ L) ∧ ((prs M t L n p l).2.1 = true → 1 ≤ (prs M t L n p l).2.2.length) ∧ (prs M t L n p l).2.2.length ≤ l.length + n
  | 0, p, l, pL, g => ⟨g, ⟨Int.le_refl _, pL⟩, fun z => (by cases z), Nat.le_refl _⟩
  | n + 1, p, l, pL, g => by
    have rg := it_rg (J := tjF M l) (t := t) pL
    unfold prs
    generalize itP (tjF M l) t L p = r at *
    match r, rg with
    | .inl q, rg => exact ⟨g, rg, fun z => (by cases z), by show l.length ≤ _; omega⟩
    | .inr (q, it), rg =>
      have ll : (l ++ [it]).length = l.length + 1 := by rw [List.length_append]; rfl
      show GoodL M (if tlF t L q = 59 then prs M t L n (q + 1) (l ++ [it]) else (q, true, l ++ [it])).2.2 ∧ (p ≤ (if tlF t L q = 59 then prs M t L n (q + 1) (l ++ [it]) else (q, true, l ++ [it])).1 ∧ (if tlF t L q = 59 then prs M t L n (q + 1) (l ++ [it]) else (q, true, l ++ [it])).1 ≤ L) ∧ ((if tlF t L q = 59 then prs M t L n (q + 1) (l ++ [it]) else (q, true, l ++ [it])).2.1 = true → 1 ≤ (if tlF t L q = 59 then prs M t L n (q + 1) (l ++ [it]) else (q, true, l ++ [it])).2.2.length) ∧ (if tlF t L q = 59 then prs M t L n (q + 1) (l ++ [it]) else (q, true, l ++ [it])).2.2.length ≤ l.length + (n + 1)
      by_cases z : tlF t L q = 59
      · rw [if_pos z]
        have ql := tl_lt (t := t) (L := L) (p := q) (by omega)
        obtain ⟨a, b, c, e⟩ := prs_ok (M := M) (t := t) (L := L) n (q + 1) (l ++ [it]) (by omega) (g.snoc rg.2)
        exact ⟨a, ⟨by have := rg.1.1; omega, b.2⟩, c, by omega⟩
      · rw [if_neg z]
        refine ⟨g.snoc rg.2, ⟨by have := rg.1.1; show p ≤ q; omega, rg.1.2⟩, fun _ => by show 1 ≤ (l ++ [it]).length; omega, by show (l ++ [it]).length ≤ _; omega⟩
/-- the model's memory when the items l are read: weak, and with the turns -/
def MRw (M : es_M) (l : List It) (M1 : es_M) : Prop := M1 91 19 = pBL (tclr M) l 91 3 ∧ (∀ c : Nat, 93 ≤ c → c ≤ 97 → M1 c = pBL (tclr M) l c) ∧ (M1 91 0 = 0 ∧ M1 91 16 = 0) ∧ (∀ (c : Nat) (j : Int), 91 ≤ c → ¬ (93 ≤ c ∧ c ≤ 97) → c ≠ 104 → c ≠ 105 → ¬ (c = 91 ∧ (j = 0 ∨ j = 16 ∨ j = 17 ∨ j = 18 ∨ j = 19 ∨ j = 20)) → M1 c j = M c j)
def MRt (l : List It) (M1 : es_M) : Prop := M1 91 20 = (tus l).length ∧ ∀ (k : Nat) it, (tus l)[k]? = some it → M1 104 k = plI it ∧ M1 105 k = mI it
theorem MRw.eq {M M1 M2 : es_M} {l : List It} (h : MRw M l M1) (e : FM M1 M2) : MRw M l M2 := by
  obtain ⟨a, b, c, f⟩ := h
  refine ⟨(e 91 19 (by decide) (by decide) (fun z => absurd z.2 (by decide))).trans a, fun k k0 k1 => (funext fun j => e k j (by omega) (by omega) (fun z => by omega) : M2 k = M1 k).trans (b k k0 k1), ⟨(e 91 0 (by decide) (by decide) (fun z => absurd z.2 (by decide))).trans c.1, (e 91 16 (by decide) (by decide) (fun z => absurd z.2 (by decide))).trans c.2⟩, fun k j k0 k1 k4 k5 k9 => (e k j k4 k5 (fun z => k9 ⟨z.1, by omega⟩)).trans (f k j k0 k1 k4 k5 k9)⟩
theorem MRt.eq {M1 M2 : es_M} {l : List It} (h : MRt l M1) (e : EqM M1 M2) : MRt l M2 := by
  refine ⟨(e 91 20 (fun z => absurd z.2 (by decide))).trans h.1, fun k it hk => ?_⟩
  rw [e 104 _ (fun z => absurd z.1 (by decide)), e 105 _ (fun z => absurd z.1 (by decide))]
  exact h.2 k it hk
theorem MR_snoc {M M1 M2 : es_M} {l : List It} {it : It} (hw : MRw M l M1) (ht : MRt l M1) (g : GM M1 M2 it) : MRw M (l ++ [it]) M2 ∧ MRt (l ++ [it]) M2 := by
  obtain ⟨a, b, c, f⟩ := hw
  obtain ⟨t1, t2⟩ := ht
  rcases g with ⟨z, g1, g2, g3, g4, g5⟩ | ⟨z, g1, g2, g3, g4, g5, g6, g7⟩
  · have e : pBL (tclr M) (l ++ [it]) = pT (pBL (tclr M) l) it := by rw [pBL_snoc]; unfold pB; rw [if_neg (by omega)]
    have tu : tus (l ++ [it]) = tus l ++ [it] := by unfold tus; rw [List.filter_append]; simp [z]
    refine ⟨⟨?_, fun k k0 k1 => ?_, ⟨?_, ?_⟩, fun k j k0 k1 k4 k5 k9 => ?_⟩, ?_, ?_⟩
    · rw [e, pT_o (by decide), ← a]; exact g1 91 19 (by decide) (by decide) (fun y => absurd y.2 (by decide))
    · rw [e, pT_o (by omega), ← b k k0 k1]; exact funext fun j => g1 k j (by omega) (by omega) (fun y => by omega)
    · exact (g1 91 0 (by decide) (by decide) (fun y => absurd y.2 (by decide))).trans c.1
    · exact (g1 91 16 (by decide) (by decide) (fun y => absurd y.2 (by decide))).trans c.2
    · exact (g1 k j k4 k5 (fun y => k9 ⟨y.1, by omega⟩)).trans (f k j k0 k1 k4 k5 k9)
    · rw [tu, List.length_append, g2, t1]; rfl
    · intro k it' hk
      rw [tu] at hk
      by_cases y : k < (tus l).length
      · rw [List.getElem?_append_left y] at hk
        rw [(g3 k (by omega)).1, (g3 k (by omega)).2]
        exact t2 k it' hk
      · rw [List.getElem?_append_right (by omega)] at hk
        have lt := (List.getElem?_eq_some_iff.mp hk).1
        have e0 : k = (tus l).length := by have : [it].length = 1 := rfl; omega
        subst e0
        rw [Nat.sub_self] at hk
        cases hk
        rw [t1] at g4 g5
        exact ⟨g4, g5⟩
  · have e : pBL (tclr M) (l ++ [it]) = pS (pBL (tclr M) l) it := by rw [pBL_snoc]; unfold pB; rw [if_pos z]
    have tu : tus (l ++ [it]) = tus l := by unfold tus; rw [List.filter_append]; simp [z]
    rw [a] at g2 g3 g4 g5 g6 g7
    refine ⟨⟨?_, fun k k0 k1 => ?_, ⟨?_, ?_⟩, fun k j k0 k1 k4 k5 k9 => ?_⟩, ?_, ?_⟩
    · rw [e, g2]; rfl
    · rw [e]
      rcases (show k = 93 ∨ k = 94 ∨ k = 95 ∨ k = 96 ∨ k = 97 by omega) with rfl | rfl | rfl | rfl | rfl
      · funext j; rw [g3, b 93 (by decide) (by decide)]; rfl
      · funext j; rw [g4, b 94 (by decide) (by decide)]; rfl
      · funext j; rw [g5, b 95 (by decide) (by decide)]; rfl
      · funext j; rw [g6, b 96 (by decide) (by decide)]; rfl
      · funext j; rw [g7, b 97 (by decide) (by decide)]; rfl
    · exact (g1 91 0 (by decide) (fun y => absurd y.2 (by decide))).trans c.1
    · exact (g1 91 16 (by decide) (fun y => absurd y.2 (by decide))).trans c.2
    · exact (g1 k j k1 (fun y => k9 ⟨y.1, by omega⟩)).trans (f k j k0 k1 k4 k5 k9)
    · rw [tu, ← t1]; exact g1 91 20 (by decide) (fun y => absurd y.2 (by decide))
    · intro k it' hk
      rw [tu] at hk
      rw [g1 104 k (by decide) (fun y => absurd y.1 (by decide)), g1 105 k (by decide) (fun y => absurd y.1 (by decide))]
      exact t2 k it' hk
def lowF (M M' : es_M) : Prop := ∀ c : Nat, c < 91 → M' c = M c
theorem FM.low {M0 M1 M2 : es_M} (h : lowF M0 M1) (e : FM M1 M2) : lowF M0 M2 := fun c hc => (funext fun j => e c j (by omega) (by omega) (fun z => by omega) : M2 c = M1 c).trans (h c hc)
theorem GM.low {M0 M1 M2 : es_M} {it : It} (h : lowF M0 M1) (g : GM M1 M2 it) : lowF M0 M2 := by
  intro c hc
  rw [← h c hc]
  funext j
  rcases g with ⟨z, g1, -⟩ | ⟨z, g1, -⟩
  · exact g1 c j (by omega) (by omega) (fun y => by omega)
  · exact g1 c j (by omega) (fun y => by omega)
theorem tus_le (l : List It) : (tus l).length ≤ l.length := List.length_filter_le _ _
section
variable {d : Nat} {M M0 : es_M} {Q : Int → es_M → Prop} {t : Int → Int} {L : Int}
theorem s_m_reads (h : TI M) {G : Nat → es_L → List AV → es_M → Prop} (hG : es_Cl cd_Model_town st_Model_town (some .int) (d + 4) Q G) (hX : TX t L) {n0 : Int}
    (bad : ∀ x M2, (prs M t L 15 0 []).2.1 = false → MX t L (prs M t L 15 0 []).1 M2 → MRw M (prs M t L 15 0 []).2.2 M2 → lowF M0 M2 → G 124 [lr 91, li n0, li x, li 0, none, none, none] [] M2)
    (good : ∀ M2, (prs M t L 15 0 []).2.1 = true → MX t L (prs M t L 15 0 []).1 M2 → MRw M (prs M t L 15 0 []).2.2 M2 → MRt (prs M t L 15 0 []).2.2 M2 → lowF M0 M2 → G 124 [lr 91, li n0, li ((prs M t L 15 0 []).2.2.length : Nat), li 1, none, none, none] [] M2) :
    ∀ (n : Nat) (p : Int) (l : List It) (M1 : es_M), n + l.length = 15 → 5 * (l.length : Int) ≤ p → GoodL M l → MX t L p M1 → MRw M l M1 → MRt l M1 → lowF M0 M1 → prs M t L 15 0 [] = prs M t L n p l → G 50 [lr 91, li n0, li (l.length : Nat), li 1, li 1, none, none] [] M1 := by
  intro n
  induction n with
  | zero => intro p l M1 hn hp _ hR; exact absurd hR.2.2.2.1.2 (by have := hX.1; omega)
  | succ n ih =>
    intro p l M1 hn hp hg hR hw ht hlow hE
    apply k_Model_town_50 hG
    refine es_t1 (es_t1 ?_)
    have V := VI_l h l hg
    have hn18 := h.n
    have n19 : M1 91 19 = pBL (tclr M) l 1 0 := hw.1.trans V.1.1
    have b0 : 0 ≤ M1 91 19 := by have := V.2.1.1; omega
    have b1 : M1 91 19 < 36 := by have := V.2.1.2; omega
    have b2 : 0 ≤ M1 91 20 ∧ M1 91 20 < 60 := by have := ht.1; have := tus_le l; omega
    have hJ : ∀ a b, 0 ≤ a → a < 12 → 0 ≤ b → b < 12 → ((∃ s, 0 ≤ s ∧ s < M1 91 19 ∧ mat M1 s a b) ↔ tjF M l a b = true) := by
      intro a b a0 a1 c0 c1
      rw [← V.2.2.2.2.1 a b a0 a1 c0 c1, n19]
      unfold mat
      rw [hw.2.1 93 (by decide) (by decide), hw.2.1 94 (by decide) (by decide)]
    have l15 : (l.length : Int) < 15 := by omega
    rw [w32_1 (k := (l.length : Int)) (by omega) (by omega)]
    have hs : prs M t L (n + 1) p l = match itP (tjF M l) t L p with
      | .inl q => (q, false, l)
      | .inr (q, it) => if tlF t L q = 59 then prs M t L n (q + 1) (l ++ [it]) else (q, true, l ++ [it]) := rfl
    rw [hs] at hE
    have rg := it_rg (J := tjF M l) (t := t) hR.2.2.2.1.2
    have p0 := hR.2.2.2.1.1
    have hI : ItM (itP (tjF M l) t L p) t L M1 (fun y M' => (y = 0 → G 118 [lr 91, li n0, li ((l.length : Int) + 1), li y, none, none, none] [] M') ∧ (¬ y = 0 → es_Call (d + 4) 174 [.inr (.inr 91), .inl 59] M' (fun y2 M'' => (y2 = 0 → G 118 [lr 91, li n0, li ((l.length : Int) + 1), li y, none, none, none] [] M'') ∧ (¬ y2 = 0 → G 50 [lr 91, li n0, li ((l.length : Int) + 1), li y, li 1, none, none] [] M'')))) := by
      clear hJ
      generalize itP (tjF M l) t L p = r at *
      match r, rg with
      | .inl q, rg =>
        intro M' h' f'
        refine es_t0 (k_Model_town_118 hG (k_Model_town_50 hG (es_t0 ?_)))
        have hE' : prs M t L 15 0 [] = (q, false, l) := hE
        have bb := bad ((l.length : Int) + 1) M' (by rw [hE']) (by rw [hE']; exact h') (by rw [hE']; exact hw.eq f') (FM.low hlow f')
        exact bb
      | .inr (q, it), rg =>
        intro M' h' g'
        refine es_t1 ?_
        obtain ⟨w2, t2⟩ := MR_snoc hw ht g'
        have low2 := g'.low hlow
        have ln1 : (l ++ [it]).length = l.length + 1 := by rw [List.length_append]; rfl
        have ln2 : ((l ++ [it]).length : Int) = (l.length : Int) + 1 := by rw [ln1]; rfl
        have q1 := rg.1.1
        have q2 := rg.1.2
        refine s_m_psign h' (by decide) (fun c1 cl M3 h3 e3 => es_t1 ?_) (fun c1 M3 h3 e3 => es_t0 (k_Model_town_118 hG (k_Model_town_50 hG (es_t1 (es_t0 ?_)))))
        · have hE' : prs M t L 15 0 [] = prs M t L n (q + 1) (l ++ [it]) := hE.trans (if_pos c1)
          have x := ih (q + 1) (l ++ [it]) M3 (by omega) (by omega) (hg.snoc rg.2) h3 (w2.eq e3.f) (t2.eq e3) (FM.low low2 e3.f) hE'
          rw [ln2] at x
          exact x
        · have hE' : prs M t L 15 0 [] = (q, true, l ++ [it]) := hE.trans (if_neg c1)
          have x := good M3 (by rw [hE']) (by rw [hE']; exact h3) (by rw [hE']; exact w2.eq e3.f) (by rw [hE']; exact t2.eq e3) (FM.low low2 e3.f)
          rw [hE'] at x
          have x' : G 124 [lr 91, li n0, li ((l ++ [it]).length : Nat), li 1, none, none, none] [] M3 := x
          rw [ln2] at x'
          exact x'
    unfold itP at hI
    refine s_m_psign hR (by decide) (fun c1 cl M3 h3 e3 => es_t1 ?_) (fun c1 M3 h3 e3 => es_t0 ?_)
    · rw [if_pos c1] at hI
      refine s_m_readsTurn h3 (Or.inl ⟨rfl, rfl⟩) ?_ ?_ (hI.eq e3)
      · rw [e3 91 20 (fun z => absurd z.2 (by decide))]; exact b2.1
      · rw [e3 91 20 (fun z => absurd z.2 (by decide))]; exact b2.2
    · rw [if_neg c1] at hI
      refine s_m_psign h3 (by decide) (fun c2 cl M4 h4 e4 => es_t1 ?_) (fun c2 M4 h4 e4 => es_t0 ?_)
      · rw [if_pos c2] at hI
        have e5 := e3.tr e4
        refine s_m_readsTurn h4 (Or.inr ⟨rfl, rfl⟩) ?_ ?_ (hI.eq e5)
        · rw [e5 91 20 (fun z => absurd z.2 (by decide))]; exact b2.1
        · rw [e5 91 20 (fun z => absurd z.2 (by decide))]; exact b2.2
      · rw [if_neg c2] at hI
        have e5 := e3.tr e4
        have e19 := e5 91 19 (fun z => absurd z.2 (by decide))
        refine s_m_readsStreet h4 (by rw [e19]; exact b0) (by rw [e19]; exact b1) (fun a b a0 a1 c0 c1 => ?_) (hI.eq e5)
        rw [← hJ a b a0 a1 c0 c1, e19]
        unfold mat
        rw [e5.cell 93 (by decide), e5.cell 94 (by decide)]
end
