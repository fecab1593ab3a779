/-! THE TOWN'S TEXT (3): what items are like, and the class's reading of all -/
def WFI (J : Int → Int → Bool) (it : It) : Prop := (it.1 = 1 ∧ (0 ≤ it.2.1 ∧ it.2.1 < 12) ∧ (0 ≤ it.2.2.1 ∧ it.2.2.1 < 12) ∧ (0 ≤ it.2.2.2.1 ∧ it.2.2.2.1 < 12) ∧ (-1 ≤ it.2.2.2.2.1 ∧ it.2.2.2.2.1 ≤ 99)) ∨
  (it.1 = 0 ∧ ((0 ≤ it.2.1 ∧ it.2.1 < 12) ∧ (0 ≤ it.2.2.1 ∧ it.2.2.1 < 12) ∧ it.2.1 ≠ it.2.2.1 ∧ J it.2.1 it.2.2.1 = false) ∧ (1 ≤ it.2.2.2.1 ∧ it.2.2.2.1 ≤ 99) ∧ (it.2.2.2.2.1 = -1 ∨ (1 ≤ it.2.2.2.2.1 ∧ it.2.2.2.2.1 ≤ 99)) ∧ (0 ≤ it.2.2.2.2.2.1 ∧ it.2.2.2.2.2.1 ≤ 2) ∧ (it.2.2.2.2.2.1 = 2 → it.2.2.2.2.1 ≠ -1) ∧ (0 ≤ it.2.2.2.2.2.2 ∧ it.2.2.2.2.2.2 ≤ 9) ∧ (it.2.2.2.2.2.1 ≠ 0 → 1 ≤ it.2.2.2.2.2.2))
/-- of a result: a place that is not ahead of p; an item is as it must be and takes four signs -/
def RG (J : Int → Int → Bool) (L p m : Int) (r : Int ⊕ (Int × It)) : Prop := match r with
  | .inl q => p ≤ q ∧ q ≤ L
  | .inr (q, it) => (p + m ≤ q ∧ q ≤ L) ∧ WFI J it
theorem RG.wk {J : Int → Int → Bool} {L p m p' m' : Int} {r : Int ⊕ (Int × It)} (h : RG J L p m r) (h1 : p' ≤ p) (h2 : p' + m' ≤ p + m) : RG J L p' m' r := by
  match r, h with
  | .inl q, h => exact ⟨Int.le_trans h1 h.1, h.2⟩
  | .inr (q, it), h => exact ⟨⟨Int.le_trans h2 h.1.1, h.1.2⟩, h.2⟩
section
variable {t : Int → Int} {L p : Int} {J : Int → Int → Bool}
theorem tu_rg {cs : Int} (pL : p ≤ L) : RG J L p 3 (tuP t L cs p) := by
  unfold tuP
  rcases cn_rng (t := t) (L := L) (u := -1) (p := p) with c1 | ⟨c1, c2, c3⟩
  · rw [if_pos c1]; exact ⟨Int.le_refl _, pL⟩
  rw [if_neg (by omega)]
  generalize cnF t L (-1) p = a at *
  rcases cn_rng (t := t) (L := L) (u := a) (p := p + 1) with d1 | ⟨d1, d2, d3⟩
  · rw [if_pos d1]; exact ⟨by omega, by omega⟩
  rw [if_neg (by omega)]
  generalize cnF t L a (p + 1) = b at *
  rcases cn_rng (t := t) (L := L) (u := b) (p := p + 2) with e1 | ⟨e1, e2, e3⟩
  · rw [if_pos e1]; exact ⟨by omega, by omega⟩
  rw [if_neg (by omega)]
  generalize cnF t L b (p + 2) = c at *
  by_cases z : cs = 0
  · rw [if_pos z]; exact ⟨⟨by omega, by omega⟩, Or.inl ⟨rfl, c1, d1, e1, show (-1 : Int) ≤ -1 by decide, show (-1 : Int) ≤ 99 by decide⟩⟩
  rw [if_neg z]
  by_cases y : tlF t L (p + 3) = 58
  · rw [if_neg (fun x => x y)]
    have ll := tl_lt (t := t) (L := L) (p := p + 3) (by omega)
    rcases nm_rng (t := t) (L := L) (z := 0) (p := p + 4) (by decide) with n1 | ⟨n1, n2, n3⟩
    · rw [if_pos n1]; exact ⟨by omega, by omega⟩
    · rw [if_neg (by omega)]; exact ⟨⟨by omega, n3⟩, Or.inl ⟨rfl, c1, d1, e1, by show -1 ≤ nmF t L 0 (p + 4); omega, n1.2⟩⟩
  · rw [if_pos y]; exact ⟨by omega, by omega⟩
theorem st3_rg {ow a b f r : Int} (pL : p ≤ L) (ha : 0 ≤ a ∧ a < 12) (hb : 0 ≤ b ∧ b < 12) (hab : a ≠ b) (hj : J a b = false) (hf : 1 ≤ f ∧ f ≤ 99) (hr : (ow ≠ 0 ∧ r = -1) ∨ (1 ≤ r ∧ r ≤ 99)) : RG J L p 0 (st3 t L ow a b f r p) := by
  unfold st3
  have wf : ∀ kd w : Int, 0 ≤ kd → kd ≤ 2 → (kd = 2 → ow = 0) → 0 ≤ w → w ≤ 9 → (kd ≠ 0 → 1 ≤ w) → WFI J (0, a, b, f, r, kd, w) := fun kd w k0 k1 k2 w0 w1 w2 => Or.inr ⟨rfl, ⟨ha, hb, hab, hj⟩, hf, by show r = -1 ∨ (1 ≤ r ∧ r ≤ 99); omega, ⟨k0, k1⟩, fun z => by show r ≠ -1; have := k2 z; omega, ⟨w0, w1⟩, w2⟩
  by_cases q : tlF t L p = 33
  · rw [if_pos q]
    have ll := tl_lt (t := t) (L := L) (p := p) (by omega)
    by_cases q2 : tlF t L (p + 1) = 36
    · rw [if_pos q2]
      have ll := tl_lt (t := t) (L := L) (p := p + 1) (by omega)
      by_cases q3 : 49 ≤ tlF t L (p + 2) ∧ tlF t L (p + 2) ≤ 57
      · have ll := tl_lt (t := t) (L := L) (p := p + 2) (by omega)
        rw [if_pos q3]; exact ⟨⟨by omega, by omega⟩, wf _ _ (by decide) (by decide) (fun z => absurd z (by decide)) (by omega) (by omega) (by omega)⟩
      · rw [if_neg q3]; exact ⟨by omega, by omega⟩
    · rw [if_neg q2]; exact ⟨⟨by omega, by omega⟩, wf _ _ (by decide) (by decide) (fun z => absurd z (by decide)) (by decide) (by decide) (by decide)⟩
  rw [if_neg q]
  by_cases q1 : ow = 0 ∧ tlF t L p = 61
  · rw [if_pos q1]
    have ll := tl_lt (t := t) (L := L) (p := p) (by omega)
    by_cases q2 : tlF t L (p + 1) = 36
    · rw [if_pos q2]
      have ll := tl_lt (t := t) (L := L) (p := p + 1) (by omega)
      by_cases q3 : 49 ≤ tlF t L (p + 2) ∧ tlF t L (p + 2) ≤ 57
      · have ll := tl_lt (t := t) (L := L) (p := p + 2) (by omega)
        rw [if_pos q3]; exact ⟨⟨by omega, by omega⟩, wf _ _ (by decide) (by decide) (fun _ => q1.1) (by omega) (by omega) (by omega)⟩
      · rw [if_neg q3]; exact ⟨by omega, by omega⟩
    · rw [if_neg q2]; exact ⟨⟨by omega, by omega⟩, wf _ _ (by decide) (by decide) (fun _ => q1.1) (by decide) (by decide) (by decide)⟩
  · rw [if_neg q1]; exact ⟨⟨by omega, by omega⟩, wf _ _ (by decide) (by decide) (fun z => absurd z (by decide)) (by decide) (by decide) (by decide)⟩
theorem st2_rg {ow a : Int} (pL : p ≤ L) (ha : 0 ≤ a ∧ a < 12) : RG J L p 3 (st2 J t L ow a p) := by
  unfold st2
  rcases cn_rng (t := t) (L := L) (u := a) (p := p) with c1 | ⟨c1, c2, c3⟩
  · rw [if_pos c1]; exact ⟨by omega, by omega⟩
  rw [if_neg (by omega)]
  generalize cnF t L a p = b at *
  cases hj : J a b with
  | true => rw [if_pos rfl]; exact ⟨by omega, by omega⟩
  | false =>
    rw [if_neg (by decide)]
    by_cases y : tlF t L (p + 1) = 58
    · rw [if_neg (fun x => x y)]
      have ll := tl_lt (t := t) (L := L) (p := p + 1) (by omega)
      rcases nm_rng (t := t) (L := L) (z := 1) (p := p + 2) (by decide) with n1 | ⟨n1, n2, n3⟩
      · rw [if_pos n1]; exact ⟨by omega, by omega⟩
      rw [if_neg (by omega)]
      generalize nmF t L 1 (p + 2) = f at *
      generalize nmA t L (p + 2) = q at *
      by_cases o : ow = 0
      · rw [if_pos o]
        by_cases y2 : tlF t L q = 47
        · rw [if_pos y2]
          have ll := tl_lt (t := t) (L := L) (p := q) (by omega)
          rcases nm_rng (t := t) (L := L) (z := 1) (p := q + 1) (by decide) with m1 | ⟨m1, m2, m3⟩
          · rw [if_pos m1]; exact ⟨by omega, by omega⟩
          rw [if_neg (by omega)]
          exact (st3_rg m3 ha c1 (Ne.symm c2) hj n1 (Or.inr m1)).wk (by omega) (by omega)
        · rw [if_neg y2]; exact (st3_rg n3 ha c1 (Ne.symm c2) hj n1 (Or.inr n1)).wk (by omega) (by omega)
      · rw [if_neg o]; exact (st3_rg n3 ha c1 (Ne.symm c2) hj n1 (Or.inl ⟨o, rfl⟩)).wk (by omega) (by omega)
    · rw [if_pos y]; exact ⟨by omega, by omega⟩
theorem it_rg (pL : p ≤ L) : RG J L p 4 (itP J t L p) := by
  unfold itP
  by_cases q : tlF t L p = 116
  · have ll := tl_lt (t := t) (L := L) (p := p) (by omega)
    rw [if_pos q]; exact (tu_rg (by omega)).wk (by omega) (by omega)
  rw [if_neg q]
  by_cases q : tlF t L p = 120
  · have ll := tl_lt (t := t) (L := L) (p := p) (by omega)
    rw [if_pos q]; exact (tu_rg (by omega)).wk (by omega) (by omega)
  rw [if_neg q]
  unfold stP
  rcases cn_rng (t := t) (L := L) (u := -1) (p := p) with c1 | ⟨c1, c2, c3⟩
  · rw [if_pos c1]; exact ⟨by omega, by omega⟩
  rw [if_neg (by omega)]
  by_cases z : tlF t L (p + 1) = 62
  · have ll := tl_lt (t := t) (L := L) (p := p + 1) (by omega)
    rw [if_pos z]; exact (st2_rg (by omega) c1).wk (by omega) (by omega)
  rw [if_neg z]
  by_cases z : tlF t L (p + 1) = 45
  · have ll := tl_lt (t := t) (L := L) (p := p + 1) (by omega)
    rw [if_pos z]; exact (st2_rg (by omega) c1).wk (by omega) (by omega)
  rw [if_neg z]; exact ⟨by omega, by omega⟩
end
/-- the whole text: where it ends, whether well, and the items -/
def prs (T : es_M) (t : Int → Int) (L : Int) : Nat → Int → List It → Int × Bool × List It
  | 0, p, l => (p, false, l)
  | n + 1, p, l => match itP (tjF T l) t L p with
    | .inl q => (q, false, l)
    | .inr (q, it) => if tlF t L q = 59 then prs T t L n (q + 1) (l ++ [it]) else (q, true, l ++ [it])
def FRX (M M' : es_M) : Prop := ∀ (c : Nat) (j : Int), ¬ (c = 55 ∧ (j = 3 ∨ j = 4 ∨ j = 5)) → c ≠ 57 → M' c j = M c j
theorem FX.x {M M' M'' : es_M} (h : FRX M M') (h' : FX M' M'') : FRX M M'' := fun c j q r => (h' c j (fun z => q ⟨z.1, Or.inr (Or.inl z.2)⟩) r).trans (h c j q r)
theorem DR.snoc {l : List It} {M M' : es_M} {it : It} (h : DR l (M 57)) (e : DX M M' (l.length : Int) it) : DR (l ++ [it]) (M' 57) := by
  intro i it' hi
  by_cases z : i < l.length
  · rw [List.getElem?_append_left z] at hi
    have x := h i it' hi
    obtain ⟨-, g, -⟩ := e
    rw [g _ (by omega), g _ (by omega), g _ (by omega), g _ (by omega), g _ (by omega), g _ (by omega), g _ (by omega)]
    exact x
  · rw [List.getElem?_append_right (by omega)] at hi
    have lt := (List.getElem?_eq_some_iff.mp hi).1
    have e0 : i = l.length := by have : [it].length = 1 := rfl; omega
    subst e0
    rw [Nat.sub_self] at hi
    cases hi
    exact e.2.2
section
variable {d : Nat} {M : es_M} {Q : Int → es_M → Prop}
/-- what the class answers of a text of n signs -/
def ansT (n : Int) (R : Int × Bool × List It) : Int := if R.2.1 = true ∧ n ≤ R.1 then (R.2.2.length : Int) else -1 - R.1
theorem s_read (n0 : 0 ≤ M 55 1) (n1 : M 55 1 ≤ 100) (tx : ∀ i, 0 ≤ i → i < M 55 1 → 0 ≤ M 56 i ∧ M 56 i ≤ 255)
    (k : ∀ M', FRX M M' → ((prs M (M 56) (min (M 55 1) 60) 15 0 []).2.1 = true → DR (prs M (M 56) (min (M 55 1) 60) 15 0 []).2.2 (M' 57) ∧ M' 55 3 = (prs M (M 56) (min (M 55 1) 60) 15 0 []).2.2.length ∧ (prs M (M 56) (min (M 55 1) 60) 15 0 []).2.2.length ≤ 15) → Q (ansT (M 55 1) (prs M (M 56) (min (M 55 1) 60) 15 0 [])) M') : es_Call (d + 6) 75 [.inr (.inr 55), .inr (.inr 1)] M Q := by
  apply m_Reader_read
  intro G hG
  apply k_Reader_read_0 hG
  rw [es_upd_j (by decide), es_upd_j (by decide)]
  have TX0 : TX (M 56) (min (M 55 1) 60) := ⟨by omega, fun i i0 i1 => tx i i0 (by omega)⟩
  generalize hL : min (M 55 1) 60 = L at *
  have L0 : 0 ≤ L := by omega
  have key : ∀ (n : Nat) (p : Int) (l : List It) (M1 : es_M), n + l.length = 15 → 5 * (l.length : Int) ≤ p → RX (M 56) L p M1 → FRX M M1 → M1 55 3 = l.length → DR l (M1 57) → prs M (M 56) L 15 0 [] = prs M (M 56) L n p l → G 25 [lr 55, lr 1, li 1] [] M1 := by
    intro n
    induction n with
    | zero => intro p l M1 hn hp hR; exact absurd hR.2.2.2.1.2 (by have := TX0.1; omega)
    | succ n ih =>
      intro p l M1 hn hp hR hF hi hl hE
      apply k_Reader_read_25 hG
      refine es_t1 ⟨fun z => absurd z (by omega), fun _ => ?_⟩
      have hj : tjF M1 l = tjF M l := by funext a b; unfold tjF; rw [hF 8 _ (fun z => absurd z.1 (by decide)) (by decide)]
      refine s_readItem hR hi (by omega) hl ?_
      rw [hj]
      have rg := it_rg (J := tjF M l) (t := M 56) hR.2.2.2.1.2
      have p0 := hR.2.2.2.1.1
      have hs : prs M (M 56) L (n + 1) p l = match itP (tjF M l) (M 56) L p with
        | .inl q => (q, false, l)
        | .inr (q, it) => if tlF (M 56) L q = 59 then prs M (M 56) L n (q + 1) (l ++ [it]) else (q, true, l ++ [it]) := rfl
      rw [hs] at hE
      generalize itP (tjF M l) (M 56) L p = r at *
      match r, rg with
      | .inl q, rg =>
        intro M' h' f'
        refine (⟨fun z => absurd rfl z, fun _ => ?_⟩ : _ ∧ _)
        have fr := FX.x hF f'
        have e1 : ansT (M 55 1) (prs M (M 56) L 15 0 []) = w32 (-1 - M' 55 4) := by
          rw [hE, h'.2.2.1, w32_s (by have := TX0.1; have := rg.1; have := rg.2; omega) (by have := TX0.1; have := rg.1; have := rg.2; omega)]; rfl
        rw [← e1]
        refine k M' fr (fun z => ?_)
        rw [hE] at z; cases z
      | .inr (q, it), rg =>
        intro M' h' f'
        refine es_n1 ?_
        have i3 : M' 55 3 = l.length := (f'.1 55 3 (fun z => absurd z.2 (by decide)) (by decide)).trans hi
        have q1 := rg.1.1
        have q2 := rg.1.2
        have L6 := TX0.1
        rw [i3, w32_1 (by omega) (by omega)]
        have h2 : RX (M 56) L q (es_upd M' 55 3 ((l.length : Int) + 1)) := by
          obtain ⟨z1, z2, z3, z4, z5⟩ := h'
          exact ⟨by rw [es_upd_o 56 (by decide)]; exact z1, by rw [es_upd_j (by decide)]; exact z2, by rw [es_upd_j (by decide)]; exact z3, z4, z5⟩
        have f2 : FRX M (es_upd M' 55 3 ((l.length : Int) + 1)) := by
          intro c j q r
          have : ¬ (c = 55 ∧ j = 3) := fun z => q ⟨z.1, Or.inl z.2⟩
          rw [show es_upd M' 55 3 ((l.length : Int) + 1) c j = M' c j from if_neg this]
          exact FX.x hF f'.1 c j q r
        have d2 : DR (l ++ [it]) (es_upd M' 55 3 ((l.length : Int) + 1) 57) := by rw [es_upd_o 57 (by decide)]; exact hl.snoc f'
        have e3 : es_upd M' 55 3 ((l.length : Int) + 1) 55 3 = (l ++ [it]).length := by rw [es_upd_s, List.length_append]; rfl
        have ln1 : (l ++ [it]).length = l.length + 1 := by rw [List.length_append]; rfl
        refine s_skip h2 (by decide) (fun c1 cl M3 h3 e4 => ?_) (fun c1 => ?_)
        · rw [show (match (Sum.inr (q, it) : Int ⊕ (Int × It)) with
            | .inl q => (q, false, l)
            | .inr (q, it) => if tlF (M 56) L q = 59 then prs M (M 56) L n (q + 1) (l ++ [it]) else (q, true, l ++ [it])) = prs M (M 56) L n (q + 1) (l ++ [it]) from if_pos c1] at hE
          exact ih (q + 1) (l ++ [it]) M3 (by omega) (by omega) h3 (FX.x f2 e4.f) ((e4 55 3 (fun z => absurd z.2 (by decide))).trans e3) (d2.eq e4) hE
        · rw [show (match (Sum.inr (q, it) : Int ⊕ (Int × It)) with
            | .inl q => (q, false, l)
            | .inr (q, it) => if tlF (M 56) L q = 59 then prs M (M 56) L n (q + 1) (l ++ [it]) else (q, true, l ++ [it])) = (q, true, l ++ [it]) from if_neg c1] at hE
          apply k_Reader_read_25 hG
          refine es_t0 ?_
          have k2 := k _ f2 (fun _ => by rw [hE]; exact ⟨d2, e3, by show (l ++ [it]).length ≤ 15; omega⟩)
          rw [hE] at k2
          have e55 : es_upd M' 55 3 ((l.length : Int) + 1) 55 1 = M 55 1 := f2 55 1 (fun z => absurd z.2 (by decide)) (by decide)
          rw [e55, h2.2.2.1, e3, w32_s (by omega) (by omega)]
          unfold ansT at k2
          exact ⟨fun z => by rw [if_pos ⟨rfl, z⟩] at k2; exact k2, fun z => by rw [if_neg (fun y => z y.2)] at k2; exact k2⟩
  refine key 15 0 [] _ rfl (by decide) ⟨?_, es_upd_s, ?_, ⟨by omega, by omega⟩, TX0⟩ (fun c j q r => ?_) ?_ (fun i it hi => by cases hi) rfl
  · rw [es_upd_o 56 (by decide), es_upd_o 56 (by decide), es_upd_o 56 (by decide)]
  · rw [es_upd_j (by decide), es_upd_j (by decide), es_upd_s]
  · have a1 : ¬ (c = 55 ∧ j = 5) := fun z => q ⟨z.1, Or.inr (Or.inr z.2)⟩
    have a2 : ¬ (c = 55 ∧ j = 3) := fun z => q ⟨z.1, Or.inl z.2⟩
    have a3 : ¬ (c = 55 ∧ j = 4) := fun z => q ⟨z.1, Or.inr (Or.inl z.2)⟩
    exact (if_neg a1).trans ((if_neg a2).trans (if_neg a3))
  · rw [es_upd_j (by decide), es_upd_s]; rfl
end
