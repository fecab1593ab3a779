/-! THE TOWN'S TEXT (8): what a list of items makes of a town -/
theorem snoc_ind {P : List It → Prop} (h0 : P []) (hs : ∀ l it, P l → P (l ++ [it])) (l : List It) : P l := by
  have key : ∀ r : List It, P r.reverse := by
    intro r
    induction r with
    | nil => exact h0
    | cons a r ih => rw [List.reverse_cons]; exact hs _ _ ih
  have x := key l.reverse
  rw [List.reverse_reverse] at x
  exact x
def pBL (V : es_M) (l : List It) : es_M := l.foldl pB V
theorem pBL_snoc {V : es_M} {l : List It} {it : It} : pBL V (l ++ [it]) = pB (pBL V l) it := by unfold pBL; rw [List.foldl_append]; rfl
def GoodL (M : es_M) (l : List It) : Prop := ∀ l1 it l2, l = l1 ++ it :: l2 → WFI (tjF M l1) it
theorem GoodL.nil {M : es_M} : GoodL M [] := fun l1 it l2 e => by
  have := congrArg List.length e
  rw [List.length_append] at this
  simp at this
theorem GoodL.snoc {M : es_M} {l : List It} {it : It} (h : GoodL M l) (hi : WFI (tjF M l) it) : GoodL M (l ++ [it]) := by
  intro l1 it' l2 e
  rcases List.eq_nil_or_concat l2 with z | ⟨l3, x, z⟩
  · subst z
    obtain ⟨e1, e2⟩ := List.append_inj' e rfl
    cases e2
    subst e1
    exact hi
  · rw [z, List.concat_eq_append, ← List.cons_append, ← List.append_assoc] at e
    obtain ⟨e1, e2⟩ := List.append_inj' e rfl
    exact h l1 it' l3 e1
theorem GoodL.init {M : es_M} {l : List It} {it : It} (h : GoodL M (l ++ [it])) : GoodL M l ∧ WFI (tjF M l) it := by
  refine ⟨fun l1 it' l2 e => h l1 it' (l2 ++ [it]) ?_, h l it [] rfl⟩
  rw [e, List.append_assoc, List.cons_append]
theorem tj_snoc {M : es_M} {l : List It} {it : It} {a b : Int} : tjF M (l ++ [it]) a b = true ↔ tjF M l a b = true ∨ jnI a b it := by
  rw [jn_t, jn_t]
  constructor
  · rintro (h | ⟨x, hx, h⟩)
    · exact Or.inl (Or.inl h)
    · rcases List.mem_append.mp hx with hx | hx
      · exact Or.inl (Or.inr ⟨x, hx, h⟩)
      · rw [List.mem_singleton] at hx; subst hx; exact Or.inr h
  · rintro ((h | ⟨x, hx, h⟩) | h)
    · exact Or.inl h
    · exact Or.inr ⟨x, List.mem_append_left _ hx, h⟩
    · exact Or.inr ⟨it, List.mem_append_right _ (List.mem_singleton.mpr rfl), h⟩
def sm96 (V : es_M) : Nat → Int
  | 0 => 0
  | k + 1 => sm96 V k + V 96 k
theorem sm96_c {V W : es_M} : ∀ n : Nat, (∀ j : Int, 0 ≤ j → j < (n : Int) → W 96 j = V 96 j) → sm96 W n = sm96 V n
  | 0, _ => rfl
  | n + 1, h => by
    show sm96 W n + W 96 n = sm96 V n + V 96 n
    rw [sm96_c n (fun j a b => h j a (by omega)), h n (by omega) (by omega)]
def tus (l : List It) : List It := l.filter fun it => !decide (it.1 = 0)
def tuZ (l : List It) (f : Int → Int) : Int → Int := l.foldl (fun f it j => if j = plI it then mI it else f j) f
def VI (M V : es_M) (l : List It) : Prop := (V 91 3 = V 1 0 ∧ V 91 23 = V 1 1) ∧ (M 1 0 ≤ V 1 0 ∧ V 1 0 ≤ M 1 0 + l.length) ∧ (M 1 1 ≤ V 1 1 ∧ V 1 1 ≤ M 1 1 + 2 * l.length) ∧ sm96 V (V 1 0).toNat = V 1 1 ∧
  (∀ a b, 0 ≤ a → a < 12 → 0 ≤ b → b < 12 → ((∃ s, 0 ≤ s ∧ s < V 1 0 ∧ mat V s a b) ↔ tjF M l a b = true)) ∧ (∀ a b, 0 ≤ a → a < 12 → 0 ≤ b → b < 12 → (V 8 (a * 12 + b) = -1 ↔ ¬ tjF M l a b = true)) ∧
  (∀ s, s < M 1 0 → V 93 s = M 93 s ∧ V 94 s = M 94 s ∧ V 95 (2 * s) = M 95 (2 * s) ∧ V 95 (2 * s + 1) = M 95 (2 * s + 1) ∧ V 96 s = M 96 s ∧ V 97 s = M 97 s) ∧ V 101 = tuZ (tus l) (M 101) ∧ (∀ s, 0 ≤ s → s < V 1 0 → 0 ≤ V 96 s ∧ V 96 s ≤ 2)
theorem clr_o {M : es_M} {c : Nat} (h : c ≠ 14 ∧ c ≠ 25 ∧ c ≠ 35 ∧ c ≠ 45 ∧ c ≠ 55 ∧ c ≠ 91 ∧ c ≠ 137) : tclr M c = M c := by
  funext j
  unfold tclr
  rw [if_neg (by omega), if_neg (by omega), if_neg (by omega), if_neg (by omega), if_neg (by omega)]
theorem clr_91 {M : es_M} {j : Int} (h : j ≠ 16 ∧ j ≠ 41 ∧ j ≠ 47 ∧ j ≠ 30) : tclr M 91 j = M 91 j := by
  unfold tclr
  rw [if_neg (by omega), if_neg (by omega), if_neg (by omega), if_neg (by omega), if_neg (by omega)]
theorem VI.base {M : es_M} (h : TI M) : VI M (tclr M) [] := by
  have hn := h.n
  have hv := h.v
  have e1 : tclr M 1 = M 1 := clr_o (by decide)
  have e8 : tclr M 8 = M 8 := clr_o (by decide)
  have e3 : tclr M 93 = M 93 := clr_o (by decide)
  have e4 : tclr M 94 = M 94 := clr_o (by decide)
  have e5 : tclr M 95 = M 95 := clr_o (by decide)
  have e6 : tclr M 96 = M 96 := clr_o (by decide)
  have e7 : tclr M 97 = M 97 := clr_o (by decide)
  have e11 : tclr M 101 = M 101 := clr_o (by decide)
  unfold VI mat
  rw [clr_91 (j := 3) (by decide), clr_91 (j := 23) (by decide), e1, e8, e3, e4, e5, e6, e7, e11]
  refine ⟨⟨hn.2.2, hv.2.2⟩, ⟨by omega, by simp⟩, ⟨by omega, by simp⟩, ?_, ?_, ?_, fun s _ => ⟨rfl, rfl, rfl, rfl, rfl, rfl⟩, rfl, fun s s0 s1 => by have := h.st s0 s1; unfold TIst at this; omega⟩
  · rw [h.nv]
    have key : ∀ k : Nat, (k : Int) ≤ M 1 0 → sm96 (tclr M) k = preS M k := by
      intro k
      induction k with
      | zero => intro _; rfl
      | succ k ih =>
        intro hk
        show sm96 (tclr M) k + tclr M 96 k = preS M k + M 6 k
        have x := h.st (s := k) (by omega) (by omega)
        rw [ih (by omega), e6, x.2.2.2.2.2.2.2.2.2.2.1]
    exact key _ (by omega)
  · intro a b a0 a1 b0 b1
    rw [jn_t]
    constructor
    · rintro ⟨s, s0, s1, hm⟩
      refine Or.inl ?_
      have x := h.st s0 s1
      have y := h.js s0 s1
      rw [x.2.2.2.2.2.1, x.2.2.2.2.2.2.1] at hm
      rcases hm with ⟨m1, m2⟩ | ⟨m1, m2⟩
      · rw [m1, m2] at y; rw [y.1]; omega
      · rw [m1, m2] at y; rw [y.2]; omega
    · rintro (hj | ⟨it, hx, -⟩)
      · rcases h.jt a0 a1 b0 b1 with z | ⟨⟨s0, s1⟩, z⟩
        · exact absurd z hj
        · have x := h.st s0 s1
          refine ⟨_, s0, s1, ?_⟩
          rw [x.2.2.2.2.2.1, x.2.2.2.2.2.2.1]
          exact z
      · cases hx
  · intro a b a0 a1 b0 b1
    rw [jn_t]
    constructor
    · rintro z (y | ⟨it, hx, -⟩)
      · exact y z
      · cases hx
    · intro z
      by_cases y : M 8 (a * 12 + b) = -1
      · exact y
      · exact absurd (Or.inl y) z
theorem VI.turn {M V : es_M} {l : List It} {it : It} (h : VI M V l) (ht : it.1 = 1) : VI M (pT V it) (l ++ [it]) := by
  obtain ⟨h1, h2, h3, h4, h5, h6, h7, h8, h9⟩ := h
  have e8 : pT V it 8 = V 8 := pT_o (by decide)
  have e3 : pT V it 93 = V 93 := pT_o (by decide)
  have e4 : pT V it 94 = V 94 := pT_o (by decide)
  have e5 : pT V it 95 = V 95 := pT_o (by decide)
  have e6 : pT V it 96 = V 96 := pT_o (by decide)
  have e7 : pT V it 97 = V 97 := pT_o (by decide)
  have e91 : pT V it 91 = V 91 := pT_o (by decide)
  have nj : ∀ a b, ¬ jnI a b it := fun a b z => by have := z.1; omega
  have tj : ∀ a b, tjF M (l ++ [it]) a b = true ↔ tjF M l a b = true := fun a b => by rw [tj_snoc]; exact ⟨fun z => z.elim id (fun y => absurd y (nj a b)), Or.inl⟩
  have ll : ((l ++ [it]).length : Int) = l.length + 1 := by rw [List.length_append]; rfl
  have s96 := sm96_c (V := V) (W := pT V it) (V 1 0).toNat (fun j _ _ => by rw [e6])
  unfold VI mat at *
  rw [pT_1 (j := 0) (by decide), pT_1 (j := 1) (by decide), e8, e3, e4, e5, e6, e7, e91, ll, s96]
  refine ⟨h1, by omega, by omega, h4, fun a b a0 a1 b0 b1 => by rw [tj]; exact h5 a b a0 a1 b0 b1, fun a b a0 a1 b0 b1 => by rw [tj]; exact h6 a b a0 a1 b0 b1, h7, ?_, h9⟩
  have e : tus (l ++ [it]) = tus l ++ [it] := by unfold tus; rw [List.filter_append]; simp [ht]
  rw [e]
  unfold tuZ
  rw [List.foldl_append]
  funext j
  show (if j = plI it then (if it.2.2.2.2.1 = -1 then -2 else it.2.2.2.2.1) else V 101 j) = (if j = plI it then mI it else tuZ (tus l) (M 101) j)
  rw [h8]; rfl
theorem VI.street {M V : es_M} {l : List It} {it : It} (h : VI M V l) (hM : 0 ≤ M 1 0) (ht : it.1 = 0) (ha : 0 ≤ it.2.1 ∧ it.2.1 < 12) (hb : 0 ≤ it.2.2.1 ∧ it.2.2.1 < 12) (hk : 0 ≤ it.2.2.2.2.2.1 ∧ it.2.2.2.2.2.1 ≤ 2) : VI M (pS V it) (l ++ [it]) := by
  obtain ⟨h1, h2, h3, h4, h5, h6, h7, h8, h9⟩ := h
  have ll : ((l ++ [it]).length : Int) = l.length + 1 := by rw [List.length_append]; rfl
  have e101 : pS V it 101 = V 101 := pS_o (by decide)
  have tu : tus (l ++ [it]) = tus l := by unfold tus; rw [List.filter_append]; simp [ht]
  have w10 : pS V it 1 0 = V 1 0 + 1 := rfl
  have w11 : pS V it 1 1 = V 1 1 + it.2.2.2.2.2.1 := rfl
  have w913 : pS V it 91 3 = V 91 3 + 1 := rfl
  have w9123 : pS V it 91 23 = V 91 23 + it.2.2.2.2.2.1 := rfl
  have w3 : ∀ j, pS V it 93 j = if j = V 91 3 then it.2.1 else V 93 j := fun _ => rfl
  have w4 : ∀ j, pS V it 94 j = if j = V 91 3 then it.2.2.1 else V 94 j := fun _ => rfl
  have w5 : ∀ j, pS V it 95 j = if j = 2 * V 91 3 + 1 then it.2.2.2.2.1 else if j = 2 * V 91 3 then it.2.2.2.1 else V 95 j := fun _ => rfl
  have w6 : ∀ j, pS V it 96 j = if j = V 91 3 then it.2.2.2.2.2.1 else V 96 j := fun _ => rfl
  have w7 : ∀ j, pS V it 97 j = if j = V 91 3 then it.2.2.2.2.2.2 else V 97 j := fun _ => rfl
  have w8 : ∀ j, pS V it 8 j = if j = it.2.2.1 * 12 + it.2.1 ∨ j = it.2.1 * 12 + it.2.2.1 then V 1 0 else V 8 j := fun _ => rfl
  have s96 := sm96_c (V := V) (W := pS V it) (V 1 0).toNat (fun j _ j1 => by rw [w6, if_neg (by omega)])
  obtain ⟨kk, a, b, f, r, kd, w⟩ := it
  simp only at *
  unfold VI mat at *
  rw [w10, w11, w913, w9123, e101, tu, ll]
  refine ⟨by omega, by omega, by omega, ?_, ?_, ?_, ?_, h8, ?_⟩
  · rw [show (V 1 0 + 1).toNat = (V 1 0).toNat + 1 by omega]
    show sm96 (pS V (kk, a, b, f, r, kd, w)) (V 1 0).toNat + pS V (kk, a, b, f, r, kd, w) 96 ((V 1 0).toNat : Int) = _
    rw [s96, h4, w6, if_pos (by omega)]
  · intro x y x0 x1 y0 y1
    rw [tj_snoc, ← h5 x y x0 x1 y0 y1]
    constructor
    · rintro ⟨s, s0, s1, hm⟩
      rw [w3, w4] at hm
      by_cases e : s = V 91 3
      · rw [if_pos e, if_pos e] at hm
        refine Or.inr ⟨ht, ?_⟩
        exact hm.elim (fun z => Or.inl z) (fun z => Or.inr z)
      · rw [if_neg e, if_neg e] at hm
        exact Or.inl ⟨s, s0, by omega, hm⟩
    · rintro (⟨s, s0, s1, hm⟩ | ⟨-, hm⟩)
      · refine ⟨s, s0, by omega, ?_⟩
        rw [w3, w4, if_neg (by omega), if_neg (by omega)]
        exact hm
      · refine ⟨V 91 3, by omega, by omega, ?_⟩
        rw [w3, w4, if_pos rfl, if_pos rfl]
        exact hm
  · intro x y x0 x1 y0 y1
    have h6' := h6 x y x0 x1 y0 y1
    rw [w8, tj_snoc]
    by_cases e : x * 12 + y = b * 12 + a ∨ x * 12 + y = a * 12 + b
    · rw [if_pos e]
      refine ⟨fun z => absurd z (by omega), fun z => absurd (Or.inr ⟨ht, ?_⟩) z⟩
      show (a = x ∧ b = y) ∨ (a = y ∧ b = x)
      omega
    · rw [if_neg e, h6']
      refine ⟨fun z => fun yy => yy.elim z (fun u => ?_), fun z yy => z (Or.inl yy)⟩
      have u2 : (a = x ∧ b = y) ∨ (a = y ∧ b = x) := u.2
      omega
  · intro s hs
    rw [w3, w4, w5, w5, w6, w7, if_neg (by omega), if_neg (by omega), if_neg (by omega), if_neg (by omega), if_neg (by omega), if_neg (by omega), if_neg (by omega), if_neg (by omega)]
    exact h7 s hs
  · intro s s0 s1
    rw [w6]
    by_cases e : s = V 91 3
    · rw [if_pos e]; exact hk
    · rw [if_neg e]; exact h9 s s0 (by omega)
theorem VI_l {M : es_M} (h : TI M) (l : List It) : GoodL M l → VI M (pBL (tclr M) l) l := by
  refine snoc_ind (P := fun l => GoodL M l → VI M (pBL (tclr M) l) l) (fun _ => VI.base h) (fun l it ih g => ?_) l
  obtain ⟨g1, g2⟩ := g.init
  rw [pBL_snoc]
  unfold pB
  rcases g2 with ⟨z, -⟩ | ⟨z, ⟨c1, c2, -, -⟩, -, -, c3, -⟩
  · rw [if_neg (by omega)]; exact (ih g1).turn z
  · rw [if_pos z]; exact (ih g1).street h.n.1 z c1 c2 c3
