/-! THE TOWN GROWS: a street or a turn more, in the class's cells and in the model's; the town stays a town -/
def od1 (x a b : Int) : Int := es_xor x (es_xor (es_shl 1 a) (es_shl 1 b))
def pS (V : es_M) (it : It) : es_M := fun c j =>
  if c = 1 then (if j = 0 then V 1 0 + 1 else if j = 1 then V 1 1 + it.2.2.2.2.2.1 else if j = 3 then (if it.2.2.2.2.2.1 = 1 then od1 (V 1 3) it.2.1 it.2.2.1 else if it.2.2.2.2.2.1 = 2 then od1 (od1 (V 1 3) it.2.1 it.2.2.1) it.2.1 it.2.2.1 else V 1 3) else V 1 j)
  else if c = 2 then (if j = V 1 0 then it.2.1 else V 2 j)
  else if c = 3 then (if j = V 1 0 then it.2.2.1 else V 3 j)
  else if c = 4 then (if j = V 1 0 then it.2.2.2.1 else V 4 j)
  else if c = 5 then (if j = V 1 0 then it.2.2.2.2.1 else V 5 j)
  else if c = 6 then (if j = V 1 0 then it.2.2.2.2.2.1 else V 6 j)
  else if c = 7 then (if j = V 1 0 then it.2.2.2.2.2.2 else V 7 j)
  else if c = 8 then (if j = it.2.2.1 * 12 + it.2.1 ∨ j = it.2.1 * 12 + it.2.2.1 then V 1 0 else V 8 j)
  else if c = 10 then (if V 1 1 ≤ j ∧ j < V 1 1 + it.2.2.2.2.2.1 then V 1 0 else V 10 j)
  else if c = 11 then (if V 1 1 ≤ j ∧ j < V 1 1 + it.2.2.2.2.2.1 then (if it.2.2.2.2.2.1 = 1 then 0 else j - V 1 1 + 1) else V 11 j)
  else if c = 13 then (if j = 2 * V 1 0 ∧ it.2.2.2.2.2.1 ≠ 0 then V 1 1 else if j = 2 * V 1 0 + 1 ∧ it.2.2.2.2.2.1 = 1 then V 1 1 else if j = 2 * V 1 0 + 1 ∧ it.2.2.2.2.2.1 = 2 then V 1 1 + 1 else V 13 j)
  else if c = 91 then (if j = 3 then V 91 3 + 1 else if j = 23 then V 91 23 + it.2.2.2.2.2.1 else V 91 j)
  else if c = 93 then (if j = V 91 3 then it.2.1 else V 93 j)
  else if c = 94 then (if j = V 91 3 then it.2.2.1 else V 94 j)
  else if c = 95 then (if j = 2 * V 91 3 + 1 then it.2.2.2.2.1 else if j = 2 * V 91 3 then it.2.2.2.1 else V 95 j)
  else if c = 96 then (if j = V 91 3 then it.2.2.2.2.2.1 else V 96 j)
  else if c = 97 then (if j = V 91 3 then it.2.2.2.2.2.2 else V 97 j)
  else if c = 106 then (if V 91 23 ≤ j ∧ j < V 91 23 + it.2.2.2.2.2.1 then V 91 3 else V 106 j)
  else if c = 107 then (if V 91 23 ≤ j ∧ j < V 91 23 + it.2.2.2.2.2.1 then (if it.2.2.2.2.2.1 = 1 then 0 else j - V 91 23 + 1) else V 107 j)
  else V c j
def plI (it : It) : Int := (it.2.1 * 12 + it.2.2.1) * 12 + it.2.2.2.1
def pT (V : es_M) (it : It) : es_M := fun c j =>
  if c = 1 then (if j = 2 then (if V 9 (plI it) = -2 then V 1 2 + 1 else V 1 2) else V 1 j)
  else if c = 9 then (if j = plI it then it.2.2.2.2.1 else V 9 j)
  else if c = 101 then (if j = plI it then (if it.2.2.2.2.1 = -1 then -2 else it.2.2.2.2.1) else V 101 j)
  else V c j
def pB (V : es_M) (it : It) : es_M := if it.1 = 0 then pS V it else pT V it
theorem pS_o {V : es_M} {it : It} {c : Nat} (h : (c = 9 ∨ c = 12 ∨ 14 ≤ c) ∧ c ≠ 91 ∧ ¬ (93 ≤ c ∧ c ≤ 97) ∧ c ≠ 106 ∧ c ≠ 107) : pS V it c = V c := by
  funext j
  unfold pS
  rw [if_neg (by omega), if_neg (by omega), if_neg (by omega), if_neg (by omega), if_neg (by omega), if_neg (by omega), if_neg (by omega), if_neg (by omega), if_neg (by omega), if_neg (by omega), if_neg (by omega), if_neg (by omega), if_neg (by omega), if_neg (by omega), if_neg (by omega), if_neg (by omega), if_neg (by omega), if_neg (by omega), if_neg (by omega)]
theorem pS_91 {V : es_M} {it : It} {j : Int} (h3 : j ≠ 3) (h23 : j ≠ 23) : pS V it 91 j = V 91 j := by
  show (if j = 3 then V 91 3 + 1 else if j = 23 then V 91 23 + it.2.2.2.2.2.1 else V 91 j) = _
  rw [if_neg h3, if_neg h23]
theorem pT_o {V : es_M} {it : It} {c : Nat} (h : c ≠ 1 ∧ c ≠ 9 ∧ c ≠ 101) : pT V it c = V c := by
  funext j
  unfold pT
  rw [if_neg h.1, if_neg h.2.1, if_neg h.2.2]
theorem pT_1 {V : es_M} {it : It} {j : Int} (h : j ≠ 2) : pT V it 1 j = V 1 j := by
  show (if j = 2 then (if V 9 (plI it) = -2 then V 1 2 + 1 else V 1 2) else V 1 j) = _
  rw [if_neg h]
theorem od1_eq {N : Nat} {a b : Int} (hN : N < 4096) (ha : 0 ≤ a ∧ a < 12) (hb : 0 ≤ b ∧ b < 12) : od1 (N : Int) a b = (((N ^^^ 2 ^ a.toNat) ^^^ 2 ^ b.toNat : Nat) : Int) := by
  unfold od1
  have p1 := pow4096 ha.2
  have p2 := pow4096 hb.2
  have e1 : es_shl 1 a = ((2 ^ a.toNat : Nat) : Int) := by
    obtain ⟨x, rfl⟩ := Int.eq_ofNat_of_zero_le ha.1
    exact eb_shl (by omega)
  have e2 : es_shl 1 b = ((2 ^ b.toNat : Nat) : Int) := by
    obtain ⟨x, rfl⟩ := Int.eq_ofNat_of_zero_le hb.1
    exact eb_shl (by omega)
  rw [e1, e2, eb_xor (by omega) (by omega), eb_xor (by omega) (by have := xor_lt4096 p1 p2; omega), Nat.xor_assoc]
/-- work cleared, kept states gone, the text read -/
def tclr (M : es_M) : es_M := fun c j =>
  if c = 14 ∧ (j = 1 ∨ j = 2 ∨ j = 3) then 0 else if (c = 25 ∨ c = 35 ∨ c = 45) ∧ j = 0 then 0 else if c = 55 ∧ j = 1 then 0 else if c = 91 ∧ (j = 16 ∨ j = 41 ∨ j = 47 ∨ j = 30) then 0 else if c = 137 ∧ 0 ≤ j ∧ j < 3 then 0 else M c j
/-- what a street more leaves of the states of work -/
theorem SI_0 {T : es_M} {c : Nat} {mv : Nat → Int → Int} (h1 : SIsc (T c) (mv 0)) (h2 : SIsh (T 1 0) (T c 4) (mv 6)) (z1 : T c 1 = 0) (z2 : T c 2 = 0) (z3 : T c 3 = 0) (h3 : SIbz (T (c + 6)) (mv 9)) (h4 : SIop (T (c + 7)) (T (c + 8)) (mv 7) (mv 8)) (h5 : SIst (T (c + 9)) (mv 10)) : SI T c mv :=
  ⟨h1, h2, fun i i0 i1 => by omega, fun i i0 i1 => by omega, ⟨fun i i0 i1 => by omega, fun i j i0 i1 => by omega⟩, fun i i0 i1 => by omega, h3, h4, h5⟩
/-- a town with nothing under way -/
def TI0 (V : es_M) : Prop := TI V ∧ V 14 1 = 0 ∧ V 14 2 = 0 ∧ V 14 3 = 0 ∧ V 25 0 = 0 ∧ V 35 0 = 0 ∧ V 45 0 = 0
theorem TIkept_0 {V : es_M} (h : V 25 0 = 0 ∧ V 35 0 = 0 ∧ V 45 0 = 0) (e : ∀ i : Int, 0 ≤ i → i < 3 → V 137 i = 0) : TIkept V := by
  intro i hi
  rcases (show i = 0 ∨ i = 1 ∨ i = 2 by omega) with rfl | rfl | rfl
  · show (V 25 0 = 0 ∨ V 25 0 = 1) ∧ V 137 ((0 : Nat) : Int) = V 25 0 ∧ (V 25 0 = 1 → _)
    rw [h.1, e _ (by omega) (by omega)]
    exact ⟨Or.inl rfl, rfl, fun z => by omega⟩
  · show (V 35 0 = 0 ∨ V 35 0 = 1) ∧ V 137 ((1 : Nat) : Int) = V 35 0 ∧ (V 35 0 = 1 → _)
    rw [h.2.1, e _ (by omega) (by omega)]
    exact ⟨Or.inl rfl, rfl, fun z => by omega⟩
  · show (V 45 0 = 0 ∨ V 45 0 = 1) ∧ V 137 ((2 : Nat) : Int) = V 45 0 ∧ (V 45 0 = 1 → _)
    rw [h.2.2, e _ (by omega) (by omega)]
    exact ⟨Or.inl rfl, rfl, fun z => by omega⟩
theorem TI0.k {V : es_M} (h : TI0 V) (i : Int) (i0 : 0 ≤ i) (i1 : i < 3) : V 137 i = 0 := by
  obtain ⟨hT, -, -, -, a, b, c⟩ := h
  have K := hT.K
  rcases (show i = 0 ∨ i = 1 ∨ i = 2 by omega) with rfl | rfl | rfl
  · exact ((K 0 (by decide)).2.1).trans a
  · exact ((K 1 (by decide)).2.1).trans b
  · exact ((K 2 (by decide)).2.1).trans c
theorem pw2_le {m n : Nat} (h : m ≤ n) : (2 : Int) ^ m ≤ 2 ^ n := by
  have := Nat.pow_le_pow_right (n := 2) (by decide) h
  rw [show (2 : Int) = ((2 : Nat) : Int) from rfl, ← Int.natCast_pow, ← Int.natCast_pow]
  exact Int.ofNat_le.mpr this
theorem mvN_pS {V : es_M} {it : It} : mvN (pS V it) = mvN V := by
  funext k j
  unfold mvN
  rw [pS_91 (j := 41) (by decide) (by decide), pS_91 (j := 47) (by decide) (by decide), pS_91 (j := 30) (by decide) (by decide), pS_91 (j := 13) (by decide) (by decide), pS_o (c := 120) (by decide), pS_o (c := 125) (by decide), pS_o (c := 126) (by decide), pS_o (c := 112) (by decide), pS_o (c := 113) (by decide), pS_o (c := 98) (by decide), pS_o (c := 99) (by decide), pS_o (c := 100) (by decide), pS_o (c := 121) (by decide), pS_o (c := 102) (by decide)]
theorem mvN_pT {V : es_M} {it : It} : mvN (pT V it) = mvN V := by
  funext k j
  unfold mvN
  rw [pT_o (c := 91) (by decide), pT_o (c := 120) (by decide), pT_o (c := 125) (by decide), pT_o (c := 126) (by decide), pT_o (c := 112) (by decide), pT_o (c := 113) (by decide), pT_o (c := 98) (by decide), pT_o (c := 99) (by decide), pT_o (c := 100) (by decide), pT_o (c := 121) (by decide), pT_o (c := 102) (by decide)]
set_option maxHeartbeats 2000000 in
theorem TI0_pS {V : es_M} {k a b f r kd w : Int} (h : TI0 V) (ha : 0 ≤ a ∧ a < 12) (hb : 0 ≤ b ∧ b < 12) (hab : a ≠ b) (hj : V 8 (a * 12 + b) = -1) (hf : 1 ≤ f ∧ f ≤ 99) (hr : r = -1 ∨ (1 ≤ r ∧ r ≤ 99)) (hkd : 0 ≤ kd ∧ kd ≤ 2) (hk2 : kd = 2 → r ≠ -1) (hw : 0 ≤ w ∧ w ≤ 9) (hw1 : kd ≠ 0 → 1 ≤ w) (n18 : V 1 0 < 18) (v10 : V 1 1 + kd ≤ 10) : TI0 (pS V (k, a, b, f, r, kd, w)) := by
  have hk0 := h.k
  obtain ⟨hT, z1, z2, z3, k1, k2, k3⟩ := h
  have hn := hT.n
  have hv := hT.v
  have em := mvN_pS (V := V) (it := (k, a, b, f, r, kd, w))
  have eo : ∀ {c : Nat}, (c = 9 ∨ c = 12 ∨ 14 ≤ c) ∧ c ≠ 91 ∧ ¬ (93 ≤ c ∧ c ≤ 97) ∧ c ≠ 106 ∧ c ≠ 107 → pS V (k, a, b, f, r, kd, w) c = V c := fun hc => pS_o hc
  have e91 : ∀ {j : Int}, j ≠ 3 → j ≠ 23 → pS V (k, a, b, f, r, kd, w) 91 j = V 91 j := fun h3 h23 => pS_91 h3 h23
  generalize hW : pS V (k, a, b, f, r, kd, w) = W at *
  have w10 : W 1 0 = V 1 0 + 1 := by rw [← hW]; rfl
  have w11 : W 1 1 = V 1 1 + kd := by rw [← hW]; rfl
  have w12 : W 1 2 = V 1 2 := by rw [← hW]; rfl
  have w13 : W 1 3 = if kd = 1 then od1 (V 1 3) a b else if kd = 2 then od1 (od1 (V 1 3) a b) a b else V 1 3 := by rw [← hW]; rfl
  have w2 : ∀ j, W 2 j = if j = V 1 0 then a else V 2 j := fun j => by rw [← hW]; rfl
  have w3 : ∀ j, W 3 j = if j = V 1 0 then b else V 3 j := fun j => by rw [← hW]; rfl
  have w4 : ∀ j, W 4 j = if j = V 1 0 then f else V 4 j := fun j => by rw [← hW]; rfl
  have w5 : ∀ j, W 5 j = if j = V 1 0 then r else V 5 j := fun j => by rw [← hW]; rfl
  have w6 : ∀ j, W 6 j = if j = V 1 0 then kd else V 6 j := fun j => by rw [← hW]; rfl
  have w7 : ∀ j, W 7 j = if j = V 1 0 then w else V 7 j := fun j => by rw [← hW]; rfl
  have w8 : ∀ j, W 8 j = if j = b * 12 + a ∨ j = a * 12 + b then V 1 0 else V 8 j := fun j => by rw [← hW]; rfl
  have wA : ∀ j, W 10 j = if V 1 1 ≤ j ∧ j < V 1 1 + kd then V 1 0 else V 10 j := fun j => by rw [← hW]; rfl
  have wB : ∀ j, W 11 j = if V 1 1 ≤ j ∧ j < V 1 1 + kd then (if kd = 1 then 0 else j - V 1 1 + 1) else V 11 j := fun j => by rw [← hW]; rfl
  have wD : ∀ j, W 13 j = if j = 2 * V 1 0 ∧ kd ≠ 0 then V 1 1 else if j = 2 * V 1 0 + 1 ∧ kd = 1 then V 1 1 else if j = 2 * V 1 0 + 1 ∧ kd = 2 then V 1 1 + 1 else V 13 j := fun j => by rw [← hW]; rfl
  have w93 : ∀ j, W 93 j = if j = V 1 0 then a else V 93 j := fun j => by rw [← hW, ← hn.2.2]; rfl
  have w94 : ∀ j, W 94 j = if j = V 1 0 then b else V 94 j := fun j => by rw [← hW, ← hn.2.2]; rfl
  have w95 : ∀ j, W 95 j = if j = 2 * V 1 0 + 1 then r else if j = 2 * V 1 0 then f else V 95 j := fun j => by rw [← hW, ← hn.2.2]; rfl
  have w96 : ∀ j, W 96 j = if j = V 1 0 then kd else V 96 j := fun j => by rw [← hW, ← hn.2.2]; rfl
  have w97 : ∀ j, W 97 j = if j = V 1 0 then w else V 97 j := fun j => by rw [← hW, ← hn.2.2]; rfl
  have w106 : ∀ j, W 106 j = if V 1 1 ≤ j ∧ j < V 1 1 + kd then V 1 0 else V 106 j := fun j => by rw [← hW, ← hn.2.2, ← hv.2.2]; rfl
  have w107 : ∀ j, W 107 j = if V 1 1 ≤ j ∧ j < V 1 1 + kd then (if kd = 1 then 0 else j - V 1 1 + 1) else V 107 j := fun j => by rw [← hW, ← hv.2.2]; rfl
  have w913 : W 91 3 = V 1 0 + 1 := by rw [← hW, ← hn.2.2]; rfl
  have w9123 : W 91 23 = V 1 1 + kd := by rw [← hW, ← hv.2.2]; rfl
  have pre : ∀ m : Nat, (m : Int) ≤ V 1 0 → preS W m = preS V m := by
    intro m
    induction m with
    | zero => intro _; rfl
    | succ m ih =>
      intro hm
      show preS W m + W 6 (m : Int) = preS V m + V 6 (m : Int)
      rw [ih (by omega), w6, if_neg (by omega)]
  have nv := hT.nv
  have preN : preS W (V 1 0).toNat = V 1 1 := by rw [pre _ (by omega), ← nv]
  have odd : ∀ m : Nat, (m : Int) ≤ V 1 1 → oddN W m = oddN V m := by
    intro m
    induction m with
    | zero => intro _; rfl
    | succ m ih =>
      intro hm
      show (oddN W m ^^^ 2 ^ (W 2 (W 10 m)).toNat) ^^^ 2 ^ (W 3 (W 10 m)).toNat = (oddN V m ^^^ 2 ^ (V 2 (V 10 m)).toNat) ^^^ 2 ^ (V 3 (V 10 m)).toNat
      have s := (hT.sr (v := m) (by omega) (by omega)).1
      rw [ih (by omega), wA, if_neg (by omega), w2, if_neg (by omega), w3, if_neg (by omega)]
  refine ⟨⟨⟨?_, ?_, ?_, ?_, ?_, ?_, ?_, ?_, ?_, ?_, ?_, ?_, ?_⟩, ?_, ?_, ?_, ?_⟩, ?_, ?_, ?_, ?_, ?_, ?_⟩
  · rw [w10, w913]; omega
  · rw [w11, w9123]; omega
  · intro s s0 s1
    rw [w10] at s1
    by_cases e : s = V 1 0
    · subst e
      unfold TIst
      rw [w2, w3, w4, w5, w6, w7, w93, w94, w95, w95, w96, w97, if_pos rfl, if_pos rfl, if_pos rfl, if_pos rfl, if_pos rfl, if_pos rfl, if_pos rfl, if_pos rfl, if_neg (by omega), if_pos rfl, if_pos rfl, if_pos rfl, if_pos rfl]
      exact ⟨ha, hb, hab, hf, hr, rfl, rfl, rfl, rfl, hkd, rfl, rfl, hw, hk2, hw1⟩
    · have := hT.st s0 (by omega)
      unfold TIst at *
      rw [w2, w3, w4, w5, w6, w7, w93, w94, w95, w95, w96, w97, if_neg e, if_neg e, if_neg e, if_neg e, if_neg e, if_neg e, if_neg e, if_neg e, if_neg (by omega), if_neg (by omega), if_neg (by omega), if_neg (by omega), if_neg e, if_neg e]
      exact this
  · intro a' b' p1 p2 p3 p4
    rw [w8]
    by_cases e : a' * 12 + b' = b * 12 + a ∨ a' * 12 + b' = a * 12 + b
    · rw [if_pos e, w2, w3, if_pos rfl, if_pos rfl, w10]
      right
      refine ⟨by omega, ?_⟩
      omega
    · rw [if_neg e]
      rcases hT.jt p1 p2 p3 p4 with q | ⟨q1, q2⟩
      · exact Or.inl q
      · right
        rw [w2, w3, if_neg (by omega), if_neg (by omega), w10]
        exact ⟨by omega, q2⟩
  · intro s s0 s1
    rw [w10] at s1
    by_cases e : s = V 1 0
    · subst e
      rw [w2, w3, if_pos rfl, if_pos rfl, w8, w8, if_pos (Or.inr rfl), if_pos (Or.inl rfl)]
      exact ⟨rfl, rfl⟩
    · have q := hT.js s0 (by omega)
      obtain ⟨t1, t2, -⟩ := hT.st s0 (by omega)
      rw [w2, w3, if_neg e, if_neg e, w8, w8]
      have n1 : ¬ (V 2 s = a ∧ V 3 s = b) := fun z => by rw [z.1, z.2, hj] at q; omega
      have n2 : ¬ (V 2 s = b ∧ V 3 s = a) := fun z => by rw [z.1, z.2, hj] at q; omega
      rw [if_neg (by omega), if_neg (by omega)]
      exact q
  · rw [eo (c := 9) (by decide), eo (c := 101) (by decide)]; exact fun k k0 k1 => hT.tn k0 k1
  · rw [w12, turnsN_congr (eo (c := 101) (by decide))]; exact hT.tt
  · rw [w10, preS_s (by omega), preN, w6, if_pos rfl, w11]
  · intro s s0 s1 x x0 x1
    rw [w10] at s1
    rw [w6] at x1 ⊢
    by_cases e : s = V 1 0
    · subst e
      rw [if_pos rfl] at x1 ⊢
      rw [preN, wA, wB, if_pos (by omega), if_pos (by omega)]
      refine ⟨rfl, ?_⟩
      by_cases q : kd = 1
      · rw [if_pos q, if_pos q]
      · rw [if_neg q, if_neg q]; omega
    · rw [if_neg e] at x1 ⊢
      have lt := preS_lt hT s0 (by omega) x0 x1
      rw [pre _ (by omega), wA, wB, if_neg (by omega), if_neg (by omega)]
      exact hT.sv s0 (by omega) x x0 x1
  · intro x x0 x1
    rw [w11] at x1
    rw [w106, w107, wA, wB]
    by_cases e : V 1 1 ≤ x ∧ x < V 1 1 + kd
    · rw [if_pos e, if_pos e, if_pos e, if_pos e]; exact ⟨rfl, rfl⟩
    · rw [if_neg e, if_neg e, if_neg e, if_neg e]; exact hT.mv x0 (by omega)
  · intro x x0 x1
    have q := hT.ah x0 x1
    rw [eo (c := 108) (by decide), eo (c := 12) (by decide), w11]
    refine ⟨q.1, q.2.1, Int.lt_of_lt_of_le q.2.2.1 (pw2_le (by omega)), fun y => q.2.2.2 (by omega), hT.ns x0 x1⟩
  · intro s s0 s1
    have q := hT.db s0 s1
    rw [wD, wD, w6, w10]
    by_cases e : s = V 1 0
    · subst e
      rw [if_pos rfl, preN]
      rw [if_neg (fun z => by omega), if_neg (fun z => by omega)] at q
      have q2 := q.2
      rw [if_neg (fun z => by omega)] at q2
      rcases (show kd = 0 ∨ kd = 1 ∨ kd = 2 by omega) with rfl | rfl | rfl
      · refine ⟨?_, ?_⟩
        · rw [if_neg (by omega), if_neg (by omega), if_neg (by omega), if_neg (by omega)]; exact q.1
        · rw [if_neg (by omega), if_neg (by omega), if_neg (by omega), if_neg (by omega), if_neg (by omega)]; exact q2
      · refine ⟨?_, ?_⟩
        · rw [if_pos (by omega), if_pos (by omega)]
        · rw [if_neg (by omega), if_pos (by omega), if_pos (by omega)]
      · refine ⟨?_, ?_⟩
        · rw [if_pos (by omega), if_pos (by omega)]
        · rw [if_neg (by omega), if_neg (by omega), if_pos (by omega), if_neg (by omega), if_pos (by omega)]
    · rw [if_neg e]
      by_cases lt : s < V 1 0
      · rw [pre _ (by omega)]
        have eq1 : (s < V 1 0 + 1 ∧ V 6 s ≠ 0) ↔ (s < V 1 0 ∧ V 6 s ≠ 0) := by omega
        have eq2 : (s < V 1 0 + 1 ∧ V 6 s = 1) ↔ (s < V 1 0 ∧ V 6 s = 1) := by omega
        have eq3 : (s < V 1 0 + 1 ∧ V 6 s = 2) ↔ (s < V 1 0 ∧ V 6 s = 2) := by omega
        simp only [eq1, eq2, eq3]
        refine ⟨?_, ?_⟩
        · rw [if_neg (by omega), if_neg (by omega), if_neg (by omega)]; exact q.1
        · rw [if_neg (by omega), if_neg (by omega), if_neg (by omega)]; exact q.2
      · have qa := q.1
        have qb := q.2
        rw [if_neg (by omega)] at qa
        rw [if_neg (by omega), if_neg (by omega)] at qb
        refine ⟨?_, ?_⟩
        · rw [if_neg (by omega), if_neg (by omega), if_neg (by omega), if_neg (by omega)]; exact qa
        · rw [if_neg (by omega), if_neg (by omega), if_neg (by omega), if_neg (by omega), if_neg (by omega)]; exact qb
  · have o1 := hT.oddr (V 1 1).toNat (by omega)
    have od := hT.od
    have oW := odd (V 1 1).toNat (by omega)
    rw [w13, w11]
    have st : ∀ m : Nat, V 1 1 ≤ (m : Int) → (m : Int) < V 1 1 + kd → oddN W (m + 1) = (oddN W m ^^^ 2 ^ a.toNat) ^^^ 2 ^ b.toNat := by
      intro m m0 m1
      show (oddN W m ^^^ 2 ^ (W 2 (W 10 m)).toNat) ^^^ 2 ^ (W 3 (W 10 m)).toNat = _
      rw [wA, if_pos ⟨m0, m1⟩, w2, w3, if_pos rfl, if_pos rfl]
    rcases (show kd = 0 ∨ kd = 1 ∨ kd = 2 by omega) with rfl | rfl | rfl
    · rw [if_neg (by decide), if_neg (by decide), Int.add_zero, oW]; exact od
    · rw [if_pos rfl, od, od1_eq o1 ha hb, show (V 1 1 + 1).toNat = (V 1 1).toNat + 1 by omega, st _ (by omega) (by omega), oW]
    · have o2 : ((oddN V (V 1 1).toNat ^^^ 2 ^ a.toNat) ^^^ 2 ^ b.toNat) < 4096 := xor_lt4096 (xor_lt4096 o1 (pow4096 ha.2)) (pow4096 hb.2)
      rw [if_neg (by decide), if_pos rfl, od, od1_eq o1 ha hb, od1_eq o2 ha hb, show (V 1 1 + 2).toNat = (V 1 1).toNat + 1 + 1 by omega, st _ (by omega) (by omega), st _ (by omega) (by omega), oW]
  · obtain ⟨s1, s2, -, -, -, -, s7, s8, s9⟩ := hT.S
    have e14 : ∀ i : Nat, W (14 + i) = V (14 + i) ∨ 30 < i := fun i => by
      by_cases q : i ≤ 30
      · exact Or.inl (eo (by omega))
      · exact Or.inr (by omega)
    rw [em]
    refine SI_0 ?_ ?_ ?_ ?_ ?_ ?_ ?_ ?_
    · rw [eo (c := 14) (by decide)]; exact s1
    · rw [eo (c := 14) (by decide), w10]
      exact ⟨s2.1, fun s s0 s1 => ⟨fun q => ⟨((s2.2 s s0 s1).1 q).1, by have := ((s2.2 s s0 s1).1 q).2; omega⟩, (s2.2 s s0 s1).2⟩⟩
    · rw [eo (c := 14) (by decide)]; exact z1
    · rw [eo (c := 14) (by decide)]; exact z2
    · rw [eo (c := 14) (by decide)]; exact z3
    · rw [eo (c := 14 + 6) (by decide)]; exact s7
    · rw [eo (c := 14 + 7) (by decide), eo (c := 14 + 8) (by decide)]; exact s8
    · rw [eo (c := 14 + 9) (by decide)]; exact s9
  · refine TIkept_0 ⟨?_, ?_, ?_⟩ (fun i i0 i1 => ?_)
    · rw [eo (c := 25) (by decide)]; exact k1
    · rw [eo (c := 35) (by decide)]; exact k2
    · rw [eo (c := 45) (by decide)]; exact k3
    · rw [eo (c := 137) (by decide)]; exact hk0 i i0 i1
  · exact hT.X.congr (by rw [eo (c := 55) (by decide)]) (e91 (by decide) (by decide)) (eo (by decide)) (eo (by decide))
  · intro i i0 i1; rw [eo (c := 109) (by decide)]; exact hT.U i0 i1
  · rw [eo (c := 14) (by decide)]; exact z1
  · rw [eo (c := 14) (by decide)]; exact z2
  · rw [eo (c := 14) (by decide)]; exact z3
  · rw [eo (c := 25) (by decide)]; exact k1
  · rw [eo (c := 35) (by decide)]; exact k2
  · rw [eo (c := 45) (by decide)]; exact k3
theorem turnsN_set {V W : es_M} {pl x : Int} (p0 : 0 ≤ pl) (h : ∀ j, W 101 j = if j = pl then x else V 101 j) (hx : x ≠ -1) : ∀ m : Nat, turnsN W m = turnsN V m + (if pl < (m : Int) ∧ V 101 pl = -1 then 1 else 0) := by
  intro m
  induction m with
  | zero => rw [if_neg (by omega)]; rfl
  | succ m ih =>
    show turnsN W m + (if W 101 (m : Int) = -1 then 0 else 1) = turnsN V m + (if V 101 (m : Int) = -1 then 0 else 1) + _
    rw [ih, h]
    by_cases e : (m : Int) = pl
    · rw [if_pos e, if_neg hx, if_neg (by omega), e]
      by_cases q : V 101 pl = -1
      · rw [if_pos q, if_pos ⟨by omega, q⟩]
      · rw [if_neg q, if_neg (fun z => q z.2)]; omega
    · rw [if_neg e]
      have : (pl < (m : Int) ∧ V 101 pl = -1) ↔ (pl < ((m + 1 : Nat) : Int) ∧ V 101 pl = -1) := by omega
      simp only [this]
      omega
theorem TI0_pT {V : es_M} {k a b c m x y : Int} (h : TI0 V) (ha : 0 ≤ a ∧ a < 12) (hb : 0 ≤ b ∧ b < 12) (hc : 0 ≤ c ∧ c < 12) (hm : -1 ≤ m ∧ m ≤ 99) : TI0 (pT V (k, a, b, c, m, x, y)) := by
  have hk0 := h.k
  obtain ⟨hT, z1, z2, z3, k1, k2, k3⟩ := h
  have em := mvN_pT (V := V) (it := (k, a, b, c, m, x, y))
  have eo : ∀ {c' : Nat}, c' ≠ 1 ∧ c' ≠ 9 ∧ c' ≠ 101 → pT V (k, a, b, c, m, x, y) c' = V c' := fun hc => pT_o hc
  have e1 : ∀ {j : Int}, j ≠ 2 → pT V (k, a, b, c, m, x, y) 1 j = V 1 j := fun h3 => pT_1 h3
  generalize hW : pT V (k, a, b, c, m, x, y) = W at *
  have pl0 : 0 ≤ (a * 12 + b) * 12 + c ∧ (a * 12 + b) * 12 + c < 1728 := by omega
  have w12 : W 1 2 = if V 9 ((a * 12 + b) * 12 + c) = -2 then V 1 2 + 1 else V 1 2 := by rw [← hW]; rfl
  have w9 : ∀ j, W 9 j = if j = (a * 12 + b) * 12 + c then m else V 9 j := fun j => by rw [← hW]; rfl
  have w101 : ∀ j, W 101 j = if j = (a * 12 + b) * 12 + c then (if m = -1 then -2 else m) else V 101 j := fun j => by rw [← hW]; rfl
  generalize (a * 12 + b) * 12 + c = pl at *
  have e2 : preS W = preS V := preS_congr (eo (by decide))
  have e3 : oddN W = oddN V := oddN_congr (eo (by decide)) (eo (by decide)) (eo (by decide))
  have es : ∀ {c' : Nat}, c' ≠ 1 ∧ c' ≠ 9 ∧ c' ≠ 101 → W c' = V c' := eo
  obtain ⟨⟨t1, t2, t3, t4, t5, t6, t7, t8, t9, t10, t11, t12, t13⟩, hS, hK, hX, hU⟩ := hT
  refine ⟨⟨⟨?_, ?_, ?_, ?_, ?_, ?_, ?_, ?_, ?_, ?_, ?_, ?_, ?_⟩, ?_, ?_, ?_, ?_⟩, ?_, ?_, ?_, ?_, ?_, ?_⟩
  · rw [e1 (by decide), es (c' := 91) (by decide)]; exact t1
  · rw [e1 (by decide), es (c' := 91) (by decide)]; exact t2
  · rw [e1 (by decide)]; unfold TIst at *; rw [es (c' := 2) (by decide), es (c' := 3) (by decide), es (c' := 4) (by decide), es (c' := 5) (by decide), es (c' := 6) (by decide), es (c' := 7) (by decide), es (c' := 93) (by decide), es (c' := 94) (by decide), es (c' := 95) (by decide), es (c' := 96) (by decide), es (c' := 97) (by decide)]; exact t3
  · rw [e1 (by decide), es (c' := 2) (by decide), es (c' := 3) (by decide), es (c' := 8) (by decide)]; exact t4
  · rw [e1 (by decide), es (c' := 2) (by decide), es (c' := 3) (by decide), es (c' := 8) (by decide)]; exact t5
  · intro j j0 j1
    rw [w9, w101]
    by_cases e : j = pl
    · rw [if_pos e, if_pos e]
      by_cases q : m = -1
      · rw [if_pos q]; omega
      · rw [if_neg q]; omega
    · rw [if_neg e, if_neg e]; exact t6 j j0 j1
  · rw [turnsN_set pl0.1 w101 (by by_cases q : m = -1 <;> simp only [q, if_true, if_false] <;> omega), w12, ← t7]
    have := t6 pl pl0.1 pl0.2
    by_cases q : V 9 pl = -2
    · rw [if_pos q, if_pos ⟨by omega, by omega⟩]
    · rw [if_neg q, if_neg (by omega)]; omega
  · rw [e1 (by decide), e1 (by decide), e2]; exact t8
  · rw [e1 (by decide)]; unfold TIsv at *; rw [es (c' := 6) (by decide), es (c' := 10) (by decide), es (c' := 11) (by decide), e2]; exact t9
  · rw [e1 (by decide), es (c' := 106) (by decide), es (c' := 107) (by decide), es (c' := 10) (by decide), es (c' := 11) (by decide)]; exact t10
  · rw [e1 (by decide), es (c' := 108) (by decide), es (c' := 12) (by decide)]; exact t11
  · rw [e1 (by decide), es (c' := 13) (by decide), es (c' := 6) (by decide), e2]; exact t12
  · rw [e1 (by decide), e1 (by decide), e3]; exact t13
  · obtain ⟨s1, s2, -, -, -, -, s7, s8, s9⟩ := hS
    rw [em]
    refine SI_0 ?_ ?_ ?_ ?_ ?_ ?_ ?_ ?_
    · rw [es (c' := 14) (by decide)]; exact s1
    · rw [es (c' := 14) (by decide), e1 (by decide)]; exact s2
    · rw [es (c' := 14) (by decide)]; exact z1
    · rw [es (c' := 14) (by decide)]; exact z2
    · rw [es (c' := 14) (by decide)]; exact z3
    · rw [es (c' := 14 + 6) (by decide)]; exact s7
    · rw [es (c' := 14 + 7) (by decide), es (c' := 14 + 8) (by decide)]; exact s8
    · rw [es (c' := 14 + 9) (by decide)]; exact s9
  · refine TIkept_0 ⟨?_, ?_, ?_⟩ (fun i i0 i1 => ?_)
    · rw [es (c' := 25) (by decide)]; exact k1
    · rw [es (c' := 35) (by decide)]; exact k2
    · rw [es (c' := 45) (by decide)]; exact k3
    · rw [es (c' := 137) (by decide)]; exact hk0 i i0 i1
  · exact hX.congr (by rw [es (c' := 55) (by decide)]) (by rw [es (c' := 91) (by decide)]) (es (by decide)) (es (by decide))
  · intro i i0 i1; rw [es (c' := 109) (by decide)]; exact hU i i0 i1
  · rw [es (c' := 14) (by decide)]; exact z1
  · rw [es (c' := 14) (by decide)]; exact z2
  · rw [es (c' := 14) (by decide)]; exact z3
  · rw [es (c' := 25) (by decide)]; exact k1
  · rw [es (c' := 35) (by decide)]; exact k2
  · rw [es (c' := 45) (by decide)]; exact k3
