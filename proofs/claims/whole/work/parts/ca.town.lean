/-! THE TOWN'S TEXT (1): what a text says, as numbers; the class's leaves -/
def tlF (t : Int → Int) (L p : Int) : Int := if p < L then t p else -1
def cnF (t : Int → Int) (L u p : Int) : Int := if (97 ≤ tlF t L p ∧ tlF t L p ≤ 108) ∧ ¬ tlF t L p - 97 = u then tlF t L p - 97 else -1
def nmF (t : Int → Int) (L z p : Int) : Int := if z ≤ tlF t L p - 48 ∧ tlF t L p - 48 ≤ 9 then (if 48 ≤ tlF t L (p + 1) ∧ tlF t L (p + 1) ≤ 57 then 10 * (tlF t L p - 48) + (tlF t L (p + 1) - 48) else tlF t L p - 48) else -1
def nmA (t : Int → Int) (L p : Int) : Int := if 48 ≤ tlF t L (p + 1) ∧ tlF t L (p + 1) ≤ 57 then p + 2 else p + 1
abbrev It := Int × Int × Int × Int × Int × Int × Int
def tuP (t : Int → Int) (L cs p : Int) : Int ⊕ (Int × It) :=
  if cnF t L (-1) p = -1 then .inl p else
  if cnF t L (cnF t L (-1) p) (p + 1) = -1 then .inl (p + 1) else
  if cnF t L (cnF t L (cnF t L (-1) p) (p + 1)) (p + 2) = -1 then .inl (p + 2) else
  if cs = 0 then .inr (p + 3, (1, cnF t L (-1) p, cnF t L (cnF t L (-1) p) (p + 1), cnF t L (cnF t L (cnF t L (-1) p) (p + 1)) (p + 2), -1, 0, 0)) else
  if ¬ tlF t L (p + 3) = 58 then .inl (p + 3) else
  if nmF t L 0 (p + 4) = -1 then .inl (p + 4) else
  .inr (nmA t L (p + 4), (1, cnF t L (-1) p, cnF t L (cnF t L (-1) p) (p + 1), cnF t L (cnF t L (cnF t L (-1) p) (p + 1)) (p + 2), nmF t L 0 (p + 4), 0, 0))
/-- the service signs behind a street -/
def st3 (t : Int → Int) (L ow a b f r p : Int) : Int ⊕ (Int × It) :=
  if tlF t L p = 33 then (if tlF t L (p + 1) = 36 then (if 49 ≤ tlF t L (p + 2) ∧ tlF t L (p + 2) ≤ 57 then .inr (p + 3, (0, a, b, f, r, 1, tlF t L (p + 2) - 48)) else .inl (p + 2)) else .inr (p + 1, (0, a, b, f, r, 1, 1))) else
  if ow = 0 ∧ tlF t L p = 61 then (if tlF t L (p + 1) = 36 then (if 49 ≤ tlF t L (p + 2) ∧ tlF t L (p + 2) ≤ 57 then .inr (p + 3, (0, a, b, f, r, 2, tlF t L (p + 2) - 48)) else .inl (p + 2)) else .inr (p + 1, (0, a, b, f, r, 2, 1))) else
  .inr (p, (0, a, b, f, r, 0, 0))
/-- from the second corner on -/
def st2 (J : Int → Int → Bool) (t : Int → Int) (L ow a p : Int) : Int ⊕ (Int × It) :=
  if cnF t L a p = -1 then .inl p else
  if J a (cnF t L a p) = true then .inl p else
  if ¬ tlF t L (p + 1) = 58 then .inl (p + 1) else
  if nmF t L 1 (p + 2) = -1 then .inl (p + 2) else
  if ow = 0 then (if tlF t L (nmA t L (p + 2)) = 47 then (if nmF t L 1 (nmA t L (p + 2) + 1) = -1 then .inl (nmA t L (p + 2) + 1) else st3 t L ow a (cnF t L a p) (nmF t L 1 (p + 2)) (nmF t L 1 (nmA t L (p + 2) + 1)) (nmA t L (nmA t L (p + 2) + 1))) else
    st3 t L ow a (cnF t L a p) (nmF t L 1 (p + 2)) (nmF t L 1 (p + 2)) (nmA t L (p + 2))) else
  st3 t L ow a (cnF t L a p) (nmF t L 1 (p + 2)) (-1) (nmA t L (p + 2))
def stP (J : Int → Int → Bool) (t : Int → Int) (L p : Int) : Int ⊕ (Int × It) :=
  if cnF t L (-1) p = -1 then .inl p else
  if tlF t L (p + 1) = 62 then st2 J t L 1 (cnF t L (-1) p) (p + 2) else
  if tlF t L (p + 1) = 45 then st2 J t L 0 (cnF t L (-1) p) (p + 2) else .inl (p + 1)
def itP (J : Int → Int → Bool) (t : Int → Int) (L p : Int) : Int ⊕ (Int × It) :=
  if tlF t L p = 116 then tuP t L 1 (p + 1) else if tlF t L p = 120 then tuP t L 0 (p + 1) else stP J t L p
def TX (t : Int → Int) (L : Int) : Prop := L ≤ 60 ∧ ∀ i, 0 ≤ i → i < L → 0 ≤ t i ∧ t i ≤ 255
theorem tl_rng {t : Int → Int} {L p : Int} (h : TX t L) (p0 : 0 ≤ p) : -1 ≤ tlF t L p ∧ tlF t L p ≤ 255 := by
  unfold tlF
  by_cases q : p < L
  · rw [if_pos q]; have := h.2 p p0 q; omega
  · rw [if_neg q]; omega
theorem tl_lt {t : Int → Int} {L p : Int} (h : 0 ≤ tlF t L p) : p < L := by
  unfold tlF at h
  by_cases q : p < L
  · exact q
  · rw [if_neg q] at h; omega
theorem cn_rng {t : Int → Int} {L u p : Int} : cnF t L u p = -1 ∨ ((0 ≤ cnF t L u p ∧ cnF t L u p < 12) ∧ cnF t L u p ≠ u ∧ p < L) := by
  unfold cnF
  by_cases q : (97 ≤ tlF t L p ∧ tlF t L p ≤ 108) ∧ ¬ tlF t L p - 97 = u
  · rw [if_pos q]; exact Or.inr ⟨by omega, by omega, tl_lt (t := t) (by omega)⟩
  · rw [if_neg q]; exact Or.inl rfl
theorem nm_rng {t : Int → Int} {L z p : Int} (z0 : 0 ≤ z) : nmF t L z p = -1 ∨ ((z ≤ nmF t L z p ∧ nmF t L z p ≤ 99) ∧ p + 1 ≤ nmA t L p ∧ nmA t L p ≤ L) := by
  unfold nmF nmA
  by_cases q : z ≤ tlF t L p - 48 ∧ tlF t L p - 48 ≤ 9
  · rw [if_pos q]
    have l1 := tl_lt (t := t) (L := L) (p := p) (by omega)
    by_cases r : 48 ≤ tlF t L (p + 1) ∧ tlF t L (p + 1) ≤ 57
    · have l2 := tl_lt (t := t) (L := L) (p := p + 1) (by omega)
      rw [if_pos r, if_pos r]; exact Or.inr ⟨by omega, by omega, by omega⟩
    · rw [if_neg r, if_neg r]; exact Or.inr ⟨by omega, by omega, by omega⟩
  · rw [if_neg q]; exact Or.inl rfl
/-- the class's reader at p -/
def RX (t : Int → Int) (L p : Int) (M : es_M) : Prop := M 56 = t ∧ M 55 5 = L ∧ M 55 4 = p ∧ (0 ≤ p ∧ p ≤ L) ∧ TX t L
def FX (M M' : es_M) : Prop := ∀ (c : Nat) (j : Int), ¬ (c = 55 ∧ j = 4) → c ≠ 57 → M' c j = M c j
def EqX (M M' : es_M) : Prop := ∀ (c : Nat) (j : Int), ¬ (c = 55 ∧ j = 4) → M' c j = M c j
theorem EqX.rf {M : es_M} : EqX M M := fun _ _ _ => rfl
theorem EqX.tr {M M' M'' : es_M} (h : EqX M M') (h' : EqX M' M'') : EqX M M'' := fun c j q => (h' c j q).trans (h c j q)
theorem EqX.f {M M' : es_M} (h : EqX M M') : FX M M' := fun c j q _ => h c j q
theorem FX.tr {M M' M'' : es_M} (h : FX M M') (h' : FX M' M'') : FX M M'' := fun c j q r => (h' c j q r).trans (h c j q r)
def DX (M M' : es_M) (i : Int) (it : It) : Prop := FX M M' ∧ (∀ j, j < 7 * i → M' 57 j = M 57 j) ∧ M' 57 (7 * i) = it.1 ∧ M' 57 (7 * i + 1) = it.2.1 ∧ M' 57 (7 * i + 2) = it.2.2.1 ∧ M' 57 (7 * i + 3) = it.2.2.2.1 ∧ M' 57 (7 * i + 4) = it.2.2.2.2.1 ∧ (it.1 = 0 → M' 57 (7 * i + 5) = it.2.2.2.2.2.1 ∧ M' 57 (7 * i + 6) = it.2.2.2.2.2.2)
def ItQ (r : Int ⊕ (Int × It)) (t : Int → Int) (L : Int) (M : es_M) (i : Int) (Q : Int → es_M → Prop) : Prop := match r with
  | .inl q => ∀ M', RX t L q M' → FX M M' → Q 0 M'
  | .inr (q, it) => ∀ M', RX t L q M' → DX M M' i it → Q 1 M'
theorem ItQ.eq {r : Int ⊕ (Int × It)} {t : Int → Int} {L : Int} {M M1 : es_M} {i : Int} {Q : Int → es_M → Prop} (h : ItQ r t L M i Q) (e : EqX M M1) : ItQ r t L M1 i Q := by
  match r, h with
  | .inl q, h => exact fun M' a b => h M' a (e.f.tr b)
  | .inr (q, it), h => exact fun M' a b => h M' a ⟨e.f.tr b.1, fun j hj => (b.2.1 j hj).trans (e 57 j (fun z => absurd z.1 (by decide))), b.2.2⟩
theorem es_n1 {A B : Prop} (h : A) : (¬ (1 : Int) = 0 → A) ∧ ((1 : Int) = 0 → B) := ⟨fun _ => h, fun z => absurd z (by decide)⟩
theorem es_n0 {A B : Prop} (h : B) : (¬ (0 : Int) = 0 → A) ∧ ((0 : Int) = 0 → B) := ⟨fun z => absurd rfl z, fun _ => h⟩
theorem es_m1 {A B : Prop} (h : A) : (¬ (-1 : Int) = (-1) → B) ∧ ((-1 : Int) = (-1) → A) := ⟨fun z => absurd rfl z, fun _ => h⟩
section
variable {d : Nat} {M : es_M} {Q : Int → es_M → Prop} {t : Int → Int} {L p : Int}
theorem RX.upd (h : RX t L p M) {p' : Int} (h0 : 0 ≤ p') (h1 : p' ≤ L) : RX t L p' (es_upd M 55 4 p') ∧ EqX M (es_upd M 55 4 p') := by
  obtain ⟨a, b, c, e, f⟩ := h
  exact ⟨⟨by rw [es_upd_o 56 (by decide)]; exact a, by rw [es_upd_j (by decide)]; exact b, es_upd_s, ⟨h0, h1⟩, f⟩, fun c j q => if_neg q⟩
theorem s_look (h : RX t L p M) (k : Q (tlF t L p) M) : es_Call (d + 1) 78 [.inr (.inr 55)] M Q := by
  apply c_Reader_look
  obtain ⟨h1, h2, h3, h4, h5⟩ := h
  rw [h1, h2, h3]
  unfold tlF at k
  by_cases q : p < L
  · rw [if_pos q] at k; exact ⟨fun z => absurd q (by omega), fun _ => ⟨by have := h5.1; omega, k⟩⟩
  · rw [if_neg q] at k; exact ⟨fun _ => k, fun z => absurd (by omega) z⟩
theorem s_skip (h : RX t L p M) {x : Int} (x0 : 0 ≤ x) (k1 : tlF t L p = x → p < L → ∀ M', RX t L (p + 1) M' → EqX M M' → Q 1 M') (k0 : ¬ tlF t L p = x → Q 0 M) : es_Call (d + 2) 77 [.inr (.inr 55), .inl x] M Q := by
  apply c_Reader_skip
  refine s_look h ⟨fun e => ⟨es_b1, ?_⟩, fun e => ⟨es_b0, k0 e⟩⟩
  have l := tl_lt (t := t) (L := L) (p := p) (by omega)
  have L1 := h.2.2.2.2.1
  have p0 := h.2.2.2.1
  rw [h.2.2.1, w32_1 (by omega) (by omega)]
  have u := h.upd (p' := p + 1) (by omega) (by omega)
  exact k1 e l _ u.1 u.2
theorem s_corner (h : RX t L p M) {u : Int} (k1 : 0 ≤ cnF t L u p → ∀ M', RX t L (p + 1) M' → EqX M M' → Q (cnF t L u p) M') (k0 : cnF t L u p = -1 → Q (-1) M) : es_Call (d + 2) 80 [.inr (.inr 55), .inl u] M Q := by
  apply c_Reader_readCorner
  have p0 := h.2.2.2.1
  have L1 := h.2.2.2.2.1
  have r := tl_rng h.2.2.2.2 p0.1
  refine s_look h ?_
  rw [w32_s (by omega) (by omega)]
  unfold cnF at k1 k0
  refine s_isCorner (fun a b => es_t1 ⟨fun e => ?_, fun e => ?_⟩) (fun z => es_t0 ?_)
  · rw [h.2.2.1, w32_1 (by omega) (by omega)]
    rw [if_pos ⟨by omega, e⟩] at k1
    have l := tl_lt (t := t) (L := L) (p := p) (by omega)
    have u := h.upd (p' := p + 1) (by omega) (by omega)
    exact k1 a _ u.1 u.2
  · rw [if_neg (fun z => z.2 e)] at k0; exact k0 rfl
  · rw [if_neg (fun y => z (by omega))] at k0; exact k0 rfl
theorem s_number (h : RX t L p M) {z : Int} (z0 : 0 ≤ z) (k1 : ¬ nmF t L z p = -1 → ∀ M', RX t L (nmA t L p) M' → EqX M M' → Q (nmF t L z p) M') (k0 : nmF t L z p = -1 → Q (-1) M) : es_Call (d + 2) 81 [.inr (.inr 55), .inl z] M Q := by
  apply c_Reader_readNumber
  have p0 := h.2.2.2.1
  have L1 := h.2.2.2.2.1
  have r := tl_rng h.2.2.2.2 p0.1
  refine s_look h ?_
  rw [w32_s (by omega) (by omega), h.2.2.1, w32_1 (by omega) (by omega)]
  unfold nmF nmA at k1
  unfold nmF at k0
  refine ⟨fun e => ?_, fun e => ⟨fun e2 => ?_, fun e2 => ?_⟩⟩
  · rw [if_neg (fun y => absurd y.1 (by omega))] at k0; exact k0 rfl
  · have l := tl_lt (t := t) (L := L) (p := p) (by omega)
    have u := h.upd (p' := p + 1) (by omega) (by omega)
    have r2 := tl_rng (p := p + 1) h.2.2.2.2 (by omega)
    rw [if_pos ⟨by omega, e2⟩] at k1
    refine s_look u.1 ?_
    rw [w32_s (k := tlF t L (p + 1) - 48) (by omega) (by omega)]
    refine ⟨fun f => ?_, fun f => ⟨fun f2 => ?_, fun f2 => ?_⟩⟩
    · rw [if_neg (fun y => absurd y.1 (by omega)), if_neg (fun y => absurd y.1 (by omega))] at k1
      exact k1 (by omega) _ u.1 u.2
    · rw [if_pos ⟨by omega, by omega⟩, if_pos ⟨by omega, by omega⟩] at k1
      have l2 := tl_lt (t := t) (L := L) (p := p + 1) (by omega)
      rw [w32_s (k := 10 * (tlF t L p - 48)) (by omega) (by omega), w32_s (by omega) (by omega), es_upd_s, w32_1 (by omega) (by omega), show p + 1 + 1 = p + 2 by omega]
      have u2 := u.1.upd (p' := p + 2) (by omega) (by omega)
      exact k1 (by omega) _ u2.1 (u.2.tr u2.2)
    · rw [if_neg (fun y => absurd y.2 (by omega)), if_neg (fun y => absurd y.2 (by omega))] at k1
      exact k1 (by omega) _ u.1 u.2
  · rw [if_neg (fun y => absurd y.2 (by omega))] at k0; exact k0 rfl
/-- an item is drafted -/
theorem s_draft (h : RX t L p M) {i k a b x y : Int} (hi : M 55 3 = i) (i0 : 0 ≤ i) (i1 : i < 15) (q : ∀ M', RX t L p M' → DX M M' i (k, a, b, x, y, M' 57 (7 * i + 5), M' 57 (7 * i + 6)) → Q 0 M') : es_Call (d + 1) 82 [.inr (.inr 55), .inl k, .inl a, .inl b, .inl x, .inl y] M Q := by
  apply c_Reader_draft
  rw [hi, w32_s (k := i * 7) (by omega) (by omega), w32_s (k := i * 7 + 1) (by omega) (by omega), w32_s (k := i * 7 + 2) (by omega) (by omega), w32_s (k := i * 7 + 3) (by omega) (by omega), w32_s (k := i * 7 + 4) (by omega) (by omega), show i * 7 = 7 * i by omega]
  refine ⟨by omega, by omega, by omega, by omega, by omega, q _ ?_ ?_⟩
  · obtain ⟨h1, h2, h3, h4, h5⟩ := h
    refine ⟨?_, ?_, ?_, h4, h5⟩
    · rw [es_upd_o 56 (by decide), es_upd_o 56 (by decide), es_upd_o 56 (by decide), es_upd_o 56 (by decide), es_upd_o 56 (by decide)]; exact h1
    · rw [es_upd_n (by decide), es_upd_n (by decide), es_upd_n (by decide), es_upd_n (by decide), es_upd_n (by decide)]; exact h2
    · rw [es_upd_n (by decide), es_upd_n (by decide), es_upd_n (by decide), es_upd_n (by decide), es_upd_n (by decide)]; exact h3
  · refine ⟨fun c j _ hc => ?_, fun j hj => ?_, ?_, ?_, ?_, ?_, ?_, fun _ => ⟨rfl, rfl⟩⟩
    · rw [es_upd_n hc, es_upd_n hc, es_upd_n hc, es_upd_n hc, es_upd_n hc]
    · rw [es_upd_c, if_neg (by omega), es_upd_c, if_neg (by omega), es_upd_c, if_neg (by omega), es_upd_c, if_neg (by omega), es_upd_c, if_neg (by omega)]
    · rw [es_upd_c, if_neg (by omega), es_upd_c, if_neg (by omega), es_upd_c, if_neg (by omega), es_upd_c, if_neg (by omega), es_upd_s]
    · rw [es_upd_c, if_neg (by omega), es_upd_c, if_neg (by omega), es_upd_c, if_neg (by omega), es_upd_s]
    · rw [es_upd_c, if_neg (by omega), es_upd_c, if_neg (by omega), es_upd_s]
    · rw [es_upd_c, if_neg (by omega), es_upd_s]
    · rw [es_upd_s]
theorem DX.eq {M1 M' : es_M} {i : Int} {it : It} (e : EqX M M1) (b : DX M1 M' i it) : DX M M' i it := ⟨e.f.tr b.1, fun j hj => (b.2.1 j hj).trans (e 57 j (fun z => absurd z.1 (by decide))), b.2.2⟩
theorem s_readTurn (h : RX t L p M) {cs : Int} (i0 : 0 ≤ M 55 3) (i1 : M 55 3 < 15) (k : ItQ (tuP t L cs p) t L M (M 55 3) Q) : es_Call (d + 3) 79 [.inr (.inr 55), .inl cs] M Q := by
  apply c_Reader_readTurn
  unfold tuP at k
  refine s_corner h (fun c1 M1 h1 e1 => ⟨fun _ => ?_, fun z => absurd z (by omega)⟩) (fun c1 => ⟨fun z => absurd rfl z, fun _ => es_m1 (es_m1 ⟨es_b0, ?_⟩)⟩)
  · rw [if_neg (by omega)] at k
    refine s_corner h1 (fun c2 M2 h2 e2 => ⟨fun _ => ?_, fun z => absurd z (by omega)⟩) (fun c2 => ⟨fun z => absurd rfl z, fun _ => es_m1 ⟨es_b0, ?_⟩⟩)
    · rw [if_neg (by omega)] at k
      rw [show p + 1 + 1 = p + 2 by omega] at h2
      refine s_corner h2 (fun c3 M3 h3 e3 => ⟨fun _ => ?_, fun z => absurd z (by omega)⟩) (fun c3 => ⟨fun z => absurd rfl z, fun _ => ⟨es_b0, ?_⟩⟩)
      · rw [if_neg (by omega)] at k
        rw [show p + 2 + 1 = p + 3 by omega] at h3
        have e := (e1.tr e2).tr e3
        have hi : M3 55 3 = M 55 3 := e 55 3 (fun z => absurd z.2 (by decide))
        refine ⟨fun z => ?_, fun z => ?_⟩
        · rw [if_pos z] at k
          refine s_draft h3 hi i0 i1 (fun M4 h4 e4 => ⟨es_b1, k M4 h4 ?_⟩)
          have e5 := e4.eq e
          exact ⟨e5.1, e5.2.1, e5.2.2.1, e5.2.2.2.1, e5.2.2.2.2.1, e5.2.2.2.2.2.1, e5.2.2.2.2.2.2.1, fun z => absurd (show (1 : Int) = 0 from z) (by decide)⟩
        · rw [if_neg z] at k
          refine s_skip h3 (by decide) (fun q1 ql M4 h4 e4 => es_n1 ?_) (fun q1 => es_n0 ⟨es_b0, ?_⟩)
          · rw [if_neg (fun z => z q1)] at k
            rw [show p + 3 + 1 = p + 4 by omega] at h4
            refine s_number h4 (by decide) (fun q2 M5 h5 e5 => ⟨fun _ => ?_, fun z => absurd z q2⟩) (fun q2 => ⟨fun z => absurd rfl z, fun _ => ⟨es_b0, ?_⟩⟩)
            · rw [if_neg q2] at k
              have f := (e.tr e4).tr e5
              refine s_draft h5 (f 55 3 (fun z => absurd z.2 (by decide))) i0 i1 (fun M6 h6 e6 => ⟨es_b1, k M6 h6 ?_⟩)
              have e5 := e6.eq f
              exact ⟨e5.1, e5.2.1, e5.2.2.1, e5.2.2.2.1, e5.2.2.2.2.1, e5.2.2.2.2.2.1, e5.2.2.2.2.2.2.1, fun z => absurd (show (1 : Int) = 0 from z) (by decide)⟩
            · rw [if_pos q2] at k; exact k _ h4 (e.tr e4).f
          · rw [if_pos q1] at k; exact k _ h3 e.f
      · rw [if_pos c3] at k; exact k _ h2 (e1.tr e2).f
    · rw [if_pos c2] at k; exact k _ h1 e1.f
  · rw [if_pos c1] at k; exact k _ h EqX.rf.f
end
