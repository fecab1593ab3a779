/-! LEAST WALKS (5): the first of the least is told -/
noncomputable def nbN (T : es_M) (c g W p d : Int) : Nat → Int
  | 0 => 1000000
  | k + 1 => if stp T c p k < 1000000 then min (nbN T c g W p d k) (stp T c p k + rmF T c g W k (dnF T k d W)) else nbN T c g W p d k
theorem nbN_s {T : es_M} {c g W p d k : Int} (k0 : 0 ≤ k) : nbN T c g W p d (k + 1).toNat = if stp T c p k < 1000000 then min (nbN T c g W p d k.toNat) (stp T c p k + rmF T c g W k (dnF T k d W)) else nbN T c g W p d k.toNat := by
  rw [toN1 k0]
  show (if stp T c p (k.toNat : Nat) < 1000000 then min (nbN T c g W p d k.toNat) (stp T c p (k.toNat : Nat) + rmF T c g W (k.toNat : Nat) (dnF T (k.toNat : Nat) d W)) else nbN T c g W p d k.toNat) = _
  rw [toNI k0]
theorem nbN_sp {T : es_M} {c g W p d : Int} : ∀ n : Nat, nbN T c g W p d n ≤ 1000000 ∧ (∀ k : Nat, k < n → stp T c p k < 1000000 → nbN T c g W p d n ≤ stp T c p k + rmF T c g W k (dnF T k d W)) ∧ (nbN T c g W p d n = 1000000 ∨ ∃ k : Nat, k < n ∧ stp T c p k < 1000000 ∧ nbN T c g W p d n = stp T c p k + rmF T c g W k (dnF T k d W)) := by
  intro n
  induction n with
  | zero => exact ⟨Int.le_refl _, fun k hk => absurd hk (by omega), Or.inl rfl⟩
  | succ n ih =>
    obtain ⟨i1, i2, i3⟩ := ih
    by_cases e : stp T c p n < 1000000
    · have e2 : nbN T c g W p d (n + 1) = min (nbN T c g W p d n) (stp T c p n + rmF T c g W n (dnF T n d W)) := if_pos e
      rw [e2]
      refine ⟨by omega, fun k hk hg => ?_, ?_⟩
      · by_cases q : k = n
        · subst q; omega
        · have := i2 k (by omega) hg; omega
      · by_cases q : nbN T c g W p d n ≤ stp T c p n + rmF T c g W n (dnF T n d W)
        · rcases i3 with h | ⟨k, k1, k2, k3⟩
          · exact Or.inl (by omega)
          · exact Or.inr ⟨k, by omega, k2, by omega⟩
        · exact Or.inr ⟨n, by omega, e, by omega⟩
    · have e2 : nbN T c g W p d (n + 1) = nbN T c g W p d n := if_neg e
      rw [e2]
      refine ⟨i1, fun k hk hg => ?_, ?_⟩
      · by_cases q : k = n
        · subst q; exact absurd hg e
        · exact i2 k (by omega) hg
      · rcases i3 with h | ⟨k, k1, k2, k3⟩
        · exact Or.inl h
        · exact Or.inr ⟨k, by omega, k2, k3⟩
theorem nb_rm {T : es_M} (hT : TI T) {c g W p d : Int} (hp : isS T p) (hn : ¬ (d = W ∧ cr T c p = g)) : nbN T c g W p d (2 * T 1 0).toNat = rmF T c g W p d := by
  have hnn := hT.n
  obtain ⟨i1, i2, i3⟩ := nbN_sp (T := T) (c := c) (g := g) (W := W) (p := p) (d := d) (2 * T 1 0).toNat
  have r := rm_r hT (c := c) (g := g) (W := W) (d := d) hp
  have A : rmF T c g W p d ≤ nbN T c g W p d (2 * T 1 0).toNat := by
    rcases i3 with h | ⟨k, k1, k2, k3⟩
    · omega
    · rw [k3]; exact rm_s hT hp ⟨by omega, by omega⟩ k2
  by_cases z : rmF T c g W p d < 1000000
  · obtain ⟨q, q1, q2, q3⟩ := rm_x hT hp z hn
    have q11 := q1.1
    have q12 := q1.2
    have := i2 q.toNat (by omega) (by rw [toNI q11]; exact q2)
    rw [toNI q11] at this
    omega
  · omega
theorem nb_r {T : es_M} (hT : TI T) {c g W p d : Int} (hp : isS T p) : ∀ k : Nat, (k : Int) ≤ 2 * T 1 0 → 0 ≤ nbN T c g W p d k ∧ nbN T c g W p d k ≤ 1000000 := by
  intro k hk
  obtain ⟨i1, i2, i3⟩ := nbN_sp (T := T) (c := c) (g := g) (W := W) (p := p) (d := d) k
  rcases i3 with h | ⟨j, j1, j2, j3⟩
  · omega
  · have hj : isP T j := ⟨by omega, by omega⟩
    have a := stp_r hT (c := c) hp hj
    have b := rm_r hT (c := c) (g := g) (W := W) (d := dnF T j d W) (Or.inr hj)
    omega
/-- a pass by which a least walk goes on -/
def cand (T : es_M) (c g W p d q : Int) : Prop := isP T q ∧ stp T c p q < 1000000 ∧ stp T c p q + rmF T c g W q (dnF T q d W) = rmF T c g W p d
def isNx (T : es_M) (c g W p d q : Int) : Prop := cand T c g W p d q ∧ ∀ q', cand T c g W p d q' → gl T q ≤ gl T q'
theorem cand_pb {T : es_M} (hT : TI T) {c g W p d q : Int} (hp : isS T p) (h : cand T c g W p d q) : pbF T (cr T c p) (gl T q) = q := by
  rcases stp_r hT (c := c) hp h.1 with z | ⟨-, z1, z2, -⟩
  · have := h.2.1; omega
  · exact pbF_in hT h.1.1 h.1.2 z2 rfl z1.1
theorem isNx_u {T : es_M} (hT : TI T) {c g W p d q q' : Int} (hp : isS T p) (h : isNx T c g W p d q) (h' : isNx T c g W p d q') : q = q' := by
  have a := h.2 q' h'.1
  have b := h'.2 q h.1
  have e : gl T q = gl T q' := by omega
  have x := cand_pb hT hp h.1
  have y := cand_pb hT hp h'.1
  rw [e, y] at x
  exact x.symm
noncomputable def nxF (T : es_M) (c g W p d : Int) : Int := Classical.epsilon (fun q => isNx T c g W p d q)
theorem nxF_eq {T : es_M} (hT : TI T) {c g W p d q : Int} (hp : isS T p) (h : isNx T c g W p d q) : nxF T c g W p d = q := isNx_u hT hp (Classical.epsilon_spec ⟨q, h⟩) h
abbrev RW : Type := Int × (Int → Int)
def apd (r : RW) (v : Int) : RW := if r.1 < 120 then (r.1 + 1, fun i => if i = r.1 then v else r.2 i) else r
noncomputable def wkR (T : es_M) (c g W : Int) : Nat → Int → Int → RW → RW
  | 0 => fun _ _ r => r
  | f + 1 => fun p d r => if rmF T c g W p d ≤ 0 then r else wkR T c g W f (nxF T c g W p d) (dnF T (nxF T c g W p d) d W) (apd r (gl T (nxF T c g W p d)))
def RwC (r : RW) (M : es_M) : Prop := (M 58 1 = r.1 ∧ 0 ≤ r.1 ∧ r.1 ≤ 120) ∧ ∀ i, 0 ≤ i → i < r.1 → M 59 i = r.2 i
def RwM (r : RW) (M : es_M) : Prop := (M 91 1 = r.1 ∧ 0 ≤ r.1 ∧ r.1 ≤ 120) ∧ ∀ i, 0 ≤ i → i < r.1 → M 92 i = r.2 i
theorem row_of {r : RW} {M : es_M} (h : RwC r M) (h' : RwM r M) : RowEq M := by
  refine ⟨⟨by rw [h.1.1, h'.1.1], by rw [h.1.1]; exact h.1.2⟩, fun i i0 i1 => ?_⟩
  rw [h.1.1] at i1
  rw [h.2 i i0 i1, h'.2 i i0 i1]
section
variable {d : Nat} {Q : Int → es_M → Prop} {T M : es_M}
theorem s_putR {v : Int} {r : RW} (hr : RwC r M) (h : ∀ M', (∀ c, c ≠ 58 → c ≠ 59 → M' c = M c) → (∀ j, j ≠ 1 → M' 58 j = M 58 j) → RwC (apd r v) M' → Q 0 M') : es_Call (d + 1) 89 [.inr (.inr 58), .inl v] M Q := by
  have r1 := hr.1
  by_cases e : r.1 < 120
  · refine s_put' (by omega) (by omega) (fun M' g1 g2 g3 g4 g5 => h M' g1 g2 ?_)
    unfold apd
    rw [if_pos e]
    refine ⟨⟨by show M' 58 1 = r.1 + 1; omega, by show 0 ≤ r.1 + 1; omega, by show r.1 + 1 ≤ 120; omega⟩, fun i i0 i1 => ?_⟩
    show M' 59 i = if i = r.1 then v else r.2 i
    have i1' : i < r.1 + 1 := i1
    by_cases q : i = r.1
    · rw [if_pos q, q, ← r1.1]; exact g4
    · rw [if_neg q, g5 i (by omega)]; exact hr.2 i i0 (by omega)
  · apply c_Row_put
    refine ⟨fun z => h M (fun _ _ _ => rfl) (fun _ _ => rfl) (by unfold apd; rw [if_neg e]; exact hr), fun z => absurd (show (120 : Int) ≤ M 58 1 by omega) z⟩
end
