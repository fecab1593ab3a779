/-! PAIRS OF CALLS: build -/
noncomputable def ifc {α : Type} (P : Prop) (a b : α) : α := @ite α P (Classical.propDecidable P) a b
theorem ifc_y {α : Type} {P : Prop} {a b : α} (h : P) : ifc P a b = a := if_pos h
theorem ifc_n {α : Type} {P : Prop} {a b : α} (h : ¬ P) : ifc P a b = b := if_neg h
def itJ (f : Nat → SS → SS) : Nat → SS → SS
  | 0 => fun s => s
  | k + 1 => fun s => f k (itJ f k s)
theorem itJ_s (f : Nat → SS → SS) {k : Int} (k0 : 0 ≤ k) (s : SS) : itJ f (k + 1).toNat s = f k.toNat (itJ f k.toNat s) := by
  rw [toN1 k0]; rfl
/-- a code put in -/
def ins (u : Int → Int) (pl code : Int) (i : Int) : Int := if i < pl then u i else if i = pl then code else u (i - 1)
noncomputable def bdS (T : es_M) (u : Int → Int) (v : Int) (pl : Int) (s : SS) : SS :=
  ifc (canDo T (2 * v + 1)) (cns T (v + 1) (ins u pl (2 * v + 1)) (ifc (canDo T (2 * v)) (cns T (v + 1) (ins u pl (2 * v)) s) s)) (ifc (canDo T (2 * v)) (cns T (v + 1) (ins u pl (2 * v)) s) s)
noncomputable def bdV (T : es_M) (u : Int → Int) (v : Int) (k : Nat) : SS := itJ (fun pl => bdS T u v pl) k (1000000, fun _ => 0)
noncomputable def bdF (T : es_M) : Nat → SS
  | 0 => (0, fun _ => 0)
  | v + 1 => bdV T (bdF T v).2 v (v + 1)
def Vb (T : es_M) (n : Int) (o : Int → Int) : Prop := Val T n o ∧ ∀ i, 0 ≤ i → i < n → o i / 2 < n
theorem ins_V {T : es_M} {v : Int} {u : Int → Int} (h : Vb T v u) {pl code : Int} (p0 : 0 ≤ pl) (p1 : pl ≤ v) (c0 : 0 ≤ code) (c1 : code < 2 * T 1 1) (c2 : code / 2 = v) (hc : canDo T code) : Vb T (v + 1) (ins u pl code) := by
  have a : ∀ i, 0 ≤ i → i < v + 1 → (i = pl ∧ ins u pl code i = code) ∨ (∃ k, 0 ≤ k ∧ k < v ∧ ins u pl code i = u k ∧ ((i < pl ∧ k = i) ∨ (pl < i ∧ k = i - 1))) := by
    intro i i0 i1
    unfold ins
    by_cases e : i < pl
    · exact Or.inr ⟨i, i0, by omega, by rw [if_pos e], Or.inl ⟨e, rfl⟩⟩
    · by_cases e2 : i = pl
      · exact Or.inl ⟨e2, by rw [if_neg e, if_pos e2]⟩
      · exact Or.inr ⟨i - 1, by omega, by omega, by rw [if_neg e, if_neg e2], Or.inr ⟨by omega, rfl⟩⟩
  refine ⟨⟨fun i i0 i1 => ?_, fun i j i0 i1 j0 j1 e => ?_⟩, fun i i0 i1 => ?_⟩
  · rcases a i i0 i1 with ⟨-, z⟩ | ⟨k, k0, k1, z, -⟩
    · rw [z]; exact ⟨⟨c0, c1⟩, hc⟩
    · rw [z]; exact h.1.1 k k0 k1
  · rcases a i i0 i1 with ⟨w, z⟩ | ⟨k, k0, k1, z, w⟩
    · rcases a j j0 j1 with ⟨w', z'⟩ | ⟨k', k0', k1', z', w'⟩
      · omega
      · rw [z, z'] at e
        have := h.2 k' k0' k1'
        omega
    · rcases a j j0 j1 with ⟨w', z'⟩ | ⟨k', k0', k1', z', w'⟩
      · rw [z, z'] at e
        have := h.2 k k0 k1
        omega
      · rw [z, z'] at e
        have := h.1.2 k k' k0 k1 k0' k1' e
        omega
  · rcases a i i0 i1 with ⟨-, z⟩ | ⟨k, k0, k1, z, -⟩
    · rw [z]; omega
    · rw [z]; have := h.2 k k0 k1; omega
def SV (T : es_M) (n : Int) (s : SS) : Prop := s.1 ≤ 1000000 ∧ (s.1 < 1000000 → Vb T n s.2)
theorem cns_V {T : es_M} {n : Int} {t : Int → Int} {s : SS} (h : SV T n s) (ht : Vb T n t) : SV T n (cns T n t s) := by
  unfold cns
  split
  · refine ⟨by have := h.1; show moF T t n ≤ 1000000; omega, fun _ => ⟨⟨fun i i0 i1 => ?_, fun i j i0 i1 j0 j1 e => ?_⟩, fun i i0 i1 => ?_⟩⟩
    · show (0 ≤ nrm n t i ∧ nrm n t i < 2 * T 1 1) ∧ canDo T (nrm n t i)
      rw [nrm_i i0 i1]; exact ht.1.1 i i0 i1
    · have e' : nrm n t i / 2 = nrm n t j / 2 := e
      rw [nrm_i i0 i1, nrm_i j0 j1] at e'; exact ht.1.2 i j i0 i1 j0 j1 e'
    · show nrm n t i / 2 < n
      rw [nrm_i i0 i1]; exact ht.2 i i0 i1
  · exact h
theorem bdS_V {T : es_M} {u : Int → Int} {v pl : Int} {s : SS} (hu : Vb T v u) (v0 : 0 ≤ v) (v1 : v < T 1 1) (p0 : 0 ≤ pl) (p1 : pl ≤ v) (h : SV T (v + 1) s) : SV T (v + 1) (bdS T u v pl s) := by
  unfold bdS
  have h1 : SV T (v + 1) (ifc (canDo T (2 * v)) (cns T (v + 1) (ins u pl (2 * v)) s) s) := by
    by_cases e : canDo T (2 * v)
    · rw [ifc_y e]; exact cns_V h (ins_V hu p0 p1 (by omega) (by omega) (by omega) e)
    · rw [ifc_n e]; exact h
  by_cases e : canDo T (2 * v + 1)
  · rw [ifc_y e]; exact cns_V h1 (ins_V hu p0 p1 (by omega) (by omega) (by omega) e)
  · rw [ifc_n e]; exact h1
theorem bdV_V {T : es_M} {u : Int → Int} {v : Int} (hu : Vb T v u) (v0 : 0 ≤ v) (v1 : v < T 1 1) : ∀ k : Nat, (k : Int) ≤ v + 1 → SV T (v + 1) (bdV T u v k) := by
  intro k
  induction k with
  | zero => intro _; exact ⟨Int.le_refl _, fun z => absurd (show (1000000 : Int) < 1000000 from z) (by decide)⟩
  | succ k ih => intro hk; exact bdS_V hu v0 v1 (by omega) (by omega) (ih (by omega))
def bdOK (T : es_M) (v : Nat) : Prop := ∀ k, k < v → (bdF T (k + 1)).1 < 1000000
theorem bdF_V {T : es_M} : ∀ v : Nat, (v : Int) ≤ T 1 1 → bdOK T v → Vb T v (bdF T v).2 := by
  intro v
  induction v with
  | zero => intro _ _; exact ⟨⟨fun i i0 i1 => absurd i1 (by omega), fun i j i0 i1 => absurd i1 (by omega)⟩, fun i i0 i1 => absurd i1 (by omega)⟩
  | succ v ih =>
    intro hv ok
    have := bdV_V (ih (by omega) (fun k hk => ok k (by omega))) (by omega) (by omega) (v + 1) (by omega)
    have r := this.2 (ok v (by omega))
    rw [show ((v : Nat) : Int) + 1 = ((v + 1 : Nat) : Int) by omega] at r
    exact r
section
variable {d : Nat} {Q : Int → es_M → Prop} {T M : es_M}
abbrev offB (M M' : es_M) : Prop := ∀ c, c ≠ 84 → c ≠ 85 → c ≠ 86 → c ≠ 87 → M' c = M c
theorem repB {M' : es_M} (hR : RepC T M) (h : offB M M') : RepC T M' := by
  intro c j q
  rw [h c (by rintro rfl; cases q) (by rintro rfl; cases q) (by rintro rfl; cases q) (by rintro rfl; cases q)]
  exact hR _ _ q
theorem s_tryAt (hT : TI T) (hR : RepC T M) (hL : ∀ p q, isP T p → isP T q → M 61 (p * 36 + q) = wyF T p q) {u : Int → Int} {v pl code b : Int} {s : SS} (v0 : 0 ≤ v) (v1 : v < T 1 1) (p0 : 0 ≤ pl) (p1 : pl ≤ v) (c0 : 0 ≤ code) (c1 : code < 2 * T 1 1) (c2 : code / 2 = v) (hu : Vb T v u) (hM : ∀ i, 0 ≤ i → i < v → M 87 i = u i) (hr : RC b (v + 1) s M) (h : ∀ M', (∀ c, c ≠ 84 → c ≠ 85 → c ≠ 86 → M' c = M c) → RC b (v + 1) (ifc (canDo T code) (cns T (v + 1) (ins u pl code) s) s) M' → Q 0 M') : es_Call (d + 5) 152 [.inr (.inr 84), .inl pl, .inl code, .inl v] M Q := by
  apply c_Orders_tryAt
  have hv := hT.v
  refine s_canDo hT hR c0 c1 (fun hc => es_f1 ?_) (fun hc => es_f0 (h M (fun _ _ _ _ => rfl) (by rw [ifc_n hc]; exact hr)))
  rw [w32_1 (k := pl) (by omega) (by omega), w32_1 (k := v) (by omega) (by omega), w32_s (k := v - pl) (by omega) (by omega)]
  refine ⟨by omega, by omega, by omega, ?_⟩
  have fr : ∀ c, c ≠ 85 → es_cpy (es_upd (es_cpy M 87 0 85 0 pl) 85 pl code) 87 pl 85 (pl + 1) (v - pl) c = M c := fun c hc => by rw [es_cpy_o c hc, es_upd_o c hc, es_cpy_o c hc]
  have rd : ∀ i, 0 ≤ i → i < v + 1 → es_cpy (es_upd (es_cpy M 87 0 85 0 pl) 85 pl code) 87 pl 85 (pl + 1) (v - pl) 85 i = ins u pl code i := by
    intro i i0 i1
    unfold ins es_cpy
    by_cases e : i < pl
    · rw [if_neg (by omega), es_upd_j (by omega), if_pos e, if_pos ⟨rfl, by omega, by omega⟩, show 0 + (i - 0) = i by omega]
      exact hM i i0 (by omega)
    · rw [if_neg e]
      by_cases e2 : i = pl
      · rw [if_neg (by omega), if_pos e2, e2, es_upd_s]
      · rw [if_pos ⟨rfl, by omega, by omega⟩, if_neg e2, es_upd_n (by decide), if_neg (fun z => absurd z.1 (by decide)), show pl + (i - (pl + 1)) = i - 1 by omega]
        exact hM (i - 1) (by omega) (by omega)
  have rr : RC b (v + 1) s (es_cpy (es_upd (es_cpy M 87 0 85 0 pl) 85 pl code) 87 pl 85 (pl + 1) (v - pl)) := by
    unfold RC at hr ⊢
    rw [fr 84 (by decide), fr 86 (by decide)]; exact hr
  refine s_consider hT (repB hR (fun c _ c2 _ _ => fr c c2)) (fun p q hp hq => by rw [fr 61 (by decide)]; exact hL p q hp hq) (by omega) (by omega) (ins_V hu p0 p1 c0 c1 c2 hc).1.cd rd rr (fun M' g1 g2 g3 => h M' (fun c c1 c2 c3 => by rw [g1 c c1 c3, fr c c2]) ?_)
  rw [ifc_y hc]; exact g3
theorem s_buildAnew (hT : TI T) (hR : RepC T M) (hC : CacheOK T M) (hv1 : 0 < T 1 1)
    (hno : ∀ (M' : es_M) (v : Nat), (v : Int) < T 1 1 → bdOK T v → ¬ (bdF T (v + 1)).1 < 1000000 → (∀ c, c ≠ 60 → c ≠ 61 → c ≠ 62 → c ≠ 63 → c ≠ 84 → c ≠ 85 → c ≠ 86 → c ≠ 87 → M' c = M c) → M' 60 5 = 0 → (∀ p q, isP T p → isP T q → M' 61 (p * 36 + q) = wyF T p q) → nextsOK T M' → Q (-2) M')
    (hyes : ∀ M' : es_M, bdOK T (T 1 1).toNat → (∀ c, c ≠ 60 → c ≠ 61 → c ≠ 62 → c ≠ 63 → c ≠ 84 → c ≠ 85 → c ≠ 86 → c ≠ 87 → c ≠ 17 → c ≠ 14 → M' c = M c) → (∀ j, j ≠ 2 → M' 14 j = M 14 j) → M' 14 2 = T 1 1 → (∀ i, 0 ≤ i → i < T 1 1 → M' 17 i = (bdF T (T 1 1).toNat).2 i) → M' 60 5 = 0 → (∀ p q, isP T p → isP T q → M' 61 (p * 36 + q) = wyF T p q) → nextsOK T M' → Q (bdF T (T 1 1).toNat).1 M') : es_Call (d + 7) 151 [.inr (.inr 84)] M Q := by
  apply m_Orders_buildAnew
  intro G hG
  apply k_Orders_buildAnew_0 hG
  have hv := hT.v
  refine s_refresh hT hR hC (fun M1 f1 f2 f3 f4 f5 => ?_)
  have hR1 : RepC T M1 := by
    intro c j q
    rw [f1 c (by rintro rfl; cases q) (by rintro rfl; cases q) (by rintro rfl; cases q) (by rintro rfl; cases q)]
    exact hR _ _ q
  have nx : ∀ M' : es_M, offB M1 M' → nextsOK T M' := fun M' e p hp => by
    rw [e 62 (by decide) (by decide) (by decide) (by decide), e 63 (by decide) (by decide) (by decide) (by decide)]; exact f5 p hp
  refine es_up (P := fun v => ∀ M', offB M1 M' → bdOK T v.toNat → (∀ i, 0 ≤ i → i < v → M' 87 i = (bdF T v.toNat).2 i) → (0 < v → M' 84 6 = (bdF T v.toNat).1) → G 9 [lr 84, li v, none] [] M') (n := T 1 1) (by omega) ?_ ?_ M1 (fun _ _ _ _ _ => rfl) (fun k hk => absurd hk (by omega)) (fun i i0 i1 => absurd i1 (by omega)) (fun z => absurd z (by omega))
  · intro M' g1 ok g2 g3
    apply k_Orders_buildAnew_9 hG
    have hR' := repB hR1 g1
    rw [es_cpy_o 1 (by decide), hR' 1 1 rfl]
    refine ⟨fun _ => ⟨by omega, ?_⟩, fun z => absurd (Int.le_refl _) z⟩
    rw [es_upd_n (by decide), es_cpy_o 84 (by decide), g3 hv1]
    have fr : ∀ c, c ≠ 17 → c ≠ 14 → es_upd (es_cpy M' 87 0 17 0 (T 1 1)) 14 2 (T 1 1) c = M' c := fun c c1 c2 => by rw [es_upd_o c c2, es_cpy_o c c1]
    refine hyes _ ok (fun c c1 c2 c3 c4 c5 c6 c7 c8 c9 c10 => by rw [fr c c9 c10, g1 c c5 c6 c7 c8, f1 c c1 c2 c3 c4]) (fun j hj => by rw [es_upd_j hj, es_cpy_o 14 (by decide), g1 14 (by decide) (by decide) (by decide) (by decide), f1 14 (by decide) (by decide) (by decide) (by decide)]) es_upd_s (fun i i0 i1 => ?_) ?_ (fun p q hp hq => ?_) (fun p hp => ?_)
    · rw [es_upd_n (by decide)]
      unfold es_cpy
      rw [if_pos ⟨rfl, by omega, by omega⟩, show 0 + (i - 0) = i by omega]
      exact g2 i i0 i1
    · rw [fr 60 (by decide) (by decide), g1 60 (by decide) (by decide) (by decide) (by decide)]; exact f3
    · rw [fr 61 (by decide) (by decide), g1 61 (by decide) (by decide) (by decide) (by decide)]; exact f4 p q hp hq
    · rw [fr 62 (by decide) (by decide), fr 63 (by decide) (by decide)]; exact nx M' g1 p hp
  · intro v v0 v1 ih M' g1 ok g2 g3
    have hR' := repB hR1 g1
    obtain ⟨V, rfl⟩ := Int.eq_ofNat_of_zero_le v0
    rw [Int.toNat_natCast] at ok g2 g3
    have hu := bdF_V V (by omega) ok
    apply k_Orders_buildAnew_9 hG
    rw [hR' 1 1 rfl]
    refine ⟨fun z => absurd z (by omega), fun _ => ?_⟩
    refine es_up (P := fun pl => ∀ M2, offB M1 M2 → (∀ i, 0 ≤ i → i < (V : Int) → M2 87 i = (bdF T V).2 i) → RC 1000000 ((V : Int) + 1) (bdV T (bdF T V).2 V pl.toNat) M2 → G 28 [lr 84, li (V : Int), li pl] [] M2) (n := (V : Int) + 1) (by omega) ?_ ?_ _ (fun c c1 c2 c3 c4 => by rw [es_upd_o c c1]; exact g1 c c1 c2 c3 c4) (fun i i0 i1 => by rw [es_upd_n (by decide)]; exact g2 i i0 i1) ⟨es_upd_s, Int.le_refl _, fun z => absurd (show (1000000 : Int) < 1000000 from z) (by decide)⟩
    · intro M2 e1 e2 e3
      apply k_Orders_buildAnew_28 hG
      rw [show (((V : Nat) : Int) + 1).toNat = V + 1 by omega] at e3 ih
      have er : RC 1000000 ((V : Int) + 1) (bdF T (V + 1)) M2 := e3
      rw [er.1, w32_1 (by omega) (by omega)]
      refine ⟨fun _ => ⟨fun z => ⟨by omega, ih _ (fun c c1 c2 c3 c4 => by rw [es_cpy_o c c4]; exact e1 c c1 c2 c3 c4) (fun k hk => ?_) (fun i i0 i1 => ?_) (fun _ => by rw [es_cpy_o 84 (by decide)]; exact er.1)⟩, fun z => ?_⟩, fun z => absurd (by omega) z⟩
      · by_cases e : k = V
        · subst e; exact z
        · exact ok k (by omega)
      · unfold es_cpy
        rw [if_pos ⟨rfl, by omega, by omega⟩, show 0 + (i - 0) = i by omega]
        exact er.2.2 z i i0 i1
      · exact hno M2 V v1 ok z (fun c c1 c2 c3 c4 c5 c6 c7 c8 => by rw [e1 c c5 c6 c7 c8, f1 c c1 c2 c3 c4]) (by rw [e1 60 (by decide) (by decide) (by decide) (by decide)]; exact f3) (fun p q hp hq => by rw [e1 61 (by decide) (by decide) (by decide) (by decide)]; exact f4 p q hp hq) (nx M2 e1)
    · intro pl p0 p1 ih2 M2 e1 e2 e3
      apply k_Orders_buildAnew_28 hG
      have hR2 := repB hR1 e1
      have hL2 : ∀ p q, isP T p → isP T q → M2 61 (p * 36 + q) = wyF T p q := fun p q hp hq => by rw [e1 61 (by decide) (by decide) (by decide) (by decide)]; exact f4 p q hp hq
      rw [w32_s (k := 2 * (V : Int)) (by omega) (by omega), w32_1 (k := 2 * (V : Int)) (by omega) (by omega), w32_1 (k := pl) (by omega) (by omega)]
      refine ⟨fun z => absurd z (by omega), fun _ => s_tryAt hT hR2 hL2 (by omega) v1 p0 (by omega) (by omega) (by omega) (by omega) hu e2 e3 (fun M3 a1 a2 => s_tryAt hT (repB hR2 (fun c c1 c2 c3 _ => a1 c c1 c2 c3)) (fun p q hp hq => by rw [a1 61 (by decide) (by decide) (by decide)]; exact hL2 p q hp hq) (by omega) v1 p0 (by omega) (by omega) (by omega) (by omega) hu (fun i i0 i1 => by rw [a1 87 (by decide) (by decide) (by decide)]; exact e2 i i0 i1) a2 (fun M4 b1 b2 => ih2 M4 (fun c c1 c2 c3 c4 => by rw [b1 c c1 c2 c3, a1 c c1 c2 c3]; exact e1 c c1 c2 c3 c4) (fun i i0 i1 => by rw [b1 87 (by decide) (by decide) (by decide), a1 87 (by decide) (by decide) (by decide)]; exact e2 i i0 i1) ?_))⟩
      unfold bdV at b2 ⊢
      rw [itJ_s _ p0, show ((pl.toNat : Nat) : Int) = pl by omega]
      exact b2
end
