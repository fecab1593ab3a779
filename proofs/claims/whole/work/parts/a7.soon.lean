/-! PAIRS OF CALLS: soonest (3). The class goes on from a pass -/
noncomputable def sfF (T : es_M) (a m p d : Int) : Int := Classical.epsilon (fun v => isMin (trR T a m p d) v)
/-- the code by which a pass does its service -/
def cdF (T : es_M) (q : Int) : Int := 2 * T 13 q + q % 2
/-- a number that may stand at a place -/
def okV (T : es_M) (a m p d v : Int) : Prop := (0 ≤ v ∧ v ≤ 1000000) ∧ (v < 1000000 → trR T a m p d v)
def okR (T : es_M) (a m D : Int) (M : es_M) : Prop := (∀ p, isP T p → okV T a m p D (M 89 p)) ∧ ∀ w k, 0 ≤ w → w ≤ allF T → 0 ≤ k → k < 2 * T 1 1 → okV T a m (poF T k) w (M 66 (w * 20 + k)) ∧ (M 66 (w * 20 + k) < 1000000 → T 13 (poF T k) = k / 2)
def decR (M M' : es_M) : Prop := (∀ j, M' 89 j ≤ M 89 j) ∧ ∀ j, M' 66 j ≤ M 66 j
/-- the place at which a pass is over, behind D -/
def sltF (T : es_M) (D q : Int) (M : es_M) : Int := if dnF T q D (allF T) = D then M 89 q else M 66 (dnF T q D (allF T) * 20 + cdF T q)
abbrev offZ (M M' : es_M) : Prop := ∀ c, c ≠ 66 → c ≠ 89 → M' c = M c
theorem decR.rf {M : es_M} : decR M M := ⟨fun _ => Int.le_refl _, fun _ => Int.le_refl _⟩
theorem decR.tr {M M' M'' : es_M} (h : decR M M') (g : decR M' M'') : decR M M'' := ⟨fun j => Int.le_trans (g.1 j) (h.1 j), fun j => Int.le_trans (g.2 j) (h.2 j)⟩
theorem slt_dec {T M M' : es_M} {D q : Int} (h : decR M M') : sltF T D q M' ≤ sltF T D q M := by
  unfold sltF
  split
  · exact h.1 _
  · exact h.2 _
theorem okV_min {T : es_M} {a m p d v t : Int} (h : okV T a m p d v) (g : okV T a m p d t) : okV T a m p d (min v t) := by
  by_cases e : v ≤ t
  · rw [Int.min_eq_left e]; exact h
  · rw [Int.min_eq_right (by omega)]; exact g
theorem okV_N {T : es_M} {a m p d : Int} : okV T a m p d 1000000 := ⟨by decide, fun z => absurd z (by decide)⟩
theorem ix20 {w v q : Int} (w0 : 0 ≤ w) (w1 : w < 1024) (v0 : 0 ≤ v) (v1 : v < 10) : w32 (w32 (w32 (w * 20) + w32 (2 * v)) + q % 2) = w * 20 + (2 * v + q % 2) ∧ 0 ≤ w * 20 + (2 * v + q % 2) ∧ w * 20 + (2 * v + q % 2) < 20480 := by
  rw [w32_s (k := w * 20) (by omega) (by omega), w32_s (k := 2 * v) (by omega) (by omega), w32_s (k := w * 20 + 2 * v) (by omega) (by omega), w32_s (by omega) (by omega)]
  omega
theorem ix_inj {w w' k k' : Int} (h : w * 20 + k = w' * 20 + k') (a : 0 ≤ k ∧ k < 20) (b : 0 ≤ k' ∧ k' < 20) : w = w' ∧ k = k' := by omega
section
variable {d : Nat} {Q : Int → es_M → Prop} {T M : es_M}
theorem repZ {M' : es_M} (hR : RepC T M) (h : offZ M M') : RepC T M' := by
  intro c j q
  rw [h c (by rintro rfl; cases q) (by rintro rfl; cases q)]; exact hR _ _ q
theorem sf_min (hT : TI T) {a m p d : Int} (m0 : 0 ≤ m ∧ m < 1440) : isMin (trR T a m p d) (sfF T a m p d) :=
  Classical.epsilon_spec (isMin_ex (fun _ h => (tr_r hT m0 h).2.2.1.1))
theorem stp_a (hT : TI T) {a p q : Int} (hp : isP T p) : stp T a p q = stp T 0 p q := by
  unfold stp
  rw [cr_c hT hp, cr_c hT hp]
theorem dn_le (hT : TI T) {q D : Int} (D0 : 0 ≤ D) (D1 : D ≤ allF T) : 0 ≤ dnF T q D (allF T) ∧ dnF T q D (allF T) ≤ allF T ∧ D ≤ dnF T q D (allF T) := by
  have n := dn_nn (T := T) (q := q) (W := allF T) D0
  refine ⟨n, (sub_all hT n).mp (dn_in ((sub_all hT D0).mpr D1)), ?_⟩
  rcases sub_le D0 (dn_sub (T := T) (q := q) (d := D) (W := allF T)) with z | z
  · exact z
  · exact absurd n (by rw [Int.not_le]; exact z)
theorem cd_of (hT : TI T) {q D : Int} (hq : isP T q) (hg : goes T q) (h : ¬ dnF T q D (allF T) = D) : (0 ≤ T 13 q ∧ T 13 q < T 1 1) ∧ (0 ≤ cdF T q ∧ cdF T q < 2 * T 1 1) ∧ poF T (cdF T q) = q ∧ cdF T q / 2 = T 13 q := by
  have dq : does T q D (allF T) := Classical.byContradiction fun w => h (dn_n w)
  have cd := code_of hT hq hg dq.1
  have c1 := cd.1
  unfold cdF
  exact ⟨cd.1, by omega, cd.2.1, cd.2.2.2⟩
theorem s_arrive (hT : TI T) (hR : RepC T M) {a m D q t : Int} (hq : isP T q) (hg : goes T q) (D0 : 0 ≤ D) (D1 : D ≤ allF T) (ok : okR T a m D M) (hv : okV T a m q (dnF T q D (allF T)) t) (h : ∀ M', offZ M M' → decR M M' → okR T a m D M' → sltF T D q M' ≤ t → (∀ j, M' 89 j = M 89 j ∨ (j = q ∧ M' 89 j = t)) → Q 0 M') : es_Call (d + 3) 164 [.inr (.inr 88), .inl q, .inl t, .inl D] M Q := by
  have hn := hT.n
  have hs := hT.v
  have ha := hT.all
  have q0 := hq.1
  have q1 := hq.2
  have q36 : q < 36 := by omega
  have dl := dn_le hT (q := q) D0 D1
  have an : es_and q 1 = q % 2 := ei_and1 q0 (by omega)
  apply c_Clock_arrive
  refine s_allServices hT hR (s_doneWith hT hR q0 q36 D0 (by clear dl; omega) ha.1 (by clear dl; omega) ⟨fun z => ?_, fun z => ?_⟩)
  · have cd := cd_of hT hq hg z
    have h' : ∀ M', offZ M M' → decR M M' → okR T a m D M' → M' 66 (dnF T q D (allF T) * 20 + cdF T q) ≤ t → (∀ j, M' 89 j = M 89 j ∨ (j = q ∧ M' 89 j = t)) → Q 0 M' := fun M' x1 x2 x3 x4 x5 => h M' x1 x2 x3 (by unfold sltF; rw [if_neg z]; exact x4) x5
    clear h z
    generalize dnF T q D (allF T) = w at dl hv h' ⊢
    generalize hN : allF T = N at *
    have e13 : M 13 q = T 13 q := hR 13 _ rfl
    have ix := ix20 (w := w) (v := T 13 q) (q := q) dl.1 (by omega) cd.1.1 (by omega)
    rw [an, e13, ix.1]
    refine ⟨⟨q0, q36⟩, ix.2, ix.2, ?_⟩
    change Q 0 (es_upd M 66 (w * 20 + cdF T q) (min (M 66 (w * 20 + cdF T q)) t))
    have o := ok.2 w (cdF T q) dl.1 (by rw [hN]; exact dl.2.1) cd.2.1.1 cd.2.1.2
    refine h' _ (fun c c1 c2 => es_upd_o c c1) ⟨fun j => by rw [es_upd_n (by decide)]; exact Int.le_refl _, fun j => ?_⟩ ⟨fun p hp => by rw [es_upd_n (by decide)]; exact ok.1 p hp, fun w' k w0 w1 k0 k1 => ?_⟩ (by rw [es_upd_s]; exact Int.min_le_right _ _) (fun j => Or.inl (es_upd_n (by decide)))
    · rw [es_upd_c]
      split
      · rename_i e; rw [e]; exact Int.min_le_left _ _
      · exact Int.le_refl _
    · rw [es_upd_c]
      split
      · rename_i e
        obtain ⟨e1, e2⟩ := ix_inj e ⟨k0, by omega⟩ ⟨cd.2.1.1, by omega⟩
        subst e1
        rw [e2, cd.2.2.1]
        rw [cd.2.2.1] at o
        exact ⟨okV_min o.1 hv, fun _ => cd.2.2.2.symm⟩
      · exact ok.2 w' k w0 w1 k0 k1
  · have h' : ∀ M', offZ M M' → decR M M' → okR T a m D M' → M' 89 q ≤ t → (∀ j, M' 89 j = M 89 j ∨ (j = q ∧ M' 89 j = t)) → Q 0 M' := fun M' x1 x2 x3 x4 x5 => h M' x1 x2 x3 (by unfold sltF; rw [if_pos z]; exact x4) x5
    rw [z] at hv
    refine ⟨⟨q0, q36⟩, ⟨q0, q36⟩, h' _ (fun c c1 c2 => es_upd_o c c2) ⟨fun j => ?_, fun j => by rw [es_upd_n (by decide)]; exact Int.le_refl _⟩ ⟨fun p hp => ?_, fun w' k w0 w1 k0 k1 => by rw [es_upd_n (by decide)]; exact ok.2 w' k w0 w1 k0 k1⟩ (by rw [es_upd_s]; exact Int.min_le_right _ _) (fun j => ?_)⟩
    · rw [es_upd_c]
      split
      · rename_i e; rw [e]; exact Int.min_le_left _ _
      · exact Int.le_refl _
    · rw [es_upd_c]
      split
      · rename_i e; rw [e]; exact okV_min (ok.1 q hq) hv
      · exact ok.1 p hp
    · rw [es_upd_c]
      split
      · rename_i e
        by_cases w : M 89 q ≤ t
        · rw [Int.min_eq_left w, e]; exact Or.inl rfl
        · rw [Int.min_eq_right (by omega)]; exact Or.inr ⟨e, rfl⟩
      · exact Or.inl rfl
theorem s_goOnFrom (hT : TI T) (hR : RepC T M) (hN : nextsOK T M) {a m D p : Int} (m0 : 0 ≤ m ∧ m < 1440) (hp : isP T p) (D0 : 0 ≤ D) (D1 : D ≤ allF T) (ok : okR T a m D M) (hv : M 89 p < 1000000) (h : ∀ M', offZ M M' → decR M M' → okR T a m D M' → M' 89 p = M 89 p → (∀ q, tst T a p q → sltF T D q M' ≤ seF T q (M 89 p + tb T p q)) → (∀ j, M' 89 j = M 89 j ∨ M 89 p < M' 89 j) → Q 0 M') : es_Call (d + 4) 166 [.inr (.inr 88), .inl p, .inl D] M Q := by
  have hn := hT.n
  have p0 := hp.1
  have p1 := hp.2
  obtain ⟨⟨c0, c1⟩, n1, n2⟩ := hN p hp
  have tr := (ok.1 p hp).2 hv
  have rr := tr_r hT m0 tr
  obtain ⟨v, ev⟩ : ∃ v, v = M 89 p := ⟨_, rfl⟩
  rw [← ev] at tr rr hv h
  have v0 : 0 ≤ v ∧ v ≤ 1440 := rr.2.2.1
  apply m_Clock_goOnFrom
  intro G hG
  apply k_Clock_goOnFrom_0 hG
  refine es_up (P := fun i => ∀ M', offZ M M' → decR M M' → okR T a m D M' → M' 89 p = v → (∀ i', 0 ≤ i' → i' < i → sltF T D (M 62 (p * 12 + i')) M' ≤ seF T (M 62 (p * 12 + i')) (v + tb T p (M 62 (p * 12 + i')))) → (∀ j, M' 89 j = M 89 j ∨ v < M' 89 j) → G 2 [lr 88, li p, li D, li i, none, none] [] M') (n := M 63 p) c0 ?_ ?_ M (fun _ _ _ => rfl) decR.rf ok ev.symm (fun i' i0 i1 => by omega) (fun j => Or.inl rfl)
  · intro M' f1 f2 f3 f4 f5 f6
    apply k_Clock_goOnFrom_2 hG
    rw [f1 63 (by decide) (by decide)]
    refine ⟨by omega, fun _ => h M' f1 f2 f3 f4 (fun q hq => ?_) f6, fun z => absurd (Int.le_refl _) z⟩
    obtain ⟨i, i0, i1, e⟩ := n2 q hq.1 (by rw [← stp_a hT (a := a) hp]; exact hq.2)
    have := f5 i i0 i1
    rw [e] at this
    exact this
  · intro i i0 i1 ih M' f1 f2 f3 f4 f5 f6
    have hR' := repZ hR f1
    have nx := n1 i i0 i1
    have ix := w432 (a := p) (b := i) ⟨p0, by omega⟩ ⟨i0, by omega⟩
    apply k_Clock_goOnFrom_2 hG
    rw [f1 63 (by decide) (by decide), f1 62 (by decide) (by decide), ix.1, w32_1 (k := i) (by omega) (by omega), f4]
    have nq : ∀ q, q = M 62 (p * 12 + i) → isP T q → stp T 0 p q < 1000000 → es_Call (d + 3) 95 [.inr (.inr 60), .inl p, .inl q] M' (fun y2 M1 => es_Call (d + 3) 163 [.inr (.inr 88), .inl q, .inl (w32 (v + y2))] M1 (fun y4 M3 => es_Call (d + 3) 164 [.inr (.inr 88), .inl q, .inl y4, .inl D] M3 (fun _ M5 => G 2 [lr 88, li p, li D, li (i + 1), none, none] [] M5))) := by
      intro q eq hq hs
      have so := stp_og hT hp hq hs
      have ht : tst T a p q := ⟨hq, by rw [stp_a hT hp]; exact hs⟩
      have sr := tst_r hT (Or.inr hp) ht
      have et : tmF T (og T p) (gl T p) (gl T q) = tb T p q := by unfold tb; rw [if_neg (isP36 hT hp), so.1]
      refine s_turnBetween hT hR' hp hq ?_
      rw [et, w32_s (by omega) (by omega)]
      refine s_soonestEnd hT hR' hq sr.1.2 (by omega) (by omega) ?_
      have se := se_r hT hq sr.1.2 (r := v + tb T p q) (by omega)
      refine s_arrive hT hR' hq so.2 D0 D1 f3 ⟨se.1, fun z => tr_s tr ht z⟩ (fun M5 g1 g2 g3 g4 g5 => ih M5 (fun c x1 x2 => by rw [g1 c x1 x2]; exact f1 c x1 x2) (f2.tr g2) g3 ?_ (fun i' y0 y1 => ?_) (fun j => ?_))
      · rcases g5 p with w | ⟨w, -⟩
        · rw [w]; exact f4
        · have := (hT.ps p0 p1).2.2.1
          rw [← so.1, ← w] at this
          exact absurd rfl this
      · by_cases e : i' = i
        · subst e; rw [← eq]; exact g4
        · exact Int.le_trans (slt_dec g2) (f5 i' y0 (by omega))
      · rcases g5 j with w | ⟨-, w⟩
        · rw [w]; exact f6 j
        · right
          rw [w]
          by_cases z : seF T q (v + tb T p q) < 1000000
          · have := se.2 z; omega
          · omega
    exact ⟨by omega, fun z => absurd z (by omega), fun _ => ⟨ix.2, by omega, nq _ rfl nx.1 nx.2⟩⟩
end
