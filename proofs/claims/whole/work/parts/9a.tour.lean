/-! TOURS (3): the class's table and tours -/
/-- orders of the set D that end with the code k -/
def tq (T : es_M) (a D k x : Int) : Prop := ∃ l, fs T 0 (l ++ [k]) D ∧ pc T a 36 (l ++ [k]) = x
theorem fs_last {T : es_M} {l : List Int} {k D : Int} : fs T 0 (l ++ [k]) D ↔ ∃ D', fs T 0 l D' ∧ nxt T D' k ∧ wth D' (k / 2) = D := by
  rw [fs_app]
  exact ⟨fun ⟨D', h1, h2⟩ => ⟨D', h1, h2.1, h2.2⟩, fun ⟨D', h1, h2, h3⟩ => ⟨D', h1, h2, h3⟩⟩
theorem fs_nn {T : es_M} : ∀ (l : List Int) (d D : Int), 0 ≤ d → fs T d l D → 0 ≤ D
  | [], d, D, h0, h => by rw [← show d = D from h]; exact h0
  | _ :: l, _, _, _, h => fs_nn l _ _ wth_nn h.2
theorem pc_last {T : es_M} {a : Int} {l : List Int} {k : Int} : pc T a 36 (l ++ [k]) = pc T a 36 l + dsF T a (pl T 36 l) (poF T k) := by
  rw [pc_app]
  show _ + (dsF T a (pl T 36 l) (poF T k) + 0) = _
  omega
theorem pl_last {T : es_M} {l : List Int} {k p : Int} : pl T p (l ++ [k]) = poF T k := by rw [pl_app]; rfl
theorem pc_nn {T : es_M} (hT : TI T) {a : Int} : ∀ (l : List Int) (d p D : Int), isS T p → fs T d l D → 0 ≤ pc T a p l
  | [], _, _, _, _, _ => Int.le_refl _
  | k :: l, d, p, D, hp, h => by
    have kp := poF_r hT h.1.1.1 h.1.1.2
    have i := pc_nn hT (a := a) l _ (poF T k) D (Or.inr ⟨kp.1, kp.2.1⟩) h.2
    have r := ds_r hT (a := a) (q := poF T k) hp
    show 0 ≤ dsF T a p (poF T k) + pc T a (poF T k) l
    omega
theorem snoc (l : List Int) (h : l ≠ []) : ∃ r k, l = r ++ [k] := by
  induction l with
  | nil => exact absurd rfl h
  | cons a l ih =>
    by_cases e : l = []
    · exact ⟨[], a, by rw [e]; rfl⟩
    · obtain ⟨r, k, hk⟩ := ih e
      exact ⟨a :: r, k, by rw [hk]; rfl⟩
/-- the predecessor was looked at, ahead of (D, j) -/
def seen (T : es_M) (D j : Int) (l : List Int) : Prop := l = [] ∨ ∃ r k' D', l = r ++ [k'] ∧ fs T 0 l D' ∧ (D' < D ∨ (D' = D ∧ k' < j))
def tabF (T : es_M) (a D j : Int) (M : es_M) : Prop := ∀ E k, 0 ≤ E → E ≤ allF T → isK T k → (0 ≤ M 66 (E * 20 + k) ∧ M 66 (E * 20 + k) ≤ 1000000) ∧ (M 66 (E * 20 + k) < 1000000 → tq T a E k (M 66 (E * 20 + k))) ∧ ∀ l, fs T 0 (l ++ [k]) E → seen T D j l → M 66 (E * 20 + k) ≤ pc T a 36 (l ++ [k])
theorem tab_row {T : es_M} (hT : TI T) {a D j : Int} {M : es_M} (h : tabF T a D j M) (j0 : 0 ≤ j) {k : Int} (D0 : 0 ≤ D) (D1 : D ≤ allF T) (hk : isK T k) : isMin (tq T a D k) (M 66 (D * 20 + k)) := by
  obtain ⟨h1, h2, h3⟩ := h D k D0 D1 hk
  refine ⟨h1.2, ?_, h2⟩
  rintro x ⟨l, l1, l2⟩
  rw [← l2]
  refine h3 l l1 ?_
  by_cases e : l = []
  · exact Or.inl e
  · obtain ⟨r, k', hr⟩ := snoc l e
    obtain ⟨D', f1, f2, f3⟩ := fs_last.mp l1
    have n0 := fs_nn l 0 D' (by decide) f1
    have gt := wth_gt n0 f2.2.2.1
    exact Or.inr ⟨r, k', D', hr, f1, Or.inl (by omega)⟩
theorem ebit_all {T : es_M} (hT : TI T) {v : Int} (v0 : 0 ≤ v) (v1 : v < T 1 1) : ebit (allF T) v := by
  unfold ebit
  rw [all_bit hT]
  exact decide_eq_true (by omega)
theorem wth_all {T : es_M} (hT : TI T) {D v : Int} (D0 : 0 ≤ D) (D1 : D ≤ allF T) (v0 : 0 ≤ v) (v1 : v < T 1 1) : wth D v ≤ allF T := by
  have h1 : sub D (allF T) := (sub_all hT D0).mpr D1
  exact (sub_all hT wth_nn).mp (wth_sub h1 (ebit_all hT v0 v1))
/-- a tour of the set D -/
def tr (T : es_M) (a D x : Int) : Prop := ∃ l, fs T 0 l D ∧ pc T a 36 l + exF T a (pl T 36 l) = x
def behOK (T : es_M) (M : es_M) : Prop := ∀ v, 0 ≤ v → v < T 1 1 → (0 ≤ M 70 v ∧ M 70 v < 1024) ∧ ∀ i : Nat, (M 70 v).toNat.testBit i = (decide ((i : Int) < T 1 1) && (T 12 i).toNat.testBit v.toNat)
theorem beh_nx {T : es_M} (hT : TI T) {M : es_M} (hB : behOK T M) {D v : Int} (D0 : 0 ≤ D) (D1 : D ≤ allF T) (v0 : 0 ≤ v) (v1 : v < T 1 1) : es_and (M 70 v) D = 0 ↔ ∀ i : Nat, D.toNat.testBit i = true → (T 12 i).toNat.testBit v.toNat = false := by
  have hv := hT.v
  have ha := hT.all
  obtain ⟨b1, b2⟩ := hB v v0 v1
  obtain ⟨x, hx⟩ := Int.eq_ofNat_of_zero_le b1.1
  obtain ⟨y, hy⟩ := Int.eq_ofNat_of_zero_le D0
  rw [hx, hy, eb_and (by omega)]
  rw [hx, Int.toNat_natCast] at b2
  rw [Int.toNat_natCast]
  have lt : ∀ i : Nat, y.testBit i = true → (i : Int) < T 1 1 := by
    intro i hi
    have := (sub_all hT D0).mpr D1 i (by rw [hy, Int.toNat_natCast]; exact hi)
    rw [all_bit hT, decide_eq_true_eq] at this
    omega
  constructor
  · intro h i hi
    cases q : (T 12 i).toNat.testBit v.toNat
    · rfl
    · have : (x &&& y).testBit i = true := by rw [Nat.testBit_and, b2 i, q, hi, decide_eq_true (lt i hi)]; rfl
      rw [show x &&& y = 0 by omega, Nat.zero_testBit] at this
      cases this
  · intro h
    have : x &&& y = 0 := by
      apply Nat.eq_of_testBit_eq
      intro i
      rw [Nat.testBit_and, Nat.zero_testBit]
      cases q : y.testBit i
      · simp
      · rw [b2 i, h i q]; simp
    omega
section
variable {d : Nat} {Q : Int → es_M → Prop} {T M : es_M}
theorem s_fill66 {n v : Int} (n0 : 0 ≤ n) (n1 : n ≤ 20480) (h : ∀ M', (∀ c, c ≠ 66 → M' c = M c) → (∀ j, 0 ≤ j → j < n → M' 66 j = v) → Q 0 M') : es_Call (d + 2) 291 [.inr (.inr 66), .inl 0, .inl n, .inl v] M Q := by
  apply m_Arrays_fill_1_66
  intro G hG
  apply k_Arrays_fill_1_66_0 hG
  apply c_Arrays_rangeCheck
  refine ⟨fun _ => ⟨fun _ => ⟨fun _ => ?_, fun z => absurd n1 z⟩, fun z => absurd (by decide) z⟩, fun z => absurd n0 z⟩
  refine es_up (P := fun k => ∀ M', (∀ c, c ≠ 66 → M' c = M c) → (∀ j, 0 ≤ j → j < k → M' 66 j = v) → G 10 [lr 66, none, li n, li v, li k] [] M') (n := n) n0 ?_ ?_ M (fun _ _ => rfl) (fun j j0 j1 => by omega)
  · intro M' f1 f2
    apply k_Arrays_fill_1_66_10 hG
    exact ⟨fun _ => h M' f1 f2, fun z => absurd (Int.le_refl _) z⟩
  · intro k k0 k1 ih M' f1 f2
    apply k_Arrays_fill_1_66_10 hG
    rw [w32_1 (by omega) (by omega)]
    refine ⟨fun z => absurd z (by omega), fun _ => ⟨by omega, ih _ (fun c hc => by rw [es_upd_o c hc, f1 c hc]) (fun j j0 j1 => ?_)⟩⟩
    rw [es_upd_c]
    by_cases e : j = k
    · rw [if_pos e]
    · rw [if_neg e]; exact f2 j j0 (by omega)
def mnI (a b : Int) : Int := min a b
/-- the rest that a tour needs stays -/
abbrev offT (M M' : es_M) : Prop := ∀ c, c ≠ 66 → c ≠ 71 → M' c = M c
theorem s_tourOn (hT : TI T) (hR : RepC T M) {a D k : Int} (hP : prepOK T a M) (hB : behOK T M) (D0 : 0 < D) (D1 : D ≤ allF T) (hk : isK T k) (hT1 : tabF T a D k M) (hlt : M 66 (D * 20 + k) < 1000000) (ht0 : 0 ≤ M 71 D ∧ M 71 D ≤ 1000000) (h : ∀ M', offT M M' → tabF T a D (k + 1) M' → (∀ E, E ≠ D → M' 71 E = M 71 E) → M' 71 D = min (M 71 D) (M 66 (D * 20 + k) + exF T a (poF T k)) → (∀ j, k < j → isK T j → M' 66 (D * 20 + j) = M 66 (D * 20 + j)) → Q 0 M') : es_Call (d + 2) 114 [.inr (.inr 67), .inl D, .inl k] M Q := by
  have hn := hT.n
  have hv := hT.v
  have ha := hT.all
  have k0 := hk.1
  have k1 := hk.2
  obtain ⟨e8, e9, e68, e69, e61⟩ := hP
  obtain ⟨x1, x2, x3⟩ := w20480 (a := D) (b := k) (by omega) (by omega)
  have row := tab_row hT hT1 k0 (Int.le_of_lt D0) D1 hk
  obtain ⟨l0, l01, l02⟩ := row.2.2 hlt
  obtain ⟨Dp, p1, p2, p3⟩ := fs_last.mp l01
  have cd := p2.2.1
  have kp := poF_r hT k0 k1
  have hp : isP T (poF T k) := ⟨kp.1, kp.2.1⟩
  have exr : 0 ≤ exF T a (poF T k) ∧ exF T a (poF T k) ≤ 1000000 := by
    rw [exF_rm hT (W := 0) hp (by decide)]; exact rm_r hT (Or.inr hp)
  have tr0 := (hT1 D k (by omega) D1 hk).1
  apply m_Walks_tourOn
  intro G hG
  apply k_Walks_tourOn_0 hG
  rw [x1, (e68 k k0 k1).1 cd, e69 _ hp, w32_s (k := M 66 (D * 20 + k) + exF T a (poF T k)) (by omega) (by omega)]
  refine ⟨⟨x2, x3⟩, by omega, fun _ => ⟨by omega, by omega, by omega, ?_⟩, fun z => absurd z (by omega)⟩
  -- the nexts
  refine es_up (P := fun n => ∀ M', offT M M' → (∀ E, E ≠ D → M' 71 E = M 71 E) → M' 71 D = mnI (M 71 D) (M 66 (D * 20 + k) + exF T a (poF T k)) → (∀ j, isK T j → M' 66 (D * 20 + j) = M 66 (D * 20 + j)) → tabF T a D k M' → (∀ j, 0 ≤ j → j < n → isK T j → nxt T D j → M' 66 (wth D (j / 2) * 20 + j) ≤ M 66 (D * 20 + k) + wyF T (poF T k) (poF T j)) → G 54 [lr 67, li D, none, li (M 66 (D * 20 + k)), li (poF T k), li n, none, none, none] [] M') (n := 2 * T 1 1) (by omega) ?_ ?_ _ (fun c _ c2 => es_upd_o c c2) (fun E hE => es_upd_j hE) es_upd_s (fun j _ => es_upd_n (by decide)) ?_ (fun j j0 j1 => absurd j1 (by omega))
  · intro M' f1 f2 f3 f4 f5 f6
    apply k_Walks_tourOn_54 hG
    rw [f1 67 (by decide) (by decide), e9]
    refine ⟨fun _ => h M' f1 (fun E j E0 E1 hj => ?_) f2 f3 (fun j _ hj => f4 j hj), fun z => absurd (Int.le_refl _) z⟩
    obtain ⟨q1, q2, q3⟩ := f5 E j E0 E1 hj
    refine ⟨q1, q2, fun l hl sn => ?_⟩
    by_cases sn' : seen T D k l
    · exact q3 l hl sn'
    · -- the predecessor is (D, k)
      have : ∃ r, l = r ++ [k] ∧ fs T 0 l D := by
        rcases sn with e | ⟨r, k', D', e1, e2, e3⟩
        · exact absurd (Or.inl e) sn'
        · rcases e3 with e3 | ⟨e3, e4⟩
          · exact absurd (Or.inr ⟨r, k', D', e1, e2, Or.inl e3⟩) sn'
          · by_cases e5 : k' = k
            · exact ⟨r, by rw [e1, e5], by rw [← e3]; exact e2⟩
            · exact absurd (Or.inr ⟨r, k', D', e1, e2, Or.inr ⟨e3, by omega⟩⟩) sn'
      obtain ⟨r, r1, r2⟩ := this
      obtain ⟨D'', s1, s2, s3⟩ := fs_last.mp hl
      have eD : D'' = D := by
        have key : ∀ (l : List Int) (d A B : Int), fs T d l A → fs T d l B → A = B := by
          intro l
          induction l with
          | nil => intro d A B h1 h2; rw [← show d = A from h1]; exact h2
          | cons x l ih => intro d A B h1 h2; exact ih _ A B h1.2 h2.2
        exact key l 0 D'' D s1 r2
      rw [eD] at s2 s3
      have b := f6 j hj.1 hj.2 hj s2
      rw [s3] at b
      have low := row.2.1 (pc T a 36 l) ⟨r, by rw [← r1]; exact r2, by rw [← r1]⟩
      have jp := poF_r hT hj.1 hj.2
      rw [pc_last, r1, pl_last, ds_wy hT hp ⟨jp.1, jp.2.1⟩, ← r1]
      omega
  · intro n n0' n1 ih M' f1 f2 f3 f4 f5 f6
    have hnK : isK T n := ⟨n0', n1⟩
    have n2 : 0 ≤ n / 2 ∧ n / 2 < T 1 1 := by clear f3 tr0 ht0 exr x1 x2 x3; omega
    have D2 : 0 ≤ D ∧ D < 1024 := by clear f3 tr0 ht0 exr x1 x2 x3; omega
    clear x1 x2 x3 ht0 exr
    have np := poF_r hT n0' n1
    have hnP : isP T (poF T n) := ⟨np.1, np.2.1⟩
    have no : ¬ nxt T D n → G 54 [lr 67, li D, none, li (M 66 (D * 20 + k)), li (poF T k), li (n + 1), none, none, none] [] M' := fun z => ih M' f1 f2 f3 f4 f5 (fun j j0 j1 hj hx => by
      by_cases e : j = n
      · subst e; exact absurd hx z
      · exact f6 j j0 (by omega) hj hx)
    have hB' : behOK T M' := by unfold behOK; rw [f1 70 (by decide) (by decide)]; exact hB
    have bn := beh_nx hT hB' (D := D) (v := n / 2) (by omega) D1 (by omega) (by omega)
    have wr := wth_r (d := D) (v := n / 2) (by omega) (by omega) (by omega) (by omega)
    apply k_Walks_tourOn_54 hG
    rw [f1 67 (by decide) (by decide), e9, f1 68 (by decide) (by decide), ei_shr1 (by omega) (by omega), w32_1 (k := n) (by omega) (by omega), ei_or1 (by omega) (by omega) (by omega) (by omega)]
    refine ⟨fun z => absurd z (by omega), fun _ => ⟨by omega, fun z => no (fun x => by have := (e68 n n0' n1).1 x.2.1; omega), fun z => s_has (by omega) (by omega) (by omega) (by omega) (fun b => es_f1 (no (fun x => x.2.2.1 b))) (fun b => es_f0 ⟨by omega, fun y => no (fun x => y (bn.mpr x.2.2.2)), fun y => ⟨by omega, ?_⟩⟩)⟩⟩
    have cdn : canDo T n ∧ goes T (poF T n) := by
      by_cases w : canDo T n ∧ goes T (poF T n)
      · exact w
      · exact absurd ((e68 n n0' n1).2 w) z
    have hx : nxt T D n := ⟨hnK, cdn, b, bn.mp y⟩
    clear y bn no
    rw [f1 68 (by decide) (by decide), (e68 n n0' n1).1 cdn]
    refine s_least hT (fun p q hp hq => by rw [f1 61 (by decide) (by decide)]; exact e61 p q hp hq) hp hnP ?_
    have ew : (((D.toNat ||| 2 ^ (n / 2).toNat : Nat) : Int)) = wth D (n / 2) := rfl
    rw [ew]
    obtain ⟨y1, y2, y3⟩ := w20480 (a := wth D (n / 2)) (b := n) wr (by omega)
    have wy := wyF_r hT hp hnP
    have gt := wth_gt (d := D) (by omega) b
    have wall := wth_all (D := D) (v := n / 2) hT D2.1 D1 n2.1 n2.2
    have cur := (f5 (wth D (n / 2)) n wr.1 wall hnK)
    have K20 : ∀ j, isK T j → 0 ≤ j ∧ j < 20 := fun j hj => ⟨hj.1, by have := hj.2; have := hv.2.1; clear f3 cur gt wall wr wy y1 y2 y3 tr0; omega⟩
    have en : ∀ E j w : Int, E * 20 + j = w * 20 + n → (0 ≤ j ∧ j < 20) → E = w ∧ j = n := fun E j w h1 h2 => by have := K20 n hnK; clear f3 cur gt wall wr wy y1 y2 y3 tr0; omega
    have s1 : w32 (M 66 (D * 20 + k) + wyF T (poF T k) (poF T n)) = M 66 (D * 20 + k) + wyF T (poF T k) (poF T n) := by
      clear f3 cur gt wall wr y1 y2 y3
      exact w32_s (by omega) (by omega)
    rw [y1, s1]
    have tqn : tq T a (wth D (n / 2)) n (M 66 (D * 20 + k) + wyF T (poF T k) (poF T n)) := ⟨l0 ++ [k], fs_last.mpr ⟨D, l01, hx, rfl⟩, by rw [pc_last, pl_last, l02, ds_wy hT hp hnP]⟩
    have hnx : ∀ j, nxt T D j → j ≠ n → wth D (j / 2) * 20 + j ≠ wth D (n / 2) * 20 + n := fun j hj hne e => hne (en _ _ _ e (K20 j hj.1)).2
    have wpos : 0 ≤ M 66 (D * 20 + k) + wyF T (poF T k) (poF T n) := by
      clear f3 cur gt wall wr y1 y2 y3
      omega
    generalize hwn : wth D (n / 2) = w at cur gt wall wr y2 y3 tqn hnx ⊢
    generalize smn : M 66 (D * 20 + k) + wyF T (poF T k) (poF T n) = sm at tqn wpos ⊢
    have cur1 := cur.1
    refine ⟨⟨y2, y3⟩, ⟨y2, y3⟩, ih _ (fun c c1 c2 => by rw [es_upd_o c c1]; exact f1 c c1 c2) (fun E hE => by rw [es_upd_n (by decide)]; exact f2 E hE) (by rw [es_upd_n (by decide)]; exact f3) (fun j hj => ?_) (fun E j E0 E1 hj => ?_) (fun j j0 j1 hj hxj => ?_)⟩
    · have ne : D * 20 + j ≠ w * 20 + n := fun e => absurd (en _ _ _ e (K20 j hj)).1 (Int.ne_of_lt gt)
      rw [es_upd_j ne]; exact f4 j hj
    · rw [es_upd_c]
      by_cases e : E * 20 + j = w * 20 + n
      · obtain ⟨eE, ej⟩ := en _ _ _ e (K20 j hj)
        rw [if_pos e, eE, ej]
        by_cases q : M' 66 (w * 20 + n) ≤ sm
        · rw [show min (M' 66 (w * 20 + n)) sm = M' 66 (w * 20 + n) from Int.min_eq_left q]
          exact cur
        · rw [show min (M' 66 (w * 20 + n)) sm = sm from Int.min_eq_right (Int.le_of_lt (Int.not_le.mp q))]
          refine ⟨⟨wpos, Int.le_trans (Int.le_of_lt (Int.not_le.mp q)) cur1.2⟩, fun _ => tqn, fun l hl sn => Int.le_trans (Int.le_of_lt (Int.not_le.mp q)) (cur.2.2 l hl sn)⟩
      · rw [if_neg e]; exact f5 E j E0 E1 hj
    · rw [es_upd_c]
      by_cases e : j = n
      · have ei : wth D (j / 2) * 20 + j = w * 20 + n := by rw [e, hwn]
        rw [if_pos ei, e, smn]
        exact Int.min_le_right _ _
      · rw [if_neg (hnx j hxj e)]
        exact f6 j j0 (Int.lt_iff_le_and_ne.mpr ⟨Int.le_of_lt_add_one j1, e⟩) hj hxj
  · intro E j E0 E1 hj
    rw [es_upd_n (by decide)]
    exact hT1 E j E0 E1 hj
end
