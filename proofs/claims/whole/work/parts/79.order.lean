/-! PAIRS OF CALLS: build (2) -/
section
variable {d : Nat} {Q : Int → es_M → Prop} {T M : es_M}
abbrev offD (M M' : es_M) : Prop := (∀ c, c ≠ 91 → c ≠ 127 → c ≠ 128 → c ≠ 129 → c ≠ 130 → c ≠ 131 → c ≠ 132 → c ≠ 133 → M' c = M c) ∧ ∀ j, j ≠ 57 → M' 91 j = M 91 j
theorem offD.upd {M' : es_M} {c : Nat} {j v : Int} (h : offD M M') (hc : c = 128 ∨ c = 129 ∨ c = 130 ∨ c = 131 ∨ c = 132 ∨ c = 133) : offD M (es_upd M' c j v) := by
  refine ⟨fun c' c1 c2 c3 c4 c5 c6 c7 c8 => ?_, fun j' hj => ?_⟩
  · rw [es_upd_o c' (by omega)]; exact h.1 c' c1 c2 c3 c4 c5 c6 c7 c8
  · rw [es_upd_n (by omega)]; exact h.2 j' hj
theorem repD {M' : es_M} (hR : RepM T M) (h : offD M M') : RepM T M' := by
  intro c j q
  by_cases e : c = 91
  · subst e
    rw [h.2 j (by rintro rfl; cases q)]; exact hR _ _ q
  · rw [h.1 c e ?_ ?_ ?_ ?_ ?_ ?_ ?_]
    · exact hR _ _ q
    all_goals (rintro rfl; cases q)
/-- the model's try of a code at a place -/
theorem s_m_tryAt {G : Nat → es_L → List AV → es_M → Prop} (hT : TI T) (hG : es_Cl cd_Model_build st_Model_build (some .int) (d + 5) Q G) {M0 : es_M} (hR : RepM T M0) {v pl b : Int} {u : Int → Int} {s : SS} (v0 : 0 ≤ v) (v1 : v < T 1 1) (p0 : 0 ≤ pl) (p1 : pl ≤ v) (hb : b = 0 ∨ b = 1) (hu : Vb T v u) (o1 : offD M0 M) (o2 : M 127 = M0 127) (hL : ∀ p q, isP T p → isP T q → goes T p → M0 127 (p * 36 + q) = wyF T p q) (hM : ∀ i, 0 ≤ i → i < v → M 130 i = u i / 2 ∧ M 131 i = u i % 2) (hr : RM 1000000 (v + 1) s M)
    (h : ∀ M', offD M0 M' → M' 127 = M0 127 → M' 130 = M 130 → M' 131 = M 131 → RM 1000000 (v + 1) (ifc (canDo T (2 * v + b)) (cns T (v + 1) (ins u pl (2 * v + b)) s) s) M' → G 44 [lr 91, li v, li pl, li (b + 1), none, none] [] M') : G 52 [lr 91, li v, li pl, li b, li 0, none] [] M := by
  have hv := hT.v
  refine es_up (P := fun k => ∀ M', offD M0 M' → M' 127 = M0 127 → M' 130 = M 130 → M' 131 = M 131 → M' 132 = M 132 → M' 133 = M 133 → M' 91 = M 91 → (∀ i, 0 ≤ i → i < k → M' 128 i = ins u pl (2 * v + b) i / 2 ∧ M' 129 i = ins u pl (2 * v + b) i % 2) → G 52 [lr 91, li v, li pl, li b, li k, none] [] M') (n := v + 1) (by omega) ?_ ?_ M o1 o2 rfl rfl rfl rfl rfl (fun i i0 i1 => absurd i1 (by omega))
  · intro M' f1 f2 f3 f4 f5 f6 f7 f8
    have hR' := repD hR f1
    have rr : RM 1000000 (v + 1) s M' := by unfold RM at hr ⊢; rw [f5, f6, f7]; exact hr
    have go : (canDo T (2 * v + b) → es_Call (d + 5) 259 [.inr (.inr 91), .inl (v + 1)] M' (fun _ M3 => G 44 [lr 91, li v, li pl, li (b + 1), none, none] [] M3)) := by
      intro hc
      refine s_m_tries hT hR' (fun p q hp hq g => by rw [f2]; exact hL p q hp hq g) (by omega) (by omega) (ins_V hu p0 p1 (by omega) (by omega) (by omega) hc).1.cd f8 rr (fun M2 g1 g2 g3 => h M2 ⟨fun c c1 c2 c3 c4 c5 c6 c7 c8 => by rw [g1 c c1 c7 c8]; exact f1.1 c c1 c2 c3 c4 c5 c6 c7 c8, fun j hj => by rw [g2 j hj]; exact f1.2 j hj⟩ (by rw [g1 127 (by decide) (by decide) (by decide)]; exact f2) (by rw [g1 130 (by decide) (by decide) (by decide)]; exact f3) (by rw [g1 131 (by decide) (by decide) (by decide)]; exact f4) (by rw [ifc_y hc]; exact g3))
    have no : ¬ canDo T (2 * v + b) → G 44 [lr 91, li v, li pl, li (b + 1), none, none] [] M' := fun hc => h M' f1 f2 f3 f4 (by rw [ifc_n hc]; exact rr)
    apply k_Model_build_52 hG
    rw [w32_1 (k := v) (by omega) (by omega), w32_1 (k := b) (by omega) (by omega)]
    refine ⟨fun _ => ⟨fun z => ?_, fun z => ?_⟩, fun z => absurd (by omega) z⟩
    · have e : b = 0 := by omega
      subst e
      exact s_m_canBe hT hR' v0 v1 (Or.inl rfl) (fun hc => es_t1 (go hc)) (fun hc => es_t0 (no hc))
    · subst z
      exact s_m_canBe hT hR' v0 v1 (Or.inr rfl) (fun hc => es_t1 (go hc)) (fun hc => es_t0 (no hc))
  · intro k k0 k1 ih M' f1 f2 f3 f4 f5 f6 f7 f8
    have fin : ∀ x y, x = ins u pl (2 * v + b) k / 2 → y = ins u pl (2 * v + b) k % 2 → G 52 [lr 91, li v, li pl, li b, li (k + 1), none] [] (es_upd (es_upd M' 128 k x) 129 k y) := by
      intro x y hx hy
      refine ih _ ((f1.upd (by omega)).upd (by omega)) (by rw [es_upd_o 127 (by decide), es_upd_o 127 (by decide)]; exact f2) (by rw [es_upd_o 130 (by decide), es_upd_o 130 (by decide)]; exact f3) (by rw [es_upd_o 131 (by decide), es_upd_o 131 (by decide)]; exact f4) (by rw [es_upd_o 132 (by decide), es_upd_o 132 (by decide)]; exact f5) (by rw [es_upd_o 133 (by decide), es_upd_o 133 (by decide)]; exact f6) (by rw [es_upd_o 91 (by decide), es_upd_o 91 (by decide)]; exact f7) (fun i i0 i1 => ?_)
      by_cases e : i = k
      · subst e
        rw [es_upd_n (by decide), es_upd_s, es_upd_s]
        exact ⟨hx, hy⟩
      · rw [es_upd_n (by decide), es_upd_j e, es_upd_j e, es_upd_n (by decide)]
        exact f8 i i0 (by omega)
    apply k_Model_build_52 hG
    rw [w32_1 (k := k) (by omega) (by omega)]
    refine ⟨fun z => absurd z (by omega), fun _ => ⟨fun z => ⟨fun w => ?_, fun w => ?_⟩, fun z => ⟨fun w => ?_, fun w => absurd w (by omega)⟩⟩⟩
    · rw [w32_m (by omega) (by omega), es_upd_n (c := 128) (c' := 131) (by decide), f3, f4]
      have m := hM (k - 1) (by omega) (by omega)
      have e : ins u pl (2 * v + b) k = u (k - 1) := by unfold ins; rw [if_neg (by omega), if_neg w]
      refine ⟨by omega, by omega, fun _ => ⟨by omega, by omega, by omega, fin _ _ ?_ ?_⟩, fun w' => absurd w' w⟩
      · rw [e, m.1]
      · rw [e, m.2]
    · have e : ins u pl (2 * v + b) k = 2 * v + b := by unfold ins; rw [if_neg (by omega), if_pos w]
      refine ⟨by omega, fun w' => absurd w w', fun _ => ⟨fun q => ⟨by omega, by omega, fin _ _ ?_ ?_⟩, fun q => ⟨by omega, by omega, fin _ _ ?_ ?_⟩⟩⟩ <;> (rw [e]; omega)
    · rw [es_upd_n (c := 128) (c' := 131) (by decide), f3, f4]
      have m := hM k k0 (by omega)
      have e : ins u pl (2 * v + b) k = u k := by unfold ins; rw [if_pos (by omega)]
      refine ⟨by omega, by omega, fun _ => ⟨by omega, by omega, by omega, fin _ _ ?_ ?_⟩, fun w' => absurd w' w⟩
      · rw [e, m.1]
      · rw [e, m.2]
theorem s_m_build (hT : TI T) (hR : RepM T (es_upd M 91 0 0)) (hv1 : 0 < T 1 1)
    (hno : ∀ (M' : es_M) (v : Nat), (v : Int) < T 1 1 → bdOK T v → ¬ (bdF T (v + 1)).1 < 1000000 → offD (es_upd M 91 0 0) M' → Q (-2) M')
    (hyes : ∀ M' : es_M, bdOK T (T 1 1).toNat → (∀ c, c ≠ 91 → c ≠ 125 → c ≠ 126 → c ≠ 127 → c ≠ 128 → c ≠ 129 → c ≠ 130 → c ≠ 131 → c ≠ 132 → c ≠ 133 → M' c = M c) → (∀ j, j ≠ 0 → j ≠ 57 → j ≠ 47 → M' 91 j = M 91 j) → M' 91 47 = T 1 1 → (∀ i, 0 ≤ i → i < T 1 1 → M' 125 i = (bdF T (T 1 1).toNat).2 i / 2 ∧ M' 126 i = (bdF T (T 1 1).toNat).2 i % 2) → Q (bdF T (T 1 1).toNat).1 M') : es_Call (d + 6) 258 [.inr (.inr 91)] M Q := by
  apply m_Model_build
  intro G hG
  apply k_Model_build_0 hG
  have hv := hT.v
  rw [hR 91 23 rfl, hv.2.2]
  refine ⟨fun _ => s_m_joins hT hR (fun M1 f1 f2 => ?_), fun z => absurd z (by omega)⟩
  have hR1 := rep127 hR f1
  have o1 : offD (es_upd M 91 0 0) M1 := ⟨fun c _ c2 _ _ _ _ _ _ => f1 c c2, fun j _ => by rw [f1 91 (by decide)]⟩
  have ot : ∀ {M2 : es_M}, offD M1 M2 → offD (es_upd M 91 0 0) M2 := fun e => ⟨fun c c1 c2 c3 c4 c5 c6 c7 c8 => by rw [e.1 c c1 c2 c3 c4 c5 c6 c7 c8]; exact f1 c c2, fun j hj => by rw [e.2 j hj, f1 91 (by decide)]⟩
  -- the copy at the end
  have L3 : ∀ M', bdOK T (T 1 1).toNat → offD M1 M' → (∀ i, 0 ≤ i → i < T 1 1 → M' 130 i = (bdF T (T 1 1).toNat).2 i / 2 ∧ M' 131 i = (bdF T (T 1 1).toNat).2 i % 2) → M' 91 57 = (bdF T (T 1 1).toNat).1 → G 241 [lr 91, li 0, none, none, none, none] [] (es_upd M' 91 47 (T 1 1)) := by
    intro M' ok g1 g2 g3
    refine es_up (P := fun k => ∀ M2, (∀ c, c ≠ 91 → c ≠ 125 → c ≠ 126 → M2 c = M' c) → (∀ j, j ≠ 47 → M2 91 j = M' 91 j) → M2 91 47 = T 1 1 → (∀ i, 0 ≤ i → i < k → M2 125 i = (bdF T (T 1 1).toNat).2 i / 2 ∧ M2 126 i = (bdF T (T 1 1).toNat).2 i % 2) → G 241 [lr 91, li k, none, none, none, none] [] M2) (n := T 1 1) (by omega) ?_ ?_ _ (fun c c1 _ _ => es_upd_o c c1) (fun j hj => es_upd_j hj) es_upd_s (fun i i0 i1 => absurd i1 (by omega))
    · intro M2 e1 e2 e3 e4
      apply k_Model_build_241 hG
      have r23 : M2 91 23 = T 1 1 := by rw [e2 23 (by decide), g1.2 23 (by decide), hR1 91 23 rfl, hv.2.2]
      rw [r23, e2 57 (by decide), g3]
      refine ⟨fun _ => hyes M2 ok (fun c c1 c2 c3 c4 c5 c6 c7 c8 c9 c10 => by rw [e1 c c1 c2 c3, g1.1 c c1 c4 c5 c6 c7 c8 c9 c10, f1 c c4, es_upd_o c c1]) (fun j j1 j2 j3 => by rw [e2 j j3, g1.2 j j2, f1 91 (by decide), es_upd_j j1]) e3 e4, fun z => absurd (Int.le_refl _) z⟩
    · intro k k0 k1 ih M2 e1 e2 e3 e4
      apply k_Model_build_241 hG
      have r23 : M2 91 23 = T 1 1 := by rw [e2 23 (by decide), g1.2 23 (by decide), hR1 91 23 rfl, hv.2.2]
      have m := g2 k k0 k1
      rw [es_upd_n (c := 125) (c' := 131) (by decide), e1 130 (by decide) (by decide) (by decide), e1 131 (by decide) (by decide) (by decide), r23, m.1, m.2, w32_1 (by omega) (by omega)]
      refine ⟨fun z => absurd z (by omega), fun _ => ⟨by omega, by omega, by omega, by omega, by omega, ih _ (fun c c1 c2 c3 => by rw [es_upd_o c c3, es_upd_o c c2]; exact e1 c c1 c2 c3) (fun j hj => by rw [es_upd_n (by decide), es_upd_n (by decide)]; exact e2 j hj) (by rw [es_upd_n (by decide), es_upd_n (by decide)]; exact e3) (fun i i0 i1 => ?_)⟩⟩
      by_cases e : i = k
      · subst e
        rw [es_upd_n (by decide), es_upd_s, es_upd_s]
        exact ⟨rfl, rfl⟩
      · rw [es_upd_n (by decide), es_upd_j e, es_upd_j e, es_upd_n (by decide)]
        exact e4 i i0 (by omega)
  refine es_up (P := fun v => ∀ M', offD M1 M' → M' 127 = M1 127 → bdOK T v.toNat → (∀ i, 0 ≤ i → i < v → M' 130 i = (bdF T v.toNat).2 i / 2 ∧ M' 131 i = (bdF T v.toNat).2 i % 2) → (0 < v → M' 91 57 = (bdF T v.toNat).1) → G 20 [lr 91, li v, none, none, none, none] [] M') (n := T 1 1) (by omega) ?_ ?_ M1 ⟨fun _ _ _ _ _ _ _ _ _ => rfl, fun _ _ => rfl⟩ rfl (fun k hk => absurd hk (by omega)) (fun i i0 i1 => absurd i1 (by omega)) (fun z => absurd z (by omega))
  · intro M' g1 g0 ok g2 g3
    apply k_Model_build_20 hG
    rw [(repD hR1 g1) 91 23 rfl, hv.2.2]
    exact ⟨fun _ => L3 M' ok g1 g2 (g3 hv1), fun z => absurd (Int.le_refl _) z⟩
  · intro v v0 v1 ih M' g1 g0 ok g2 g3
    obtain ⟨V, rfl⟩ := Int.eq_ofNat_of_zero_le v0
    rw [Int.toNat_natCast] at ok g2 g3
    rw [show (((V : Nat) : Int) + 1).toNat = V + 1 by omega] at ih
    have hu := bdF_V V (by omega) ok
    apply k_Model_build_20 hG
    rw [(repD hR1 g1) 91 23 rfl, hv.2.2]
    refine ⟨fun z => absurd z (by omega), fun _ => ?_⟩
    refine es_up (P := fun pl => ∀ M2, offD M1 M2 → M2 127 = M1 127 → (∀ i, 0 ≤ i → i < (V : Int) → M2 130 i = (bdF T V).2 i / 2 ∧ M2 131 i = (bdF T V).2 i % 2) → RM 1000000 ((V : Int) + 1) (bdV T (bdF T V).2 V pl.toNat) M2 → G 37 [lr 91, li (V : Int), li pl, none, none, none] [] M2) (n := (V : Int) + 1) (by omega) ?_ ?_ _ ⟨fun c c1 c2 c3 c4 c5 c6 c7 c8 => by rw [es_upd_o c c1]; exact g1.1 c c1 c2 c3 c4 c5 c6 c7 c8, fun j hj => by rw [es_upd_j hj]; exact g1.2 j hj⟩ (by rw [es_upd_o 127 (by decide)]; exact g0) (fun i i0 i1 => by rw [es_upd_n (by decide), es_upd_n (by decide)]; exact g2 i i0 i1) ⟨es_upd_s, Int.le_refl _, fun z => absurd (show (1000000 : Int) < 1000000 from z) (by decide)⟩
    · intro M2 e1 e0 e2 e3
      rw [show (((V : Nat) : Int) + 1).toNat = V + 1 by omega] at e3
      have er : RM 1000000 ((V : Int) + 1) (bdF T (V + 1)) M2 := e3
      apply k_Model_build_37 hG
      rw [er.1]
      refine ⟨fun _ => ⟨fun z => ?_, fun z => hno M2 V v1 ok z (ot e1)⟩, fun z => absurd (by omega) z⟩
      refine es_up (P := fun k => ∀ M3, offD M1 M3 → M3 127 = M1 127 → M3 132 = M2 132 → M3 133 = M2 133 → M3 91 = M2 91 → (∀ i, 0 ≤ i → i < k → M3 130 i = (bdF T (V + 1)).2 i / 2 ∧ M3 131 i = (bdF T (V + 1)).2 i % 2) → G 190 [lr 91, li (V : Int), li k, none, none, none] [] M3) (n := (V : Int) + 1) (by omega) ?_ ?_ M2 e1 e0 rfl rfl rfl (fun i i0 i1 => absurd i1 (by omega))
      · intro M3 a1 a0 a2 a3 a4 a5
        apply k_Model_build_190 hG
        rw [w32_1 (k := (V : Int)) (by omega) (by omega)]
        refine ⟨fun _ => ih M3 a1 a0 (fun k hk => ?_) a5 (fun _ => by rw [a4]; exact er.1), fun w => absurd (by omega) w⟩
        by_cases e : k = V
        · subst e; exact z
        · exact ok k (by omega)
      · intro k k0 k1 ih3 M3 a1 a0 a2 a3 a4 a5
        apply k_Model_build_190 hG
        have m := er.2.2 z k k0 k1
        rw [es_upd_n (c := 130) (c' := 133) (by decide), a2, a3, m.1, m.2, w32_1 (k := k) (by omega) (by omega)]
        refine ⟨fun w => absurd w (by omega), fun _ => ⟨by omega, by omega, by omega, by omega, by omega, ih3 _ ((a1.upd (by omega)).upd (by omega)) (by rw [es_upd_o 127 (by decide), es_upd_o 127 (by decide)]; exact a0) (by rw [es_upd_o 132 (by decide), es_upd_o 132 (by decide)]; exact a2) (by rw [es_upd_o 133 (by decide), es_upd_o 133 (by decide)]; exact a3) (by rw [es_upd_o 91 (by decide), es_upd_o 91 (by decide)]; exact a4) (fun i i0 i1 => ?_)⟩⟩
        by_cases e : i = k
        · subst e
          rw [es_upd_n (by decide), es_upd_s, es_upd_s]
          exact ⟨rfl, rfl⟩
        · rw [es_upd_n (by decide), es_upd_j e, es_upd_j e, es_upd_n (by decide)]
          exact a5 i i0 (by omega)
    · intro pl p0 p1 ih2 M2 e1 e0 e2 e3
      apply k_Model_build_37 hG
      refine ⟨fun w => absurd w (by omega), fun _ => ?_⟩
      apply k_Model_build_44 hG
      refine ⟨fun w => absurd w (by decide), fun _ => ?_⟩
      refine s_m_tryAt hT hG hR1 (by omega) v1 p0 (by omega) (Or.inl rfl) hu e1 e0 f2 e2 e3 (fun M3 a1 a2 a3 a4 a5 => ?_)
      apply k_Model_build_44 hG
      refine ⟨fun w => absurd w (by decide), fun _ => ?_⟩
      refine s_m_tryAt hT hG hR1 (by omega) v1 p0 (by omega) (Or.inr rfl) hu a1 a2 f2 (by rw [a3, a4]; exact e2) a5 (fun M4 b1 b2 b3 b4 b5 => ?_)
      apply k_Model_build_44 hG
      rw [w32_1 (k := pl) (by omega) (by omega)]
      refine ⟨fun _ => ih2 M4 b1 b2 (by rw [b3, b4, a3, a4]; exact e2) ?_, fun w => absurd (by decide) w⟩
      unfold bdV
      rw [itJ_s _ p0, show ((pl.toNat : Nat) : Int) = pl by omega]
      rw [show 2 * (V : Int) + 0 = 2 * (V : Int) by omega] at b5
      exact b5
end
