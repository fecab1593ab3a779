/-! TOURS (4): all of them -/
theorem shl_v {v : Int} (v0 : 0 ≤ v) (v1 : v < 31) : es_shl 1 v = wth 0 v := by
  rw [ei_shl v0 v1]
  unfold wth
  rw [show (0 : Int).toNat = 0 from rfl, Nat.zero_or]
  simp
theorem tr_0 {T : es_M} {a D k : Int} {l : List Int} (h : fs T 0 (l ++ [k]) D) : tr T a D (pc T a 36 (l ++ [k]) + exF T a (poF T k)) := ⟨l ++ [k], h, by rw [pl_last]⟩
/-- the tours are right -/
def toursOK (T : es_M) (a : Int) (M : es_M) : Prop := ∀ D, 0 ≤ D → D ≤ allF T → M 71 D = rmF T a a D 36 0
section
variable {d : Nat} {Q : Int → es_M → Prop} {T M : es_M}
theorem tour_loop {G : Nat → es_L → List AV → es_M → Prop} (hT : TI T) (hG : es_Cl cd_Walks_tourAll st_Walks_tourAll none (d + 6) Q G) {a : Int} (hR : RepC T M) (hP : prepOK T a M) (hB : behOK T M) (hI : ∀ E k, 0 ≤ E → E ≤ allF T → isK T k → (0 ≤ M 66 (E * 20 + k) ∧ M 66 (E * 20 + k) ≤ 1000000) ∧ (M 66 (E * 20 + k) < 1000000 → tq T a E k (M 66 (E * 20 + k))) ∧ (fs T 0 [k] E → M 66 (E * 20 + k) ≤ pc T a 36 [k])) (h0 : M 71 0 = 0) (h : ∀ M', offT M M' → toursOK T a M' → Q 0 M') : G 161 [lr 67, none, li (allF T), li 1, none] [] M := by
  have ha := hT.all
  have hv := hT.v
  have t0 : ∀ M' : es_M, M' 71 0 = 0 → M' 71 0 = rmF T a a 0 36 0 := fun M' e => by rw [e, rm_a hT (c := a) (g := a) (Or.inl rfl) (if_pos rfl)]
  refine es_upl (P := fun D => ∀ M', offT M M' → tabF T a D 0 M' → M' 71 0 = 0 → (∀ E, 0 < E → E < D → M' 71 E = rmF T a a E 36 0) → G 161 [lr 67, none, li (allF T), li D, none] [] M') (lo := 1) (n := allF T + 1) (by omega) ?_ ?_ M (fun _ _ _ => rfl) ?_ h0 (fun E E0 E1 => absurd E1 (by omega))
  · intro M' f1 f2 f3 f4
    apply k_Walks_tourAll_161 hG
    refine ⟨fun _ => h M' f1 (fun D D0 D1 => ?_), fun z => absurd (by omega) z⟩
    by_cases e : D = 0
    · rw [e]; exact t0 M' f3
    · exact f4 D (by omega) (by omega)
  · intro D D0 D1 ih M' f1 f2 f3 f4
    apply k_Walks_tourAll_161 hG
    refine ⟨fun z => absurd z (by omega), fun _ => ⟨by omega, ?_⟩⟩
    refine es_up (P := fun k => ∀ M2, offT M M2 → tabF T a D k M2 → M2 71 0 = 0 → (∀ E, 0 < E → E < D → M2 71 E = rmF T a a E 36 0) → (0 ≤ M2 71 D ∧ M2 71 D ≤ 1000000) → (M2 71 D < 1000000 → tr T a D (M2 71 D)) → (∀ l j, j < k → fs T 0 (l ++ [j]) D → M2 71 D ≤ pc T a 36 (l ++ [j]) + exF T a (poF T j)) → G 177 [lr 67, none, li (allF T), li D, li k] [] M2) (n := 2 * T 1 1) (by omega) ?_ ?_ _ (fun c c1 c2 => by rw [es_upd_o c c2]; exact f1 c c1 c2) ?_ (by rw [es_upd_j (by omega)]; exact f3) (fun E E0 E1 => by rw [es_upd_j (by omega)]; exact f4 E E0 E1) (by rw [es_upd_s]; decide) (fun z => by rw [es_upd_s] at z; exact absurd z (by decide)) (fun l j hj hf => ?_)
    · intro M2 g1 g2 g3 g4 g5 g6 g7
      apply k_Walks_tourAll_177 hG
      have e9 : M2 67 9 = 2 * T 1 1 := by rw [g1 67 (by decide) (by decide)]; exact hP.2.1
      rw [e9, w32_1 (k := D) (by omega) (by omega)]
      refine ⟨fun _ => ih M2 g1 ?_ g3 (fun E E0 E1 => ?_), fun z => absurd (Int.le_refl _) z⟩
      · intro E k E0 E1 hk
        obtain ⟨q1, q2, q3⟩ := g2 E k E0 E1 hk
        refine ⟨q1, q2, fun l hl sn => q3 l hl ?_⟩
        rcases sn with e | ⟨r, k', D', e1, e2, e3⟩
        · exact Or.inl e
        · have e4 := e2
          rw [e1] at e4
          obtain ⟨Dx, -, nx, -⟩ := fs_last.mp e4
          have nk := nx.1.1
          refine Or.inr ⟨r, k', D', e1, e2, ?_⟩
          by_cases c : D' < D
          · exact Or.inl c
          · exact Or.inr ⟨by omega, nx.1.2⟩
      · by_cases e : E = D
        · subst e
          refine isMin.uniq ⟨g5.2, ?_, g6⟩ (rm_tour hT E0 (by omega))
          rintro x ⟨l, l1, l2⟩
          by_cases e2 : l = []
          · subst e2
            have : (0 : Int) = E := l1
            omega
          · obtain ⟨r, j, hj⟩ := snoc l e2
            subst hj
            obtain ⟨Dx, -, nx, -⟩ := fs_last.mp l1
            rw [← l2, pl_last]
            exact g7 r j nx.1.2 l1
        · exact g4 E E0 (by omega)
    · intro k k0 k1 ih2 M2 g1 g2 g3 g4 g5 g6 g7
      have hk : isK T k := ⟨k0, k1⟩
      apply k_Walks_tourAll_177 hG
      obtain ⟨x1, x2, x3⟩ := w20480 (a := D) (b := k) (by omega) (by omega)
      have e9 : M2 67 9 = 2 * T 1 1 := by rw [g1 67 (by decide) (by decide)]; exact hP.2.1
      rw [e9, x1, w32_1 (k := k) (by omega) (by omega)]
      have row := tab_row hT g2 k0 (by omega) (by omega) hk
      have kp := poF_r hT k0 k1
      have hp : isP T (poF T k) := ⟨kp.1, kp.2.1⟩
      have exr : 0 ≤ exF T a (poF T k) ∧ exF T a (poF T k) ≤ 1000000 := by
        rw [exF_rm hT (W := 0) hp (by decide)]; exact rm_r hT (Or.inr hp)
      refine ⟨fun z => absurd z (by omega), fun _ => ⟨⟨x2, x3⟩, fun z => ih2 M2 g1 ?_ g3 g4 g5 g6 (fun l j hj hf => ?_), fun z => ?_⟩⟩
      · -- nothing comes from where nothing is
        intro E j E0 E1 hj
        obtain ⟨q1, q2, q3⟩ := g2 E j E0 E1 hj
        refine ⟨q1, q2, fun l hl sn => ?_⟩
        by_cases sn' : seen T D k l
        · exact q3 l hl sn'
        · have : ∃ r, l = r ++ [k] ∧ fs T 0 l D := by
            rcases sn with e | ⟨r, k', D', e1, e2, e3⟩
            · exact absurd (Or.inl e) sn'
            · rcases e3 with e3 | ⟨e3, e4⟩
              · exact absurd (Or.inr ⟨r, k', D', e1, e2, Or.inl e3⟩) sn'
              · by_cases e5 : k' = k
                · exact ⟨r, by rw [e1, e5], by rw [← e3]; exact e2⟩
                · exact absurd (Or.inr ⟨r, k', D', e1, e2, Or.inr ⟨e3, by omega⟩⟩) sn'
          obtain ⟨r, r1, r2⟩ := this
          have low := row.2.1 (pc T a 36 l) ⟨r, by rw [← r1]; exact r2, by rw [← r1]⟩
          have jp := poF_r hT hj.1 hj.2
          have dr := ds_r hT (a := a) (p := poF T k) (q := poF T j) (Or.inr hp)
          rw [pc_last, r1, pl_last, ← r1]
          omega
      · by_cases e : j = k
        · subst e
          have low := row.2.1 _ ⟨l, hf, rfl⟩
          omega
        · exact g7 l j (by omega) hf
      · have hlt : M2 66 (D * 20 + k) < 1000000 := by omega
        have hP2 : prepOK T a M2 := by
          obtain ⟨a1, a2, a3, a4, a5⟩ := hP
          exact ⟨by rw [g1 67 (by decide) (by decide)]; exact a1, by rw [g1 67 (by decide) (by decide)]; exact a2, by rw [g1 68 (by decide) (by decide)]; exact a3, by rw [g1 69 (by decide) (by decide)]; exact a4, by rw [g1 61 (by decide) (by decide)]; exact a5⟩
        have hB2 : behOK T M2 := by unfold behOK; rw [g1 70 (by decide) (by decide)]; exact hB
        have hR2 : RepC T M2 := by
          intro c j q
          rw [g1 c (by rintro rfl; cases q) (by rintro rfl; cases q)]; exact hR _ _ q
        refine s_tourOn hT hR2 hP2 hB2 (by omega) (by omega) hk g2 hlt g5 (fun M3 b1 b2 b3 b4 b5 => ih2 M3 (fun c c1 c2 => by rw [b1 c c1 c2]; exact g1 c c1 c2) b2 (by rw [b3 0 (by omega)]; exact g3) (fun E E0 E1 => by rw [b3 E (by omega)]; exact g4 E E0 E1) ?_ ?_ (fun l j hj hf => ?_))
        · rw [b4]
          have := row.2.2 hlt
          have nn := (g2 D k (by omega) (by omega) hk).1
          omega
        · intro lt
          rw [b4] at lt ⊢
          by_cases q : M2 71 D ≤ M2 66 (D * 20 + k) + exF T a (poF T k)
          · rw [show min (M2 71 D) (M2 66 (D * 20 + k) + exF T a (poF T k)) = M2 71 D by omega] at lt ⊢
            exact g6 lt
          · rw [show min (M2 71 D) (M2 66 (D * 20 + k) + exF T a (poF T k)) = M2 66 (D * 20 + k) + exF T a (poF T k) by omega]
            obtain ⟨l, l1, l2⟩ := row.2.2 hlt
            rw [← l2]; exact tr_0 l1
        · rw [b4]
          by_cases e : j = k
          · subst e
            have low := row.2.1 _ ⟨l, hf, rfl⟩
            omega
          · have := g7 l j (by omega) hf
            omega
    · intro E j E0 E1 hj
      rw [es_upd_n (by decide)]; exact f2 E j E0 E1 hj
    · obtain ⟨Dx, -, nx, -⟩ := fs_last.mp hf
      have := nx.1.1
      omega
  · intro E k E0 E1 hk
    obtain ⟨q1, q2, q3⟩ := hI E k E0 E1 hk
    refine ⟨q1, q2, fun l hl sn => ?_⟩
    rcases sn with e | ⟨r, k', D', e1, e2, e3⟩
    · subst e; exact q3 hl
    · exfalso
      rw [e1] at e2
      obtain ⟨Dx, x1, nx, x3⟩ := fs_last.mp e2
      have n0 := fs_nn r 0 Dx (by decide) x1
      have gt := wth_gt n0 nx.2.2.1
      rcases e3 with e3 | ⟨e3, e4⟩
      · omega
      · have := nx.1.1
        omega
end
