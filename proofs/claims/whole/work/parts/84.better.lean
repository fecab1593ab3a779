/-! PAIRS OF CALLS: better (4). The model -/
section
variable {d : Nat} {Q : Int → es_M → Prop} {T M : es_M}
abbrev offE (M M' : es_M) : Prop := (∀ c, c ≠ 91 → c ≠ 128 → c ≠ 129 → c ≠ 132 → c ≠ 133 → M' c = M c) ∧ ∀ j, j ≠ 57 → M' 91 j = M 91 j
theorem repE {M' : es_M} (hR : RepM T M) (h : offE M M') : RepM T M' := by
  intro c j q
  by_cases e : c = 91
  · subst e
    rw [h.2 j (by rintro rfl; cases q)]; exact hR _ _ q
  · rw [h.1 c e ?_ ?_ ?_ ?_]
    · exact hR _ _ q
    all_goals (rintro rfl; cases q)
theorem offE.rf : offE M M := ⟨fun _ _ _ _ _ _ => rfl, fun _ _ => rfl⟩
theorem offE.tr {M1 M2 : es_M} (h : offE M M1) (g : ∀ c, c ≠ 128 → c ≠ 129 → M2 c = M1 c) : offE M M2 := ⟨fun c c1 c2 c3 c4 c5 => by rw [g c c2 c3]; exact h.1 c c1 c2 c3 c4 c5, fun j hj => by rw [g 91 (by decide) (by decide)]; exact h.2 j hj⟩
theorem RM.off {b n : Int} {s : SS} {M' : es_M} (h : RM b n s M) (g : ∀ c, c ≠ 128 → c ≠ 129 → M' c = M c) : RM b n s M' := by unfold RM at h ⊢; rw [g 91 (by decide) (by decide), g 132 (by decide) (by decide), g 133 (by decide) (by decide)]; exact h
theorem s_m_tr (hT : TI T) (hR : RepM T M) {M0 : es_M} (hL : ∀ p q, isP T p → isP T q → goes T p → M0 127 (p * 36 + q) = wyF T p q) {t : Int → Int} {b : Int} {s : SS} (n0 : 0 < T 14 2) (ht : Val T (T 14 2) t) (e0 : offE M0 M) (hM : ∀ i, 0 ≤ i → i < T 14 2 → M 128 i = t i / 2 ∧ M 129 i = t i % 2) (hr : RM b (T 14 2) s M) (h : ∀ M', offE M0 M' → RM b (T 14 2) (cns T (T 14 2) t s) M' → Q 0 M') : es_Call (d + 5) 259 [.inr (.inr 91), .inl (T 14 2)] M Q :=
  s_m_tries hT hR (fun p q hp hq g => by rw [e0.1 127 (by decide) (by decide) (by decide) (by decide) (by decide)]; exact hL p q hp hq g) n0 (by have := hT.on; omega) ht.cd hM hr (fun M' g1 g2 g3 => h M' ⟨fun c c1 c2 c3 c4 c5 => by rw [g1 c c1 c4 c5]; exact e0.1 c c1 c2 c3 c4 c5, fun j hj => by rw [g2 j hj]; exact e0.2 j hj⟩ g3)
theorem s_m_asItIs (hT : TI T) (hR : RepM T M) (h : ∀ M', (∀ c, c ≠ 128 → c ≠ 129 → M' c = M c) → (∀ i, 0 ≤ i → i < T 14 2 → M' 128 i = T 17 i / 2 ∧ M' 129 i = T 17 i % 2) → Q 0 M') : es_Call (d + 1) 262 [.inr (.inr 91)] M Q := by
  apply m_Model_asItIs
  intro G hG
  apply k_Model_asItIs_0 hG
  have hn := hT.on
  refine es_up (P := fun k => ∀ M', (∀ c, c ≠ 128 → c ≠ 129 → M' c = M c) → (∀ i, 0 ≤ i → i < k → M' 128 i = T 17 i / 2 ∧ M' 129 i = T 17 i % 2) → G 2 [lr 91, li k] [] M') (n := T 14 2) (by omega) ?_ ?_ M (fun _ _ _ => rfl) (fun i i0 i1 => absurd i1 (by omega))
  · intro M' f1 f2
    apply k_Model_asItIs_2 hG
    rw [f1 91 (by decide) (by decide), hR 91 47 rfl, hn.2.2]
    exact ⟨fun _ => h M' f1 f2, fun z => absurd (Int.le_refl _) z⟩
  · intro k k0 k1 ih M' f1 f2
    apply k_Model_asItIs_2 hG
    have m := hT.or k0 k1
    rw [es_upd_n (c := 128) (c' := 126) (by decide), f1 91 (by decide) (by decide), f1 125 (by decide) (by decide), f1 126 (by decide) (by decide), hR 91 47 rfl, hR 125 _ rfl, hR 126 _ rfl, hn.2.2, m.2.1, m.2.2.1, w32_1 (by omega) (by omega)]
    refine ⟨fun z => absurd z (by omega), fun _ => ⟨by omega, by omega, by omega, by omega, by omega, ih _ (fun c c1 c2 => by rw [es_upd_o c c2, es_upd_o c c1]; exact f1 c c1 c2) (fun i i0 i1 => ?_)⟩⟩
    by_cases e : i = k
    · subst e
      rw [es_upd_n (by decide), es_upd_s, es_upd_s]
      exact ⟨rfl, rfl⟩
    · rw [es_upd_n (by decide), es_upd_j e, es_upd_j e, es_upd_n (by decide)]
      exact f2 i i0 (by omega)
theorem s_m_swaps (hT : TI T) (hR : RepM T M) (hL : ∀ p q, isP T p → isP T q → goes T p → M 127 (p * 36 + q) = wyF T p q) {b : Int} {s : SS} (n0 : 0 < T 14 2) (hr : RM b (T 14 2) s M) (h : ∀ M', offE M M' → RM b (T 14 2) (swA T (T 14 2) (T 17) s) M' → Q 0 M') : es_Call (d + 6) 261 [.inr (.inr 91)] M Q := by
  apply m_Model_swaps
  intro G hG
  apply k_Model_swaps_0 hG
  have hn := hT.on
  have hV := hT.val
  refine es_up (P := fun i => ∀ M', offE M M' → RM b (T 14 2) (itJ (fun i => itJ (swF T (T 14 2) (T 17) i) (T 14 2).toNat) i.toNat s) M' → G 2 [lr 91, li i, none] [] M') (n := T 14 2) (by omega) ?_ ?_ M offE.rf hr
  · intro M' f1 f2
    apply k_Model_swaps_2 hG
    rw [(repE hR f1) 91 47 rfl, hn.2.2]
    exact ⟨fun _ => h M' f1 f2, fun z => absurd (Int.le_refl _) z⟩
  · intro i i0 i1 ih M' f1 f2
    apply k_Model_swaps_2 hG
    rw [(repE hR f1) 91 47 rfl, hn.2.2, w32_1 (by omega) (by omega)]
    refine ⟨fun z => absurd z (by omega), fun _ => ?_⟩
    rw [itJ_s _ i0] at ih
    refine es_upl (P := fun j => ∀ M', offE M M' → RM b (T 14 2) (itJ (swF T (T 14 2) (T 17) i.toNat) j.toNat (itJ (fun i => itJ (swF T (T 14 2) (T 17) i) (T 14 2).toNat) i.toNat s)) M' → G 14 [lr 91, li i, li j] [] M') (lo := i + 1) (n := T 14 2) (by omega) ?_ ?_ M' f1 ?_
    · intro M' f1 f2
      apply k_Model_swaps_14 hG
      rw [(repE hR f1) 91 47 rfl, hn.2.2, w32_1 (k := i) (by omega) (by omega)]
      exact ⟨fun _ => ih M' f1 f2, fun z => absurd (Int.le_refl _) z⟩
    · intro j j0 j1 ih2 M' f1 f2
      apply k_Model_swaps_14 hG
      have hR' := repE hR f1
      rw [hR' 91 47 rfl, hn.2.2, w32_1 (k := j) (by omega) (by omega)]
      refine ⟨fun z => absurd z (by omega), fun _ => s_m_asItIs hT hR' (fun M1 g1 g2 => ?_)⟩
      have mi := hT.or i0 i1
      have mj := hT.or (i := j) (by omega) j1
      have e125 : ∀ x, M1 125 x = T 125 x := fun x => by rw [g1 125 (by decide) (by decide), hR' 125 _ rfl]
      have e126 : ∀ x, M1 126 x = T 126 x := fun x => by rw [g1 126 (by decide) (by decide), hR' 126 _ rfl]
      have e47 : M1 91 47 = T 14 2 := by rw [g1 91 (by decide) (by decide), hR' 91 47 rfl, hn.2.2]
      rw [es_upd_n (c := 128) (c' := 126) (by decide), e126, e125, mj.2.1, mj.2.2.1]
      rw [es_upd_n (c := 129) (c' := 125) (by decide), es_upd_n (c := 128) (c' := 125) (by decide), e125, mi.2.1]
      rw [es_upd_n (c := 128) (c' := 126) (by decide), es_upd_n (c := 129) (c' := 126) (by decide), es_upd_n (c := 128) (c' := 126) (by decide), e126, mi.2.2.1]
      rw [es_upd_n (c := 129) (c' := 91) (by decide), es_upd_n (c := 128) (c' := 91) (by decide), es_upd_n (c := 129) (c' := 91) (by decide), es_upd_n (c := 128) (c' := 91) (by decide), e47]
      refine ⟨by omega, by omega, by omega, by omega, by omega, by omega, by omega, by omega, by omega, by omega, ?_⟩
      have fr : ∀ c, c ≠ 128 → c ≠ 129 → es_upd (es_upd (es_upd (es_upd M1 128 i (T 17 j / 2)) 129 i (T 17 j % 2)) 128 j (T 17 i / 2)) 129 j (T 17 i % 2) c = M' c := fun c c1 c2 => by rw [es_upd_o c c2, es_upd_o c c1, es_upd_o c c2, es_upd_o c c1]; exact g1 c c1 c2
      refine s_m_tr (M0 := M) (t := swp (T 17) i j) hT (repE hR (f1.tr fr)) hL n0 (swp_V hV i0 i1 (by omega) j1) (f1.tr fr) (fun k k0 k1 => ?_) (f2.off fr) (fun M2 x1 x2 => ih2 M2 x1 ?_)
      · unfold swp
        have := g2 k k0 k1
        by_cases e : k = j
        · subst e
          rw [if_pos rfl, es_upd_n (by decide), es_upd_s, es_upd_s]; exact ⟨rfl, rfl⟩
        · rw [if_neg e, es_upd_n (by decide), es_upd_j e, es_upd_j e, es_upd_n (c := 129) (by decide), es_upd_n (c := 128) (c' := 129) (by decide)]
          by_cases e2 : k = i
          · subst e2
            rw [if_pos rfl, es_upd_s, es_upd_s]; exact ⟨rfl, rfl⟩
          · rw [if_neg e2, es_upd_j e2, es_upd_j e2, es_upd_n (c := 128) (c' := 129) (by decide)]; exact this
      · rw [itJ_s _ (by omega), swF_y i0 (by omega)]
        exact x2
    · rw [itJ_id _ (fun k hk s => by unfold swF; rw [if_neg (by omega)])]
      exact f2
end
