/-! THE LAW (6): row(i) in the law -/
theorem Inv.out {M : es_M} (h : Inv M) {v : Int} : Inv (es_upd M 139 0 v) := h.same ((Rep.rf M).upd rfl) (es_upd_o _ (by decide)) (es_upd_o _ (by decide)) (es_upd_n (by decide)) (es_upd_o _ (by decide)) (es_upd_o _ (by decide)) (es_upd_o _ (by decide)) (es_upd_n (by decide)) (es_upd_o _ (by decide))
theorem es_lcmp_0 (x : Int) : es_lcmp x x = 0 := by unfold es_lcmp; rw [if_neg (by omega), if_pos rfl]
theorem law_1507 {sl i : Int} {Q : Int → es_M → Prop} {G : Nat → es_L → List AV → es_M → Prop} {M : es_M} (hG : es_ClS sl 40 Q G) (hI : Inv M) {v : Int} (h140 : M 140 (w32 (i + 1)) = v) (r1 : 0 ≤ w32 (i + 1) ∧ w32 (i + 1) < sl)
    (next : ∀ M', M' 140 = M 140 → Inv M' → G 1552 [lr 140, lr 0, lr 91, lr 139, li i, none, none] [] M') {y : Int} {M' : es_M} (h : ((0 ≤ v ∧ v < M 58 1) ∧ y = 0 ∧ M' = es_upd M 139 0 (M 59 v)) ∨ (¬ (0 ≤ v ∧ v < M 58 1) ∧ y = 1 ∧ M' = M)) : G 1507 [lr 140, lr 0, lr 91, lr 139, li i, none, none] [.inl y] M' := by
  obtain ⟨⟨e1, e2, e3⟩, e4⟩ := hI.2.1
  have key : M' 140 (w32 (i + 1)) = v ∧ M' 140 = M 140 ∧ Inv M' ∧ M' 91 1 = M 58 1 ∧ (0 ≤ v ∧ v < M 58 1 → M' 92 v = M 59 v) := by
    rcases h with ⟨hv, rfl, rfl⟩ | ⟨hn, rfl, rfl⟩
    · have f : es_upd M 139 0 (M 59 v) 140 = M 140 := es_upd_o _ (by decide)
      exact ⟨by rw [f]; exact h140, f, hI.out, by rw [es_upd_n (by decide)]; exact e1, fun z => by rw [es_upd_n (by decide)]; exact e4 v z.1 z.2⟩
    · exact ⟨h140, rfl, hI, e1, fun z => e4 v z.1 z.2⟩
  obtain ⟨k1, k2, k3, k4, k5⟩ := key
  refine k_Law_1507 hG ⟨r1, ?_⟩
  rw [k1]
  apply c_Model_row
  have e5 : w32 (((es_upd M' 91 0 0) 91 1) - 1) = M 58 1 - 1 := by
    rw [es_upd_j (by decide), k4, w32_s (by omega) (by omega)]
  rw [e5]
  refine s_m_in (fun z0 z1 => ?_) (fun z => ?_)
  · have hv : 0 ≤ v ∧ v < M 58 1 := ⟨z0, by omega⟩
    rcases h with ⟨-, rfl, rfl⟩ | ⟨hn, -, -⟩
    · refine ⟨fun z => absurd z (by decide), fun _ => ⟨⟨z0, by omega⟩, c_Model_thrown ?_⟩⟩
      have e6 : es_upd (es_upd M 139 0 (M 59 v)) 91 0 0 91 0 = 0 := es_upd_s
      have e7 : es_upd (es_upd M 139 0 (M 59 v)) 91 0 0 92 v = M 59 v := by rw [es_upd_n (by decide)]; exact k5 hv
      have e8 : es_upd (es_upd M 139 0 (M 59 v)) 91 0 0 139 0 = M 59 v := by rw [es_upd_n (by decide)]; exact es_upd_s
      rw [e6, e7, e8, es_lcmp_0]
      exact ⟨fun _ => ⟨fun z => absurd rfl z, fun _ => ⟨⟨by decide, by decide⟩, fun _ => next _ ((es_upd_o _ (by decide)).trans k2) k3.th, fun z => absurd rfl z⟩⟩, fun z => absurd rfl z⟩
    · exact absurd hv hn
  · have hv : ¬ (0 ≤ v ∧ v < M 58 1) := fun q => z ⟨q.1, by omega⟩
    rcases h with ⟨hn, -, -⟩ | ⟨-, rfl, rfl⟩
    · exact absurd hn hv
    · refine ⟨fun _ => c_Model_refuse (c_Model_thrown ?_), fun z => absurd rfl z⟩
      have e6 : es_upd (es_upd M' 91 0 0) 91 0 1 91 0 = 1 := es_upd_s
      rw [e6]
      exact ⟨fun _ => ⟨fun _ => next _ ((es_upd_o _ (by decide)).trans ((es_upd_o _ (by decide)).trans k2)) k3.th.th, fun z => absurd z (by decide)⟩, fun z => absurd rfl z⟩
