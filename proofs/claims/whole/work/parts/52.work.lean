/-! PAIRS OF CALLS: add, busy -/
section
variable {d : Nat} {Q : Int → es_M → Prop} {T M : es_M}
theorem TI.on (h : TI T) : 0 ≤ T 14 2 ∧ T 14 2 ≤ 10 ∧ T 91 47 = T 14 2 := by have := h.S.1.2.1; exact this
theorem TI.or (h : TI T) {i : Int} (h0 : 0 ≤ i) (h1 : i < T 14 2) : (0 ≤ T 17 i ∧ T 17 i < 2 * T 1 1) ∧ T 125 i = T 17 i / 2 ∧ T 126 i = T 17 i % 2 ∧ canDo T (T 17 i) := by have := h.S.2.2.2.2.1.1 i h0 h1; exact this
theorem TI.oi (h : TI T) {i j : Int} (i0 : 0 ≤ i) (i1 : i < T 14 2) (j0 : 0 ≤ j) (j1 : j < T 14 2) (e : T 17 i / 2 = T 17 j / 2) : i = j := by have := h.S.2.2.2.2.1.2 i j i0 i1 j0 j1 e; exact this
theorem s_holds (hT : TI T) (hR : RepC T M) {v : Int} (hy : ∀ i, 0 ≤ i → i < T 14 2 → T 17 i / 2 = v → Q 1 M) (hn : (∀ i, 0 ≤ i → i < T 14 2 → ¬ T 17 i / 2 = v) → Q 0 M) : es_Call (d + 1) 148 [.inr (.inr 84), .inl v] M Q := by
  apply m_Orders_holds
  intro G hG
  apply k_Orders_holds_0 hG
  have ho := hT.on
  have hv := hT.v
  have key : ∀ (r : Nat) (k : Int), 0 ≤ k → k + r = T 14 2 → (∀ i, 0 ≤ i → i < k → ¬ T 17 i / 2 = v) → G 2 [lr 84, li v, li k] [] M := by
    intro r
    induction r with
    | zero =>
      intro k k0 kr hno
      apply k_Orders_holds_2 hG
      rw [hR 14 2 rfl]
      exact ⟨fun _ => ⟨es_b0, hn (fun i i0 i1 => hno i i0 (by omega))⟩, fun z => absurd (by omega) z⟩
    | succ r ih =>
      intro k k0 kr hno
      apply k_Orders_holds_2 hG
      have h1 := hT.or k0 (by omega)
      rw [hR 14 2 rfl, hR 17 _ rfl, ei_shr1 h1.1.1 (by omega), show w32 (k + 1) = k + 1 from by unfold w32; omega]
      refine ⟨fun z => absurd z (by omega), fun _ => ⟨by omega, fun z => ih (k + 1) (by omega) (by omega) (fun i i0 i1 => ?_), fun z => ⟨es_b1, hy k k0 (by omega) z⟩⟩⟩
      by_cases e : i = k
      · subst e; exact z
      · exact hno i i0 (by omega)
  exact key (T 14 2).toNat 0 (by omega) (by omega) (fun i i0 i1 => by omega)
theorem s_m_canBe (hT : TI T) (hR : RepM T M) {v b : Int} (v0 : 0 ≤ v) (v1 : v < T 1 1) (hb : b = 0 ∨ b = 1) (hy : canDo T (2 * v + b) → Q 1 M) (hn : ¬ canDo T (2 * v + b) → Q 0 M) : es_Call (d + 2) 253 [.inr (.inr 91), .inl v, .inl b] M Q := by
  apply c_Model_canBe
  have hv := hT.v
  have hnn := hT.n
  have hs := hT.sr v0 v1
  have hm := hT.mv v0 v1
  obtain ⟨p0, p1, p2, p3, p4⟩ := poF_r hT (k := 2 * v + b) (by omega) (by omega)
  have ep : poF T (2 * v + b) = 2 * T 10 v + b := by unfold poF; rw [show (2 * v + b) / 2 = v by omega]; omega
  have hps := hT.ps p0 p1
  have go : ∀ y, y = b → ((0 ≤ w32 (w32 (2 * M 106 v) + y) ∧ w32 (w32 (2 * M 106 v) + y) < 72) ∧ (M 95 (w32 (w32 (2 * M 106 v) + y)) ≤ 0 → ((0 : Int) = 0 ∨ (0 : Int) = 1) ∧ Q 0 M) ∧ (¬ M 95 (w32 (w32 (2 * M 106 v) + y)) ≤ 0 → es_Call (d + 1) 202 [.inr (.inr 91), .inl v, .inl (w32 (w32 (2 * M 106 v) + y))] M (fun y4 M3 => (y4 = 0 → ((0 : Int) = 0 ∨ (0 : Int) = 1) ∧ Q 0 M3) ∧ (¬ y4 = 0 → ((1 : Int) = 0 ∨ (1 : Int) = 1) ∧ Q 1 M3)))) := by
    intro y hy2
    subst hy2
    rw [hR 106 _ rfl, hm.1, show w32 (w32 (2 * T 10 v) + y) = poF T (2 * v + y) from by rw [ep]; unfold w32; omega, hR 95 _ rfl, hps.2.2.2.2]
    have e1 : (2 * v + y) / 2 = v := by omega
    have cd : canDo T (2 * v + y) ↔ (T 13 (poF T (2 * v + y)) = v ∧ ¬ ln T (poF T (2 * v + y)) = -1) := by
      unfold canDo poF; rw [e1]
    refine ⟨by omega, fun z => ⟨es_b0, hn (fun w => (cd.mp w).2 (by omega))⟩, fun z => s_m_isDoneBy hT hR v0 v1 p0 (by omega) (fun w => es_t1 ⟨es_b1, hy (cd.mpr ⟨hT.dn2 v0 v1 p0 w, by omega⟩)⟩) (fun w => es_t0 ⟨es_b0, hn (fun u => w ?_)⟩)⟩
    have u := (cd.mp u).1
    have := hT.dn p0 p2
    rw [u] at this
    exact (this.resolve_left (by omega)).2.2
  refine ⟨by omega, s_m_truth (fun z => go 1 (by omega)) (fun z => go 0 (by omega))⟩
theorem P_add (h : Inv M) {v b : Int} (hb : b = 0 ∨ b = 1) : Pair (d + 20) 36 252 [.inl v, .inl b] M := by
  have hT := h.1
  have ho := hT.on
  have hv := hT.v
  apply c_EveryStreet_add
  have no : (¬ (0 ≤ v ∧ v < M 1 1) ∨ (∃ i, 0 ≤ i ∧ i < M 14 2 ∧ M 17 i / 2 = v) ∨ ¬ canDo M (2 * v + b)) → es_Call (d + 20) 252 [.inr (.inr 91), .inl v, .inl b] M (fun y' M2 => y' = -1 ∧ Inv M2) := by
    intro q
    apply m_Model_add
    intro G hG
    apply k_Model_add_0 hG
    refine s_m_isService hT rep0 (fun v0 v1 => es_t1 (s_m_canBe hT rep0 v0 v1 hb (fun hc => es_f1 ?_) (fun _ => es_f0 ⟨rfl, h.th⟩))) (fun _ => es_t0 ⟨rfl, h.th⟩)
    obtain ⟨i, i0, i1, i2⟩ : ∃ i, 0 ≤ i ∧ i < M 14 2 ∧ M 17 i / 2 = v := by
      rcases q with q | q | q
      · exact absurd ⟨v0, v1⟩ q
      · exact q
      · exact absurd hc q
    have key : ∀ (r : Nat) (k : Int), 0 ≤ k → k ≤ i → k + r = i → G 26 [lr 91, li v, li b, li k] [] (es_upd M 91 0 0) := by
      intro r
      induction r with
      | zero =>
        intro k k0 k1 kr
        apply k_Model_add_26 hG
        rw [rd1 (by decide), ho.2.2, rd0 (by decide)]
        have e := (hT.or k0 (by omega)).2.1
        have ek : k = i := by omega
        subst ek
        exact ⟨fun z => absurd z (by omega), fun _ => ⟨by omega, fun z => absurd (by omega) z, fun _ => ⟨rfl, h.th⟩⟩⟩
      | succ r ih =>
        intro k k0 k1 kr
        apply k_Model_add_26 hG
        rw [rd1 (by decide), ho.2.2, rd0 (by decide), show w32 (k + 1) = k + 1 from by unfold w32; omega]
        exact ⟨fun z => absurd z (by omega), fun _ => ⟨by omega, fun _ => ih (k + 1) (by omega) (by omega) (by omega), fun _ => ⟨rfl, h.th⟩⟩⟩
    exact key i.toNat 0 (by omega) (by omega) (by omega)
  have yes : ∀ code, code = 2 * v + b → 0 ≤ v → v < M 1 1 → (∀ i, 0 ≤ i → i < M 14 2 → ¬ M 17 i / 2 = v) → canDo M (2 * v + b) → ((0 ≤ M 14 2 ∧ M 14 2 < 10) ∧ es_Call (d + 20) 252 [.inr (.inr 91), .inl v, .inl b] (es_upd (es_upd M 17 (M 14 2) code) 14 2 (w32 (es_upd M 17 (M 14 2) code 14 2 + 1))) (fun y' M2 => y' = es_upd (es_upd M 17 (M 14 2) code) 14 2 (w32 (es_upd M 17 (M 14 2) code 14 2 + 1)) 14 2 ∧ Inv M2)) := by
    intro code ecode v0 v1 hno hc
    have hlt : M 14 2 < M 1 1 := by
      have := pigeon (M 1 1).toNat ((M 14 2).toNat + 1) (fun i => if i = M 14 2 then v else M 17 i / 2) (fun i i0 i1 => ?_) (fun i j i0 i1 j0 j1 e => ?_)
      · omega
      · by_cases q : i = M 14 2
        · simp only [if_pos q]; omega
        · have := (hT.or i0 (by omega)).1
          simp only [if_neg q]; omega
      · by_cases q : i = M 14 2
        · by_cases r : j = M 14 2
          · omega
          · simp only [if_pos q, if_neg r] at e
            exact absurd e.symm (hno j j0 (by omega))
        · by_cases r : j = M 14 2
          · simp only [if_neg q, if_pos r] at e
            exact absurd e (hno i i0 (by omega))
          · simp only [if_neg q, if_neg r] at e
            exact hT.oi i0 (by omega) j0 (by omega) e
    rw [es_upd_s, es_upd_n (c := 17) (by decide), show w32 (M 14 2 + 1) = M 14 2 + 1 from by unfold w32; omega]
    refine ⟨by omega, ?_⟩
    apply m_Model_add
    intro G hG
    apply k_Model_add_0 hG
    have hRm : RepM M (es_upd (es_upd (es_upd M 17 (M 14 2) code) 14 2 (M 14 2 + 1)) 91 0 0) := (((RepM.rf M).upd rfl).upd rfl).upd rfl
    refine s_m_isService hT hRm (fun _ _ => es_t1 (s_m_canBe hT hRm v0 v1 hb (fun _ => es_f1 ?_) (fun q => absurd hc q))) (fun q => absurd ⟨v0, v1⟩ q)
    have key : ∀ (r : Nat) (k : Int), 0 ≤ k → k + r = M 14 2 → G 26 [lr 91, li v, li b, li k] [] (es_upd (es_upd (es_upd M 17 (M 14 2) code) 14 2 (M 14 2 + 1)) 91 0 0) := by
      intro r
      induction r with
      | zero =>
        intro k k0 kr
        apply k_Model_add_26 hG
        rw [es_upd_s, es_upd_n (c := 125) (by decide), es_upd_n (c := 126) (by decide), es_upd_n (c := 125) (by decide), hRm 91 47 rfl, ho.2.2, show w32 (M 14 2 + 1) = M 14 2 + 1 from by unfold w32; omega]
        refine ⟨fun _ => ⟨by omega, by omega, hb, rfl, ?_⟩, fun z => absurd (by omega) z⟩
        have e : Fr wk M (es_upd (es_upd (es_upd (es_upd (es_upd (es_upd M 17 (M 14 2) code) 14 2 (M 14 2 + 1)) 91 0 0) 125 (M 14 2) v) 126 (M 14 2) b) 91 47 (M 14 2 + 1)) := (((((Fr.rf.upd rfl).upd rfl).upd rfl).upd rfl).upd rfl).upd rfl
        obtain ⟨h1, h2, h3, h4, h5, h6, h7, h8, h9⟩ := hT.S
        refine h.work e ?_ (h.cache e (by simp [es_upd]) (by simp [es_upd]) (by simp [es_upd]))
        refine ⟨?_, ?_, ?_, ?_, ?_, ?_, ?_, ?_, ?_⟩
        · unfold SIsc mvN at h1 ⊢
          simp [es_upd] at h1 ⊢
          omega
        · simpa [es_upd, mvN, SIsh] using h2
        · simpa [es_upd, mvN, SIhd] using h3
        · have := h4.congr (wk_tow e)
          simpa [es_upd, SIhp] using this
        · have tw := wk_tow e
          have ec := canDo_congr (tw 4 (by decide)) (tw 5 (by decide)) (tw 10 (by decide)) (tw 13 (by decide))
          refine ⟨fun i i0 i1 => ?_, fun i j i0 i1 j0 j1 => ?_⟩
          · have i1 : i < M 14 2 + 1 := by simpa [es_upd] using i1
            rw [ec, tw 1 (by decide)]
            by_cases q : i = M 14 2
            · subst q
              simp [es_upd, mvN]
              subst ecode
              exact ⟨by omega, by omega, by omega, hc⟩
            · have := hT.or i0 (by omega)
              simpa [es_upd, mvN, q] using this
          · have i1 : i < M 14 2 + 1 := by simpa [es_upd] using i1
            have j1 : j < M 14 2 + 1 := by simpa [es_upd] using j1
            by_cases q : i = M 14 2
            · by_cases r : j = M 14 2
              · intro _; omega
              · have := hno j j0 (by omega)
                subst q
                simp [es_upd, r]
                intro z; omega
            · by_cases r : j = M 14 2
              · have := hno i i0 (by omega)
                subst r
                simp [es_upd, q]
                intro z; omega
              · simp [es_upd, q, r]
                exact hT.oi i0 (by omega) j0 (by omega)
        · simpa [es_upd, mvN, SIcu] using h6
        · simpa [es_upd, mvN, SIbz] using h7
        · simpa [es_upd, mvN, SIop] using h8
        · simpa [es_upd, mvN, SIst] using h9
      | succ r ih =>
        intro k k0 kr
        apply k_Model_add_26 hG
        have e := (hT.or k0 (by omega)).2.1
        have e2 := hno k k0 (by omega)
        rw [hRm 91 47 rfl, ho.2.2, hRm 125 _ rfl, show w32 (k + 1) = k + 1 from by unfold w32; omega]
        exact ⟨fun z => absurd z (by omega), fun _ => ⟨by omega, fun _ => ih (k + 1) (by omega) (by omega), fun z => absurd (by omega) e2⟩⟩
    exact key (M 14 2).toNat 0 (by omega) (by omega)
  refine s_isService (RepC.rf M) (fun v0 v1 => es_t1 (s_holds hT (RepC.rf M) (fun i i0 i1 i2 => es_t1 (no (Or.inr (Or.inl ⟨i, i0, i1, i2⟩)))) (fun hno => es_t0 ⟨fun z => ?_, fun z => ?_⟩))) (fun q => es_t0 (no (Or.inl q)))
  · have e : w32 (w32 (2 * v) + 0) = 2 * v + b := by unfold w32; omega
    rw [e]
    exact s_canDo hT (RepC.rf M) (by omega) (by omega) (fun hc => es_f1 (yes _ rfl v0 v1 hno hc)) (fun hc => es_f0 (no (Or.inr (Or.inr hc))))
  · have e : w32 (w32 (2 * v) + 1) = 2 * v + b := by unfold w32; omega
    rw [e]
    exact s_canDo hT (RepC.rf M) (by omega) (by omega) (fun hc => es_f1 (yes _ rfl v0 v1 hno hc)) (fun hc => es_f0 (no (Or.inr (Or.inr hc))))
end
