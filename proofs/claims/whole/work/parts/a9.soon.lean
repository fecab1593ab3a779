/-! PAIRS OF CALLS: soonest (5). The class's round -/
def okB (T : es_M) (a m : Int) (M : es_M) : Prop := ∀ w k, 0 ≤ w → w ≤ allF T → 0 ≤ k → k < 2 * T 1 1 → okV T a m (poF T k) w (M 66 (w * 20 + k)) ∧ (M 66 (w * 20 + k) < 1000000 → T 13 (poF T k) = k / 2)
section
variable {d : Nat} {Q : Int → es_M → Prop} {T M : es_M}
theorem s_fill89 {v : Int} (h : ∀ M', (∀ c, c ≠ 89 → M' c = M c) → (∀ j, 0 ≤ j → j < 36 → M' 89 j = v) → Q 0 M') : es_Call (d + 1) 290 [.inr (.inr 89), .inl v] M Q := by
  apply m_Arrays_fill_0_89
  intro G hG
  apply k_Arrays_fill_0_89_0 hG
  refine es_up (P := fun k => ∀ M', (∀ c, c ≠ 89 → M' c = M c) → (∀ j, 0 ≤ j → j < k → M' 89 j = v) → G 5 [lr 89, li v, li k, li 36] [] M') (n := 36) (by decide) ?_ ?_ M (fun _ _ => rfl) (fun j j0 j1 => by omega)
  · intro M' f1 f2
    apply k_Arrays_fill_0_89_5 hG
    exact ⟨fun _ => h M' f1 f2, fun z => absurd (Int.le_refl _) z⟩
  · intro k k0 k1 ih M' f1 f2
    apply k_Arrays_fill_0_89_5 hG
    rw [w32_1 (by omega) (by omega)]
    refine ⟨fun z => absurd z (by omega), fun _ => ⟨by omega, ih _ (fun c hc => by rw [es_upd_o c hc, f1 c hc]) (fun j j0 j1 => ?_)⟩⟩
    rw [es_upd_c]
    by_cases e : j = k
    · rw [if_pos e]
    · rw [if_neg e]; exact f2 j j0 (by omega)
theorem s_takeUp (hT : TI T) (hR : RepC T M) {a m D : Int} (D0 : 0 ≤ D) (D1 : D ≤ allF T) (ok : okB T a m M) (h : ∀ b M', (b = 0 ∨ b = 1) → (∀ c, c ≠ 89 → M' c = M c) → okR T a m D M' → (∀ k, 0 ≤ k → k < 2 * T 1 1 → T 13 (poF T k) = k / 2 → M' 89 (poF T k) ≤ M 66 (D * 20 + k)) → (b = 0 → ∀ p, isP T p → M' 89 p = 1000000) → Q b M') : es_Call (d + 2) 167 [.inr (.inr 88), .inl D] M Q := by
  have hn := hT.n
  have hv := hT.v
  have ha := hT.all
  apply m_Clock_takeUp
  intro G hG
  apply k_Clock_takeUp_0 hG
  refine s_fill89 (fun M1 e1 e2 => ?_)
  have b36 : ∀ p, isP T p → 0 ≤ p ∧ p < 36 := fun p hp => by have := hp.1; have := hp.2; omega
  refine es_up (P := fun k => ∀ b M', (b = 0 ∨ b = 1) → (∀ c, c ≠ 89 → M' c = M c) → (∀ p, isP T p → okV T a m p D (M' 89 p)) → (∀ j, 0 ≤ j → j < k → T 13 (poF T j) = j / 2 → M' 89 (poF T j) ≤ M 66 (D * 20 + j)) → (b = 0 → ∀ p, isP T p → M' 89 p = 1000000) → G 13 [lr 88, li D, li b, li k, none] [] M') (n := 2 * T 1 1) (by omega) ?_ ?_ 0 M1 (Or.inl rfl) e1 (fun p hp => by rw [e2 p (b36 p hp).1 (b36 p hp).2]; exact okV_N) (fun j j0 j1 => by omega) (fun _ p hp => e2 p (b36 p hp).1 (b36 p hp).2)
  · intro b M' b1 f1 f2 f3 f4
    apply k_Clock_takeUp_13 hG
    rw [f1 1 (by decide), hR 1 1 rfl, w32_s (by omega) (by omega)]
    refine ⟨fun _ => ⟨b1, h b M' b1 f1 ⟨f2, fun w k w0 w1 k0 k1 => ?_⟩ f3 f4⟩, fun z => absurd (Int.le_refl _) z⟩
    rw [f1 66 (by decide)]
    exact ok w k w0 w1 k0 k1
  · intro k k0 k1 ih b M' b1 f1 f2 f3 f4
    have kp := poF_r hT k0 k1
    have hk := ok D k D0 D1 k0 k1
    have hR' : RepC T M' := fun c j q => by rw [f1 c (by rintro rfl; cases q)]; exact hR _ _ q
    have ix := w20480 (a := D) (b := k) ⟨D0, by omega⟩ ⟨k0, by omega⟩
    apply k_Clock_takeUp_13 hG
    rw [f1 1 (by decide), hR 1 1 rfl, w32_s (by omega) (by omega), ix.1, f1 66 (by decide), w32_1 (k := k) (by omega) (by omega)]
    refine ⟨fun z => absurd z (by omega), fun _ => ⟨ix.2, fun z => ih b M' b1 f1 f2 (fun j j0 j1 j2 => ?_) f4, fun z => s_passOf hT hR' k0 k1 ⟨⟨kp.1, kp.2.2.1⟩, ih 1 _ (Or.inr rfl) (fun c hc => by rw [es_upd_o c hc]; exact f1 c hc) (fun p hp => ?_) (fun j j0 j1 j2 => ?_) (fun y => absurd y (by decide))⟩⟩⟩
    · by_cases e : j = k
      · subst e
        have := (f2 (poF T j) ⟨kp.1, kp.2.1⟩).1.2
        omega
      · exact f3 j j0 (by omega) j2
    · rw [es_upd_c]
      split
      · rename_i e; rw [e]; exact hk.1
      · exact f2 p hp
    · rw [es_upd_c]
      split
      · rename_i e
        have t1 := hk.2 (by omega)
        rw [e, t1] at j2
        have jp := poF_r hT j0 (by omega)
        have e2 : j = k := by have x1 := jp.2.2.2.2; have x2 := kp.2.2.2.2; rw [e] at x1; omega
        rw [e2]; exact Int.le_refl _
      · rename_i e
        by_cases e2 : j = k
        · subst e2; exact absurd rfl e
        · exact f3 j j0 (by omega) j2
theorem s_soonestAt (hT : TI T) (hR : RepC T M) {a : Int} (h : ∀ y, y ≤ 1000000 → (∀ p, isP T p → gl T p = a → y ≤ M 89 p) → (y = 1000000 ∨ ∃ p, isP T p ∧ gl T p = a ∧ y = M 89 p) → Q y M) : es_Call (d + 2) 168 [.inr (.inr 88), .inl a] M Q := by
  have hn := hT.n
  apply m_Clock_soonestAt
  intro G hG
  apply k_Clock_soonestAt_0 hG
  refine es_up (P := fun k => ∀ y, y ≤ 1000000 → (∀ p, isP T p → p < k → gl T p = a → y ≤ M 89 p) → (y = 1000000 ∨ ∃ p, isP T p ∧ gl T p = a ∧ y = M 89 p) → G 5 [lr 88, li a, li y, li k] [] M) (n := 2 * T 1 0) (by omega) ?_ ?_ 1000000 (Int.le_refl _) (fun p hp z => absurd hp.1 (by omega)) (Or.inl rfl)
  · intro y y1 y2 y3
    apply k_Clock_soonestAt_5 hG
    rw [hR 1 0 rfl, w32_s (by omega) (by omega)]
    exact ⟨fun _ => h y y1 (fun p hp => y2 p hp hp.2) y3, fun z => absurd (Int.le_refl _) z⟩
  · intro k k0 k1 ih y y1 y2 y3
    have hk : isP T k := ⟨k0, k1⟩
    apply k_Clock_soonestAt_5 hG
    rw [hR 1 0 rfl, w32_s (by omega) (by omega), w32_1 (k := k) (by omega) (by omega)]
    refine ⟨fun z => absurd z (by omega), fun _ => s_goal hR k0 (by omega) ⟨fun z => ih y y1 (fun p hp pk e => ?_) y3, fun z => ⟨by omega, ih _ (by omega) (fun p hp pk e => ?_) ?_⟩⟩⟩
    · by_cases w : p = k
      · subst w; exact absurd e z
      · exact y2 p hp (by omega) e
    · by_cases w : p = k
      · subst w; omega
      · have := y2 p hp (by omega) e; omega
    · by_cases w : y ≤ M 89 k
      · rw [Int.min_eq_left w]; exact y3
      · rw [Int.min_eq_right (by omega)]; exact Or.inr ⟨k, hk, z, rfl⟩
/-- all steps out of layers up to D that do a service more are told -/
def cplt (T : es_M) (a m D : Int) (M : es_M) : Prop := ∀ p e q, isS T p → 0 ≤ e → e ≤ D → sfF T a m p e < 1000000 → tst T a p q → ¬ dnF T q e (allF T) = e → M 66 (dnF T q e (allF T) * 20 + cdF T q) ≤ seF T q (sfF T a m p e + tb T p q)
def lay (T : es_M) (a m D : Int) (M : es_M) : Prop := ∀ p, isP T p → M 89 p = sfF T a m p D
theorem sf_le (hT : TI T) {a m p e t : Int} (m0 : 0 ≤ m ∧ m < 1440) (h : trR T a m p e t) : sfF T a m p e ≤ t ∧ sfF T a m p e < 1000000 ∧ 0 ≤ sfF T a m p e := by
  have s := sf_min hT (a := a) (p := p) (d := e) m0
  have r := tr_r hT m0 h
  have l := s.2.1 t h
  have lt : sfF T a m p e < 1000000 := by omega
  exact ⟨l, lt, (tr_r hT m0 (s.2.2 lt)).2.2.1.1⟩
theorem lay_of (hT : TI T) {a m D : Int} (m0 : 0 ≤ m ∧ m < 1440) (ok : okR T a m D M) (hc : ∀ p, isP T p → M 89 p < 1000000 → clsd T a D p M) (hi : ∀ p e q, isS T p → 0 ≤ e → e ≤ allF T → tst T a p q → dnF T q e (allF T) = D → (p = 36 ∨ ¬ e = D) → sfF T a m p e < 1000000 → M 89 q ≤ seF T q (sfF T a m p e + tb T p q)) : lay T a m D M := by
  have low : ∀ p t, isP T p → trR T a m p D t → M 89 p ≤ t := by
    intro p t hp ht
    refine (ht (fun p e t => trR T a m p e t ∧ (e = D → isP T p → M 89 p ≤ t)) ⟨tr_1, fun _ z => absurd rfl (isP36 hT z)⟩ ?_).2 rfl hp
    rintro p e t q ⟨i1, i2⟩ h1 h2
    refine ⟨tr_s i1 h1 h2, fun e1 hq => ?_⟩
    have r := tr_r hT m0 i1
    have sr := tst_r hT r.1 h1
    have el := (sub_all hT r.2.1.1).mp r.2.1.2
    by_cases c : p = 36 ∨ ¬ e = D
    · have s := sf_le hT m0 i1
      exact Int.le_trans (hi p e q r.1 r.2.1.1 el h1 e1 c s.2.1) (se_mono hT h1.1 sr.1.2 (by omega) (by omega))
    · have c1 : ¬ p = 36 := fun z => c (Or.inl z)
      have c2 : e = D := Classical.byContradiction fun z => c (Or.inr z)
      subst c2
      have hp' : isP T p := r.1.resolve_left c1
      have l := i2 rfl hp'
      have o := (ok.1 p hp').1
      have cl := hc p hp' (by omega) q h1
      unfold sltF at cl
      rw [if_pos e1] at cl
      exact Int.le_trans cl (se_mono hT h1.1 sr.1.2 (by omega) (by omega))
  intro p hp
  exact isMin.uniq ⟨(ok.1 p hp).1.2, fun c hc => low p c hp hc, (ok.1 p hp).2⟩ (sf_min hT m0)
theorem cplt_of (hT : TI T) {a m D : Int} (m0 : 0 ≤ m ∧ m < 1440) (D0 : 0 ≤ D) (hl : lay T a m D M) (hc : ∀ p, isP T p → M 89 p < 1000000 → clsd T a D p M) (h0 : D = 0 → ∀ q, tst T a 36 q → sltF T 0 q M ≤ seF T q (m + tb T 36 q)) (hd : ∀ p e q, isS T p → 0 ≤ e → e < D → sfF T a m p e < 1000000 → tst T a p q → ¬ dnF T q e (allF T) = e → M 66 (dnF T q e (allF T) * 20 + cdF T q) ≤ seF T q (sfF T a m p e + tb T p q)) : cplt T a m D M := by
  intro p e q hp e0 e1 lt ht hn
  by_cases z : e = D
  · subst z
    rcases hp with z | hp
    · subst z
      have tr := (sf_min hT (a := a) (p := 36) (d := e) m0).2.2 lt
      have r := (tr_r hT m0 tr).2.2.2 rfl
      have := h0 r.1 q ht
      rw [← r.1] at this
      unfold sltF at this
      rw [if_neg hn] at this
      rw [r.2]; exact this
    · have := hc p hp (by rw [hl p hp]; exact lt) q ht
      unfold sltF at this
      rw [if_neg hn, hl p hp] at this
      exact this
  · exact hd p e q hp e0 (by omega) lt ht hn
end
