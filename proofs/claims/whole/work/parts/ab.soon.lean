/-! PAIRS OF CALLS: soonest (7). The model hastens -/
theorem smN_le {f g : Int → Int} : ∀ n : Nat, (∀ k, 0 ≤ k → k < (n : Int) → g k ≤ f k) → smN g n ≤ smN f n ∧ ((∃ k, 0 ≤ k ∧ k < (n : Int) ∧ g k < f k) → smN g n < smN f n) := by
  intro n
  induction n with
  | zero => intro _; exact ⟨Int.le_refl _, fun ⟨k, k0, k1, _⟩ => absurd k1 (by omega)⟩
  | succ n ih =>
    intro h
    have i := ih (fun k k0 k1 => h k k0 (by omega))
    have l := h n (by omega) (by omega)
    have e1 : smN f (n + 1) = smN f n + f n := rfl
    have e2 : smN g (n + 1) = smN g n + g n := rfl
    refine ⟨by omega, fun ⟨k, k0, k1, k2⟩ => ?_⟩
    by_cases w : k = n
    · subst w; omega
    · have := i.2 ⟨k, k0, by omega, k2⟩; omega
theorem ix37 {w w' k k' : Int} (h : w * 37 + k = w' * 37 + k') (a : 0 ≤ k ∧ k < 37) (b : 0 ≤ k' ∧ k' < 37) : w = w' ∧ k = k' := by omega
def okM (T : es_M) (a m : Int) (M : es_M) : Prop := ∀ D p, 0 ≤ D → D ≤ allF T → 0 ≤ p → p < 37 → okV T a m p D (M 124 (D * 37 + p))
/-- closed behind D from p, at a number -/
def clM (T : es_M) (a D p v : Int) (M : es_M) : Prop := ∀ q, tst T a p q → M 124 (dnF T q D (allF T) * 37 + q) ≤ seF T q (v + tb T p q)
def lay3 (T : es_M) (M : es_M) : Prop := ∀ p m, isP T p → goes T p → 0 ≤ m → m ≤ 1440 → M 123 (p * 1441 + m) = seF T p m
section
variable {d : Nat} {Q : Int → es_M → Prop} {T M : es_M}
abbrev offH (M M' : es_M) : Prop := ∀ c, c ≠ 124 → M' c = M c
theorem repH {M' : es_M} (hR : RepM T M) (h : offH M M') : RepM T M' := by
  intro c j q
  rw [h c (by rintro rfl; cases q)]; exact hR _ _ q
theorem isS37 (hT : TI T) {p : Int} (h : isS T p) : 0 ≤ p ∧ p < 37 := by
  have := hT.n
  rcases h with z | ⟨z1, z2⟩ <;> omega
theorem s_m_hastens (hT : TI T) (hR : RepM T M) {a m D : Int} (m0 : 0 ≤ m ∧ m < 1440) (D0 : 0 ≤ D) (D1 : D ≤ allF T) (h3 : lay3 T M) (ok : okM T a m M) (h : ∀ b M', (b = 0 ∨ b = 1) → offH M M' → okM T a m M' → (∀ j, M' 124 j ≤ M 124 j) → (∀ j, j < D * 37 → M' 124 j = M 124 j) → (b = 0 → (∀ p, 0 ≤ p → p < 37 → M' 124 (D * 37 + p) = M 124 (D * 37 + p)) ∧ ∀ p, 0 ≤ p → p < 37 → M 124 (D * 37 + p) < 1000000 → clM T a D p (M 124 (D * 37 + p)) M') → (b = 1 → ∃ p, 0 ≤ p ∧ p < 37 ∧ M' 124 (D * 37 + p) < M 124 (D * 37 + p)) → Q b M') : es_Call (d + 6) 251 [.inr (.inr 91), .inl D, .inl a] M Q := by
  have hn := hT.n
  have ha := hT.all
  apply m_Model_hastens
  intro G hG
  apply k_Model_hastens_0 hG
  refine es_up (P := fun k => ∀ b M', (b = 0 ∨ b = 1) → offH M M' → okM T a m M' → (∀ j, M' 124 j ≤ M 124 j) → (∀ j, j < D * 37 → M' 124 j = M 124 j) → (b = 0 → (∀ p, 0 ≤ p → p < 37 → M' 124 (D * 37 + p) = M 124 (D * 37 + p)) ∧ ∀ p, 0 ≤ p → p < k → M 124 (D * 37 + p) < 1000000 → clM T a D p (M 124 (D * 37 + p)) M') → (b = 1 → ∃ p, 0 ≤ p ∧ p < 37 ∧ M' 124 (D * 37 + p) < M 124 (D * 37 + p)) → G 5 [lr 91, li D, li a, li b, li k, none, none, none, none, none, none] [] M') (n := 37) (by decide) ?_ ?_ 0 M (Or.inl rfl) (fun _ _ => rfl) ok (fun _ => Int.le_refl _) (fun _ _ => rfl) (fun _ => ⟨fun _ _ _ => rfl, fun p p0 p1 => by omega⟩) (fun z => absurd z (by decide))
  · intro b M' b1 f1 f2 f3 f4 f5 f6
    apply k_Model_hastens_5 hG
    exact ⟨fun _ => ⟨b1, h b M' b1 f1 f2 f3 f4 f5 f6⟩, fun z => absurd (by decide) z⟩
  · intro k k0 k1 ih b M' b1 f1 f2 f3 f4 f5 f6
    have ix := w37888 (a := D) (b := k) ⟨D0, by omega⟩ ⟨k0, k1⟩
    have okk := f2 D k D0 D1 k0 k1
    have nextk : ∀ b' X, (b' = 0 ∨ b' = 1) → offH M X → okM T a m X → (∀ j, X 124 j ≤ M 124 j) → (∀ j, j < D * 37 → X 124 j = M 124 j) → (b' = 0 → (∀ p, 0 ≤ p → p < 37 → X 124 (D * 37 + p) = M 124 (D * 37 + p)) ∧ ∀ p, 0 ≤ p → p < k + 1 → M 124 (D * 37 + p) < 1000000 → clM T a D p (M 124 (D * 37 + p)) X) → (b' = 1 → ∃ p, 0 ≤ p ∧ p < 37 ∧ X 124 (D * 37 + p) < M 124 (D * 37 + p)) → G 187 [lr 91, li D, li a, li b', li k, none, none, none, none, none, none] [] X := by
      intro b' X x1 x2 x3 x4 x5 x6 x7
      apply k_Model_hastens_187 hG
      rw [w32_1 (k := k) (by omega) (by omega)]
      exact ih b' X x1 x2 x3 x4 x5 x6 x7
    apply k_Model_hastens_5 hG
    rw [ix.1]
    refine ⟨fun z => absurd z (by omega), fun _ => ⟨ix.2, fun lt => ?_, fun nl => nextk b M' b1 f1 f2 f3 f4 (fun z => ⟨(f5 z).1, fun p p0 p1 p2 => ?_⟩) f6⟩⟩
    rotate_left
    · by_cases e : p = k
      · subst e
        rw [← (f5 z).1 p k0 k1] at p2
        exact absurd p2 nl
      · exact (f5 z).2 p p0 (by omega) p2
    obtain ⟨v, ev⟩ : ∃ v, v = M' 124 (D * 37 + k) := ⟨_, rfl⟩
    rw [← ev] at okk lt ⊢
    have tr := okk.2 lt
    have rr := tr_r hT m0 tr
    have hS : isS T k := rr.1
    have vr := rr.2.2.1
    refine es_up (P := fun q => ∀ b X, (b = 0 ∨ b = 1) → offH M X → okM T a m X → (∀ j, X 124 j ≤ M 124 j) → (∀ j, j < D * 37 → X 124 j = M 124 j) → (b = 0 → ((∀ p, 0 ≤ p → p < 37 → X 124 (D * 37 + p) = M 124 (D * 37 + p)) ∧ M 124 (D * 37 + k) = v) ∧ (∀ p, 0 ≤ p → p < k → M 124 (D * 37 + p) < 1000000 → clM T a D p (M 124 (D * 37 + p)) X) ∧ ∀ q', q' < q → tst T a k q' → X 124 (dnF T q' D (allF T) * 37 + q') ≤ seF T q' (v + tb T k q')) → (b = 1 → ∃ p, 0 ≤ p ∧ p < 37 ∧ X 124 (D * 37 + p) < M 124 (D * 37 + p)) → G 40 [lr 91, li D, li a, li b, li k, li v, li q, none, none, none, none] [] X) (n := 2 * T 1 0) (by omega) ?_ ?_ b M' b1 f1 f2 f3 f4 (fun z => ⟨⟨(f5 z).1, by rw [ev]; exact ((f5 z).1 k k0 k1).symm⟩, (f5 z).2, fun q' z1 z2 => absurd z2.1.1 (by omega)⟩) f6
    · intro b X x1 x2 x3 x4 x5 x6 x7
      apply k_Model_hastens_40 hG
      rw [repH hR x2 91 3 rfl, hn.2.2, w32_s (by omega) (by omega)]
      refine ⟨fun _ => nextk b X x1 x2 x3 x4 x5 (fun z => ⟨(x6 z).1.1, fun p p0 p1 p2 => ?_⟩) x7, fun z => absurd (Int.le_refl _) z⟩
      by_cases e : p = k
      · subst e
        rw [(x6 z).1.2]
        exact fun q hq => (x6 z).2.2 q hq.1.2 hq
      · exact (x6 z).2.1 p p0 (by omega) p2
    · intro q q0 q1 ihq b X x1 x2 x3 x4 x5 x6 x7
      have hq : isP T q := ⟨q0, q1⟩
      have RX := repH hR x2
      have q37 : q < 37 := by omega
      have dl := dn_le hT (q := q) D0 D1
      have cmp : ∀ e, okV T a m q (dnF T q D (allF T)) e → (tst T a k q → e ≤ seF T q (v + tb T k q)) → ((0 ≤ dnF T q D (allF T) * 37 + q ∧ dnF T q D (allF T) * 37 + q < 37888) ∧ ((X 124 (dnF T q D (allF T) * 37 + q) ≤ e → G 181 [lr 91, li D, li a, li b, li k, li v, li q, none, none, none, none] [] X) ∧ (¬ X 124 (dnF T q D (allF T) * 37 + q) ≤ e → ((0 ≤ dnF T q D (allF T) * 37 + q ∧ dnF T q D (allF T) * 37 + q < 37888) ∧ ((¬ b = 0 → G 175 [lr 91, li D, li a, none, li k, li v, li q, none, none, none, none] [] (es_upd X 124 (dnF T q D (allF T) * 37 + q) e)) ∧ (b = 0 → ((¬ dnF T q D (allF T) = D → G 181 [lr 91, li D, li a, li 0, li k, li v, li q, none, none, none, none] [] (es_upd X 124 (dnF T q D (allF T) * 37 + q) e)) ∧ (dnF T q D (allF T) = D → G 175 [lr 91, li D, li a, none, li k, li v, li q, none, none, none, none] [] (es_upd X 124 (dnF T q D (allF T) * 37 + q) e))))))))) := by
        intro e he hle
        have step : ∀ b' Y, (b' = 0 ∨ b' = 1) → offH M Y → okM T a m Y → (∀ j, Y 124 j ≤ X 124 j) → (∀ j, j < D * 37 → Y 124 j = M 124 j) → Y 124 (dnF T q D (allF T) * 37 + q) ≤ e → (b' = 0 → b = 0 ∧ ∀ p, 0 ≤ p → p < 37 → Y 124 (D * 37 + p) = X 124 (D * 37 + p)) → (b' = 1 → ∃ p, 0 ≤ p ∧ p < 37 ∧ Y 124 (D * 37 + p) < M 124 (D * 37 + p)) → G 181 [lr 91, li D, li a, li b', li k, li v, li q, none, none, none, none] [] Y := by
          intro b' Y y1 y2 y3 y4 y5 y6 y7 y8
          apply k_Model_hastens_181 hG
          rw [w32_1 (k := q) (by clear dl y6; omega) (by clear dl y6; omega)]
          refine ihq b' Y y1 y2 y3 (fun j => Int.le_trans (y4 j) (x4 j)) y5 (fun z => ?_) y8
          obtain ⟨w1, w2⟩ := y7 z
          obtain ⟨⟨u1, u2⟩, u3, u4⟩ := x6 w1
          refine ⟨⟨fun p p0 p1 => (w2 p p0 p1).trans (u1 p p0 p1), u2⟩, fun p p0 p1 p2 q' hq' => Int.le_trans (y4 _) (u3 p p0 p1 p2 q' hq'), fun q' z1 z2 => ?_⟩
          by_cases c : q' = q
          · subst c; exact Int.le_trans y6 (hle z2)
          · exact Int.le_trans (y4 _) (u4 q' (by clear dl y6; omega) z2)
        generalize dnF T q D (allF T) = w at dl he step ⊢
        have wb : 0 ≤ w * 37 + q ∧ w * 37 + q < 37888 := by
          clear step
          generalize allF T = N at *
          omega
        refine ⟨wb, fun le => step b X x1 x2 x3 (fun _ => Int.le_refl _) x5 le (fun z => ⟨z, fun _ _ _ => rfl⟩) x7, fun nle => ⟨wb, ?_⟩⟩
        have y2 : offH M (es_upd X 124 (w * 37 + q) e) := fun c hc => by rw [es_upd_o c hc]; exact x2 c hc
        have y3 : okM T a m (es_upd X 124 (w * 37 + q) e) := fun D' p d0 d1 p0 p1 => by
          rw [es_upd_c]
          split
          · rename_i c
            obtain ⟨c1, c2⟩ := ix37 c ⟨p0, p1⟩ ⟨q0, q37⟩
            rw [c1, c2]; exact he
          · exact x3 D' p d0 d1 p0 p1
        have y4 : ∀ j, es_upd X 124 (w * 37 + q) e 124 j ≤ X 124 j := fun j => by
          rw [es_upd_c]
          split
          · rename_i c; rw [c]; omega
          · exact Int.le_refl _
        have y5 : ∀ j, j < D * 37 → es_upd X 124 (w * 37 + q) e 124 j = M 124 j := fun j hj => by
          rw [es_upd_j (by have := dl.2.2; omega)]; exact x5 j hj
        have y6 : es_upd X 124 (w * 37 + q) e 124 (w * 37 + q) ≤ e := by rw [es_upd_s]; exact Int.le_refl _
        have one : (b = 1 ∨ w = D) → G 175 [lr 91, li D, li a, none, li k, li v, li q, none, none, none, none] [] (es_upd X 124 (w * 37 + q) e) := fun c => by
          apply k_Model_hastens_175 hG
          refine step 1 _ (Or.inr rfl) y2 y3 y4 y5 y6 (fun z => absurd z (by decide)) (fun _ => ?_)
          rcases c with c | c
          · obtain ⟨p, p0, p1, p2⟩ := x7 c
            exact ⟨p, p0, p1, Int.lt_of_le_of_lt (y4 _) p2⟩
          · subst c
            refine ⟨q, q0, q37, ?_⟩
            rw [es_upd_s]
            have := x4 (w * 37 + q)
            omega
        refine ⟨fun z => one (Or.inl (x1.resolve_left z)), fun z => ⟨fun nw => step 0 _ (Or.inl rfl) y2 y3 y4 y5 y6 (fun _ => ⟨z, fun p p0 p1 => ?_⟩) (fun y => absurd y (by decide)), fun ew => one (Or.inr ew)⟩⟩
        rw [es_upd_j (fun c => nw (ix37 c ⟨p0, p1⟩ ⟨q0, q37⟩).1.symm)]
      have wi : w32 (w32 (dnF T q D (allF T) * 37) + q) = dnF T q D (allF T) * 37 + q := (w37888 ⟨dl.1, Int.lt_of_le_of_lt dl.2.1 (by clear dl cmp; omega)⟩ ⟨q0, q37⟩).1
      clear dl
      apply k_Model_hastens_40 hG
      rw [RX 91 3 rfl, hn.2.2, w32_s (k := 2 * T 1 0) (by omega) (by omega)]
      refine ⟨fun z => absurd z (by omega), fun _ => s_m_step hT RX hS hq ⟨fun ls => s_m_turnBetween hT RX hS hq ?_, fun nls => ⟨fun z => absurd z (by decide), fun _ => s_m_all hT RX (s_m_doneBehind hT RX q0 (by omega) D0 (by omega) ha.1 (by omega) ?_)⟩⟩⟩
      · have ht : tst T a k q := ⟨hq, ls⟩
        have sr := tst_r hT hS ht
        rw [w32_s (k := v + tb T k q) (by omega) (by omega)]
        have se := se_r hT hq sr.1.2 (r := v + tb T k q) (by omega)
        refine ⟨fun l => ?_, fun g => s_m_all hT RX (s_m_doneBehind hT RX q0 (by omega) D0 (by omega) ha.1 (by omega) ?_)⟩
        · have i3 : w32 (w32 (q * 1441) + (v + tb T k q)) = q * 1441 + (v + tb T k q) := by rw [w32_s (k := q * 1441) (by omega) (by omega), w32_s (by omega) (by omega)]
          rw [i3, x2 123 (by decide), h3 q _ hq sr.1.1 (by omega) l]
          refine ⟨by omega, s_m_all hT RX (s_m_doneBehind hT RX q0 (by omega) D0 (by omega) ha.1 (by omega) ?_)⟩
          rw [wi]
          exact cmp _ ⟨se.1, fun w => tr_s tr ht w⟩ (fun _ => Int.le_refl _)
        · rw [wi]
          exact cmp _ okV_N (fun _ => by rw [se_end hT hq sr.1.2 (by omega)]; exact Int.le_refl _)
      · rw [wi]
        exact cmp _ okV_N (fun ht => absurd ht.2 nls)
end
