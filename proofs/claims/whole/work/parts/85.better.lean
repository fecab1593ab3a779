/-! PAIRS OF CALLS: better (5). The model -/
section
variable {d : Nat} {Q : Int → es_M → Prop} {T M : es_M}
theorem s_m_turnsRound (hT : TI T) (hR : RepM T M) (hL : ∀ p q, isP T p → isP T q → goes T p → M 127 (p * 36 + q) = wyF T p q) {b : Int} {s : SS} (n0 : 0 < T 14 2) (hr : RM b (T 14 2) s M) (h : ∀ M', offE M M' → RM b (T 14 2) (tuA T (T 14 2) (T 17) s) M' → Q 0 M') : es_Call (d + 6) 263 [.inr (.inr 91)] M Q := by
  apply m_Model_turnsRound
  intro G hG
  apply k_Model_turnsRound_0 hG
  have hn := hT.on
  have hv := hT.v
  have hV := hT.val
  refine es_up (P := fun i => ∀ M', offE M M' → RM b (T 14 2) (itJ (fun i => itJ (tuF T (T 14 2) (T 17) i) (T 14 2).toNat) i.toNat s) M' → G 2 [lr 91, li i, none, none, none, none] [] M') (n := T 14 2) (by omega) ?_ ?_ M offE.rf hr
  · intro M' f1 f2
    apply k_Model_turnsRound_2 hG
    rw [(repE hR f1) 91 47 rfl, hn.2.2]
    exact ⟨fun _ => h M' f1 f2, fun z => absurd (Int.le_refl _) z⟩
  · intro i i0 i1 ih M' f1 f2
    apply k_Model_turnsRound_2 hG
    rw [(repE hR f1) 91 47 rfl, hn.2.2]
    refine ⟨fun z => absurd z (by omega), fun _ => ?_⟩
    rw [itJ_s _ i0] at ih
    refine es_upl (P := fun j => ∀ M', offE M M' → RM b (T 14 2) (itJ (tuF T (T 14 2) (T 17) i.toNat) j.toNat (itJ (fun i => itJ (tuF T (T 14 2) (T 17) i) (T 14 2).toNat) i.toNat s)) M' → G 12 [lr 91, li i, li j, none, none, none] [] M') (lo := i) (n := T 14 2) (by omega) ?_ ?_ M' f1 ?_
    · intro M' f1 f2
      apply k_Model_turnsRound_12 hG
      rw [(repE hR f1) 91 47 rfl, hn.2.2, w32_1 (k := i) (by omega) (by omega)]
      exact ⟨fun _ => ih M' f1 f2, fun z => absurd (Int.le_refl _) z⟩
    · intro j j0 j1 ih2 M' f1 f2
      apply k_Model_turnsRound_12 hG
      have hR' := repE hR f1
      rw [itJ_s _ (by omega)] at ih2
      rw [hR' 91 47 rfl, hn.2.2]
      refine ⟨fun z => absurd z (by omega), fun _ => s_m_asItIs hT hR' (fun M1 g1 g2 => ?_)⟩
      refine es_upl (P := fun k => ∀ (M2 : es_M) (can : Int), (∀ c, c ≠ 128 → c ≠ 129 → M2 c = M' c) → (∀ x, 0 ≤ x → x < T 14 2 → M2 128 x = (if i ≤ x ∧ x < k then flp (T 17 (i + j - x)) else T 17 x) / 2 ∧ M2 129 x = (if i ≤ x ∧ x < k then flp (T 17 (i + j - x)) else T 17 x) % 2) → ((can = 1 ∧ ∀ x, i ≤ x → x < k → canDo T (flp (T 17 (i + j - x)))) ∨ (can = 0 ∧ ¬ ∀ x, i ≤ x → x ≤ j → canDo T (flp (T 17 x)))) → G 29 [lr 91, li i, li j, li can, li k, none] [] M2) (lo := i) (n := j + 1) (by omega) ?_ ?_ M1 1 g1 (fun x x0 x1 => by rw [if_neg (by omega)]; exact g2 x x0 x1) (Or.inl ⟨rfl, fun x x0 x1 => absurd x1 (by omega)⟩)
      · intro M2 can a1 a2 a3
        apply k_Model_turnsRound_29 hG
        have e47 : M2 91 47 = T 14 2 := by rw [a1 91 (by decide) (by decide), hR' 91 47 rfl, hn.2.2]
        rw [w32_1 (k := j) (by omega) (by omega), e47]
        refine ⟨fun _ => ⟨fun z => ih2 M2 (f1.tr a1) ?_, fun z => ?_⟩, fun z => absurd (by omega) z⟩
        · rcases a3 with a3 | a3
          · omega
          · rw [tuF_n i0 (by omega) a3.2]; exact f2.off a1
        · rcases a3 with a3 | a3
          · have al : ∀ k, i ≤ k → k ≤ j → canDo T (flp (T 17 k)) := fun k k0 k1 => by
              have := a3.2 (i + j - k) (by omega) (by omega)
              rw [show i + j - (i + j - k) = k by omega] at this
              exact this
            refine s_m_tr (M0 := M) (t := trn (T 17) i j) hT (repE hR (f1.tr a1)) hL n0 (trn_V hV i0 j1 al) (f1.tr a1) (fun k k0 k1 => ?_) (f2.off a1) (fun M3 x1 x2 => ih2 M3 x1 ?_)
            · have := a2 k k0 k1
              unfold trn
              by_cases e : i ≤ k ∧ k ≤ j
              · rw [if_pos e]; rw [if_pos (by omega)] at this; exact this
              · rw [if_neg e]; rw [if_neg (by omega)] at this; exact this
            · rw [tuF_y i0 j0 al]; exact x2
          · omega
      · intro k k0 k1 ih3 M2 can a1 a2 a3
        have e125 : ∀ x, M2 125 x = T 125 x := fun x => by rw [a1 125 (by decide) (by decide), hR' 125 _ rfl]
        have e126 : ∀ x, M2 126 x = T 126 x := fun x => by rw [a1 126 (by decide) (by decide), hR' 126 _ rfl]
        have mx := hT.or (i := i + j - k) (by omega) (by omega)
        have fx : flp (T 17 (i + j - k)) / 2 = T 17 (i + j - k) / 2 ∧ 0 ≤ flp (T 17 (i + j - k)) := by unfold flp; split <;> omega
        have step : ∀ (y : Int) (c : Int), y = flp (T 17 (i + j - k)) % 2 → ((c = 1 ∧ ∀ x, i ≤ x → x < k + 1 → canDo T (flp (T 17 (i + j - x)))) ∨ (c = 0 ∧ ¬ ∀ x, i ≤ x → x ≤ j → canDo T (flp (T 17 x)))) → G 29 [lr 91, li i, li j, li c, li (k + 1), none] [] (es_upd (es_upd M2 128 k (T 17 (i + j - k) / 2)) 129 k y) := by
          intro y c hy hc
          refine ih3 _ c (fun c c1 c2 => by rw [es_upd_o c c2, es_upd_o c c1]; exact a1 c c1 c2) (fun x x0 x1 => ?_) hc
          by_cases e : x = k
          · subst e
            rw [if_pos (by omega), es_upd_n (by decide), es_upd_s, es_upd_s, fx.1]
            exact ⟨rfl, hy⟩
          · have := a2 x x0 x1
            rw [es_upd_n (by decide), es_upd_j e, es_upd_j e, es_upd_n (by decide)]
            by_cases e2 : i ≤ x ∧ x < k
            · rw [if_pos e2] at this; rw [if_pos (by omega)]; exact this
            · rw [if_neg e2] at this; rw [if_neg (by omega)]; exact this
        have oc : ∀ y, RepM T (es_upd (es_upd M2 128 k (T 17 (i + j - k) / 2)) 129 k y) := fun y => repE hR (f1.tr (fun c c1 c2 => by rw [es_upd_o c c2, es_upd_o c c1]; exact a1 c c1 c2))
        have both : ∀ y, y = flp (T 17 (i + j - k)) % 2 → ((can = 0 → G 29 [lr 91, li i, li j, li 0, li (k + 1), none] [] (es_upd (es_upd M2 128 k (T 17 (i + j - k) / 2)) 129 k y)) ∧ (¬ can = 0 → es_Call (d + 5) 253 [.inr (.inr 91), .inl (T 17 (i + j - k) / 2), .inl y] (es_upd (es_upd M2 128 k (T 17 (i + j - k) / 2)) 129 k y) (fun y3 M2 => ((y3 = 0 → G 29 [lr 91, li i, li j, li 0, li (k + 1), none] [] M2) ∧ (¬ y3 = 0 → G 29 [lr 91, li i, li j, li 1, li (k + 1), none] [] M2))))) := by
          intro y hy
          have ey : 2 * (T 17 (i + j - k) / 2) + y = flp (T 17 (i + j - k)) := by omega
          refine ⟨fun z => ?_, fun z => ?_⟩
          · rcases a3 with a3 | a3
            · omega
            · exact step y 0 hy (Or.inr ⟨rfl, a3.2⟩)
          · rcases a3 with a3 | a3
            · refine s_m_canBe hT (oc y) (by omega) (by omega) (by omega) (fun hc => es_t1 (step y 1 hy (Or.inl ⟨rfl, fun x x0 x1 => ?_⟩))) (fun hc => es_t0 (step y 0 hy (Or.inr ⟨rfl, fun w => hc ?_⟩)))
              · by_cases e : x = k
                · rw [e, ← ey]; exact hc
                · exact a3.2 x x0 (by omega)
              · rw [ey]; exact w _ (by omega) (by omega)
            · omega
        apply k_Model_turnsRound_29 hG
        rw [w32_1 (k := k) (by omega) (by omega), w32_s (k := i + j) (by omega) (by omega), w32_s (k := i + j - k) (by omega) (by omega), es_upd_n (c := 128) (c' := 126) (by decide), e125, e126, mx.2.1, mx.2.2.1]
        rw [es_upd_n (c := 129) (c' := 128) (by decide), es_upd_n (c := 129) (c' := 128) (by decide), es_upd_s, es_upd_s, es_upd_s]
        refine ⟨fun z => absurd z (by omega), fun _ => ⟨by omega, by omega, by omega, fun z => ⟨by omega, by omega, ?_⟩, fun z => ⟨by omega, by omega, ?_⟩⟩⟩
        · have B := both 0 (by unfold flp; split <;> omega)
          exact ⟨B.1, fun w => ⟨by omega, by omega, B.2 w⟩⟩
        · have B := both 1 (by unfold flp; split <;> omega)
          exact ⟨B.1, fun w => ⟨by omega, by omega, B.2 w⟩⟩
    · rw [itJ_id _ (fun k hk s => by unfold tuF; exact ifc_n (fun z => by omega))]
      exact f2
theorem s_m_movesOne (hT : TI T) (hR : RepM T M) (hL : ∀ p q, isP T p → isP T q → goes T p → M 127 (p * 36 + q) = wyF T p q) {b : Int} {s : SS} (n0 : 0 < T 14 2) (hr : RM b (T 14 2) s M) (h : ∀ M', offE M M' → RM b (T 14 2) (mvA T (T 14 2) (T 17) s) M' → Q 0 M') : es_Call (d + 6) 264 [.inr (.inr 91)] M Q := by
  apply m_Model_movesOne
  intro G hG
  apply k_Model_movesOne_0 hG
  have hn := hT.on
  have hV := hT.val
  refine es_up (P := fun i => ∀ M', offE M M' → RM b (T 14 2) (itJ (fun i => itJ (mvF T (T 14 2) (T 17) i) (T 14 2).toNat) i.toNat s) M' → G 2 [lr 91, li i, none, none, none, none] [] M') (n := T 14 2) (by omega) ?_ ?_ M offE.rf hr
  · intro M' f1 f2
    apply k_Model_movesOne_2 hG
    rw [(repE hR f1) 91 47 rfl, hn.2.2]
    exact ⟨fun _ => h M' f1 f2, fun z => absurd (Int.le_refl _) z⟩
  · intro i i0 i1 ih M' f1 f2
    apply k_Model_movesOne_2 hG
    rw [(repE hR f1) 91 47 rfl, hn.2.2]
    refine ⟨fun z => absurd z (by omega), fun _ => ?_⟩
    rw [itJ_s _ i0] at ih
    refine es_up (P := fun j => ∀ M', offE M M' → RM b (T 14 2) (itJ (mvF T (T 14 2) (T 17) i.toNat) j.toNat (itJ (fun i => itJ (mvF T (T 14 2) (T 17) i) (T 14 2).toNat) i.toNat s)) M' → G 12 [lr 91, li i, li j, none, none, none] [] M') (n := T 14 2) (by omega) ?_ ?_ M' f1 f2
    · intro M' f1 f2
      apply k_Model_movesOne_12 hG
      rw [(repE hR f1) 91 47 rfl, hn.2.2, w32_1 (k := i) (by omega) (by omega)]
      exact ⟨fun _ => ih M' f1 f2, fun z => absurd (Int.le_refl _) z⟩
    · intro j j0 j1 ih2 M' f1 f2
      have hR' := repE hR f1
      rw [itJ_s _ j0] at ih2
      have back : ∀ N, G 12 [lr 91, li i, li (j + 1), none, none, none] [] N → G 145 [lr 91, li i, li j, none, none, none] [] N := fun N hN => by
        apply k_Model_movesOne_145 hG
        rw [w32_1 (by omega) (by omega)]; exact hN
      apply k_Model_movesOne_12 hG
      rw [hR' 91 47 rfl, hn.2.2]
      refine ⟨fun z => absurd z (by omega), fun _ => ⟨fun z => ?_, fun z => back M' (ih2 M' f1 (by rw [mvF_n z]; exact f2))⟩⟩
      refine es_up (P := fun k => ∀ (M2 : es_M) (fr : Int), (∀ c, c ≠ 128 → c ≠ 129 → M2 c = M' c) → (∀ x, 0 ≤ x → x < k → M2 128 x = mov (T 17) i j x / 2 ∧ M2 129 x = mov (T 17) i j x % 2) → ((k ≤ j → (k < i → fr = k) ∧ (k = i → fr = i ∨ fr = i + 1) ∧ (i < k → fr = k + 1)) ∧ (j < k → (k - 1 < i → fr = k - 1) ∧ (k - 1 = i → fr = i ∨ fr = i + 1) ∧ (i < k - 1 → fr = k))) → G 33 [lr 91, li i, li j, li fr, li k, none] [] M2) (n := T 14 2) (by omega) ?_ ?_ M' 0 (fun _ _ _ => rfl) (fun x x0 x1 => absurd x1 (by omega)) (by omega)
      · intro M2 fr a1 a2 _
        apply k_Model_movesOne_33 hG
        have e47 : M2 91 47 = T 14 2 := by rw [a1 91 (by decide) (by decide), hR' 91 47 rfl, hn.2.2]
        rw [e47]
        refine ⟨fun _ => s_m_tr (M0 := M) (t := mov (T 17) i j) hT (repE hR (f1.tr a1)) hL n0 (mov_V hV i0 i1 j0 j1) (f1.tr a1) a2 (f2.off a1) (fun M3 x1 x2 => back M3 (ih2 M3 x1 ?_)), fun w => absurd (Int.le_refl _) w⟩
        rw [mvF_y i0 j0 z]; exact x2
      · intro k k0 k1 ih3 M2 fr a1 a2 a3
        have e47 : M2 91 47 = T 14 2 := by rw [a1 91 (by decide) (by decide), hR' 91 47 rfl, hn.2.2]
        have e125 : ∀ x, M2 125 x = T 125 x := fun x => by rw [a1 125 (by decide) (by decide), hR' 125 _ rfl]
        have e126 : ∀ x, M2 126 x = T 126 x := fun x => by rw [a1 126 (by decide) (by decide), hR' 126 _ rfl]
        have frr : 0 ≤ fr ∧ fr ≤ k + 1 := by omega
        -- from the new place on
        have go : ∀ fr', fr' = (if fr = i then fr + 1 else fr) → G 53 [lr 91, li i, li j, none, li k, none] [.inl (if fr = i then 1 else 0), .inl fr] M2 := by
          intro fr' hf
          have wr : ∀ (x its : Int), 0 ≤ x → x < T 14 2 → mov (T 17) i j k = T 17 x → (its = 0 ↔ k ≠ j) → (its = 0 → x = fr') → (¬ its = 0 → x = i) → G 69 [lr 91, li i, li j, li fr', li k, none] [.inl its] M2 := by
            intro x its x0 x1 ex h1 h2 h3
            have mx := hT.or x0 x1
            have nfr : fr' = 0 ∨ 0 < fr' := by omega
            have tail : ∀ it, it = its → ((0 ≤ x ∧ x < 10) ∧ (0 ≤ k ∧ k < 10) ∧ ((it = 0 → G 113 [lr 91, li i, li j, li fr', li k, li it] [.inl fr', .inr (.inr 126), .inl k, .inr (.inr 129)] (es_upd M2 128 k (M2 125 x))) ∧ (¬ it = 0 → G 113 [lr 91, li i, li j, li fr', li k, li it] [.inl i, .inr (.inr 126), .inl k, .inr (.inr 129)] (es_upd M2 128 k (M2 125 x))))) := by
              intro it hit
              have fin : ∀ (add : Int), (add = if k = j then 0 else 1) → G 126 [lr 91, li i, li j, none, li k, none] [.inl add, .inl fr'] (es_upd (es_upd M2 128 k (M2 125 x)) 129 k (M2 126 x)) := by
                intro add hadd
                apply k_Model_movesOne_126 hG
                have nx : ∀ y, y = add → G 33 [lr 91, li i, li j, li (w32 (fr' + y)), li (w32 (k + 1)), none] [] (es_upd (es_upd M2 128 k (M2 125 x)) 129 k (M2 126 x)) := by
                  intro y hy
                  rw [w32_s (k := fr' + y) (by split at hf <;> split at hadd <;> omega) (by split at hf <;> split at hadd <;> omega), w32_1 (by omega) (by omega)]
                  refine ih3 _ _ (fun c c1 c2 => by rw [es_upd_o c c2, es_upd_o c c1]; exact a1 c c1 c2) (fun w w0 w1 => ?_) (by split at hf <;> split at hadd <;> omega)
                  by_cases e : w = k
                  · subst e
                    rw [es_upd_n (by decide), es_upd_s, es_upd_s, ex, e125, e126, mx.2.1, mx.2.2.1]
                    exact ⟨rfl, rfl⟩
                  · rw [es_upd_n (by decide), es_upd_j e, es_upd_j e, es_upd_n (by decide)]
                    exact a2 w w0 (by omega)
                refine s_m_truth (fun q => nx 1 (by split at hadd <;> omega)) (fun q => nx 0 (by omega))
              refine ⟨by omega, by omega, fun q => ?_, fun q => ?_⟩
              · apply k_Model_movesOne_113 hG
                have : x = fr' := h2 (by omega)
                rw [← this, es_upd_n (c := 128) (c' := 126) (by decide)]
                have kj : k ≠ j := h1.mp (by omega)
                refine ⟨by omega, by omega, by rw [e126, mx.2.2.1]; omega, fun w => absurd q w, fun _ => ?_⟩
                have := fin 1 (by rw [if_neg kj])
                rw [← h2 (by omega)] at this
                exact this
              · apply k_Model_movesOne_113 hG
                have : x = i := h3 (by omega)
                rw [← this, es_upd_n (c := 128) (c' := 126) (by decide)]
                have kj : k = j := by
                  by_cases e : k = j
                  · exact e
                  · have := h1.mpr e; omega
                refine ⟨by omega, by omega, by rw [e126, mx.2.2.1]; omega, fun _ => ?_, fun w => absurd w q⟩
                have := fin 0 (by rw [if_pos kj])
                rw [← h3 (by omega)] at this
                exact this
            apply k_Model_movesOne_69 hG
            refine ⟨fun q => ?_, fun q => ?_⟩
            · apply k_Model_movesOne_91 hG
              have t := tail its rfl
              rw [h2 q] at t
              rw [h2 q] at x0
              exact t
            · apply k_Model_movesOne_91 hG
              have t := tail its rfl
              rw [h3 q] at t
              exact t
          apply k_Model_movesOne_53 hG
          have w32f : ∀ y, y = (if fr = i then 1 else 0) → w32 (fr + y) = fr' := by
            intro y hy
            rw [hf, w32_s (by split at hy <;> omega) (by split at hy <;> omega)]
            split at hy <;> (split <;> omega)
          have two : ∀ y, y = (if fr = i then (1 : Int) else 0) → ((¬ k = j → G 69 [lr 91, li i, li j, li (w32 (fr + y)), li k, none] [.inl 0] M2) ∧ (k = j → G 69 [lr 91, li i, li j, li (w32 (fr + y)), li k, none] [.inl 1] M2)) := by
            intro y hy
            rw [w32f y hy]
            refine ⟨fun q => ?_, fun q => ?_⟩
            · have rk := rkF_r i0 i1 j0 j1 k0 k1 q
              have er : rkF i j k = fr' := by
                rw [hf]
                unfold rkF
                split <;> split <;> (split <;> omega)
              refine wr fr' 0 (by omega) (by omega) (by unfold mov; rw [if_neg q, er]) ⟨fun _ => q, fun _ => rfl⟩ (fun _ => rfl) (fun w => absurd rfl w)
            · exact wr i 1 i0 i1 (by unfold mov; rw [if_pos q]) ⟨fun w => absurd w (by decide), fun w => absurd q w⟩ (fun w => absurd w (by decide)) (fun _ => rfl)
          refine s_m_truth (fun q => two 1 ?_) (fun q => two 0 ?_)
          · split at q
            · rw [if_pos (by assumption)]
            · omega
          · split at q
            · omega
            · rw [if_neg (by assumption)]
        apply k_Model_movesOne_33 hG
        rw [e47]
        refine ⟨fun w => absurd w (by omega), fun _ => ⟨fun q => ?_, fun q => ?_⟩⟩
        · have := go _ rfl; rw [if_neg q] at this; exact this
        · have := go _ rfl; rw [if_pos q] at this; exact this
end
