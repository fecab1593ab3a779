/-! PAIRS OF CALLS: card (3) -/
def Rc (T M : es_M) (p : Int) (M' : es_M) : Prop := (∀ c, c ≠ 58 → c ≠ 59 → M' c = M c) ∧ (∀ j, j ≠ 1 → M' 58 j = M 58 j) ∧ M' 58 1 = 3 * wcF T p ∧ ∀ q, 1 ≤ q → q < p → nwF T q → M' 59 (3 * wcF T q) = T 15 (q - 1) ∧ M' 59 (3 * wcF T q + 1) = T 15 q ∧ M' 59 (3 * wcF T q + 2) = T 15 (q + 1)
theorem rowC_rep {T M M' : es_M} (h1 : ∀ c, c ≠ 58 → c ≠ 59 → M' c = M c) (hR : RepC T M) : RepC T M' := by
  intro c j q
  by_cases c1 : c = 58
  · subst c1; cases q
  · by_cases c2 : c = 59
    · subst c2; cases q
    · rw [h1 c c1 c2]; exact hR _ _ q
theorem rowC_repM {T M M' : es_M} (h1 : ∀ c, c ≠ 58 → c ≠ 59 → M' c = M c) (hR : RepM T M) : RepM T M' := by
  intro c j q
  by_cases c1 : c = 58
  · subst c1; cases q
  · by_cases c2 : c = 59
    · subst c2; cases q
    · rw [h1 c c1 c2]; exact hR _ _ q
section
variable {d : Nat} {Q : Int → es_M → Prop} {T M : es_M}
theorem s_put' {v : Int} (h0 : 0 ≤ M 58 1) (h1 : M 58 1 < 120) (h : ∀ M', (∀ c, c ≠ 58 → c ≠ 59 → M' c = M c) → (∀ j, j ≠ 1 → M' 58 j = M 58 j) → M' 58 1 = M 58 1 + 1 → M' 59 (M 58 1) = v → (∀ j, j ≠ M 58 1 → M' 59 j = M 59 j) → Q 0 M') : es_Call (d + 1) 89 [.inr (.inr 58), .inl v] M Q := by
  refine s_put h0 h1 (h _ (fun c a b => ?_) (fun j a => ?_) es_upd_s ?_ (fun j a => ?_))
  · rw [es_upd_o c a, es_upd_o c b]
  · rw [es_upd_j a, es_upd_n (by decide)]
  · rw [es_upd_n (by decide)]; exact es_upd_s
  · rw [es_upd_n (by decide), es_upd_j a]
theorem s_m_enters' {v : Int} (h0 : 0 ≤ M 91 1) (h1 : M 91 1 < 200) (h : ∀ M', (∀ c, c ≠ 91 → c ≠ 92 → M' c = M c) → (∀ j, j ≠ 1 → M' 91 j = M 91 j) → M' 91 1 = M 91 1 + 1 → M' 92 (M 91 1) = v → (∀ j, j ≠ M 91 1 → M' 92 j = M 92 j) → Q 0 M') : es_Call (d + 1) 203 [.inr (.inr 91), .inl v] M Q := by
  refine s_m_enters h0 h1 (h _ (fun c a b => ?_) (fun j a => ?_) es_upd_s ?_ (fun j a => ?_))
  · rw [es_upd_o c a, es_upd_o c b]
  · rw [es_upd_j a, es_upd_n (by decide)]
  · rw [es_upd_n (by decide)]; exact es_upd_s
  · rw [es_upd_n (by decide), es_upd_j a]
end
section
variable {d : Nat} {M : es_M}
theorem P_card (h : Inv M) : Pair (d + 20) 44 274 [] M := by
  have hT := h.1
  have hn := hT.hn
  apply m_EveryStreet_card
  intro G hG
  apply k_EveryStreet_card_0 hG
  refine ⟨fun z => s_strayPlace hT (RepC.rf M) ⟨fun s => c_Row_clear ?_, fun s => ?_⟩, fun z => ?_⟩
  · -- the model behind the class
    have fin : ∀ M1, Rc M M (max 1 (M 14 1 - 1)) M1 → es_Call (d + 20) 274 [.inr (.inr 91)] M1 (fun y' M2 => y' = wcF M (max 1 (M 14 1 - 1)) ∧ Inv M2) := by
      intro M1 hc
      apply m_Model_card
      intro G2 hG2
      apply k_Model_card_0 hG2
      have hR1 : RepM M (es_upd M1 91 0 0) := (rowC_repM hc.1 (RepM.rf M)).upd rfl
      rw [hR1 91 41 rfl, hn.2.2]
      refine ⟨fun _ => s_m_writes hT hR1 (fun M2 _ W => ⟨fun _ => ?_, fun w => absurd (Int.le_refl _) w⟩) (fun M' p s' W => absurd s s'), fun w => absurd w z⟩
      have wr := wcF_r M (p := max 1 (M 14 1 - 1)) (by omega)
      have w36 : wcF M (max 1 (M 14 1 - 1)) ≤ 36 := by
        by_cases q : M 14 1 = 1
        · rw [q]; show wcF M 1 ≤ 36; rw [wcF_1]; omega
        · exact wcF_36 hT (by omega) (by omega)
      generalize hm : max 1 (M 14 1 - 1) = m at *
      have hm1 : 1 ≤ m ∧ m ≤ 59 ∧ (m = 1 ∨ m + 1 = M 14 1) := by omega
      -- one word after another
      have loop : ∀ M3, (∀ c, c ≠ 91 → c ≠ 92 → M3 c = M2 c) → (∀ j, j ≠ 1 → M3 91 j = M2 91 j) → M3 91 1 = 3 * 0 → (∀ q, 1 ≤ q → q < m → nwF M q → wcF M q < 0 → M3 92 (3 * wcF M q) = M 15 (q - 1) ∧ M3 92 (3 * wcF M q + 1) = M 15 q ∧ M3 92 (3 * wcF M q + 2) = M 15 (q + 1)) → G2 32 [lr 91, none, li 0] [] M3 := by
        refine es_up (P := fun w => ∀ M3, (∀ c, c ≠ 91 → c ≠ 92 → M3 c = M2 c) → (∀ j, j ≠ 1 → M3 91 j = M2 91 j) → M3 91 1 = 3 * w → (∀ q, 1 ≤ q → q < m → nwF M q → wcF M q < w → M3 92 (3 * wcF M q) = M 15 (q - 1) ∧ M3 92 (3 * wcF M q + 1) = M 15 q ∧ M3 92 (3 * wcF M q + 2) = M 15 (q + 1)) → G2 32 [lr 91, none, li w] [] M3) (n := wcF M m) wr.1 ?_ ?_
        · intro M3 f1 f2 f3 f4
          apply k_Model_card_32 hG2
          rw [f2 60 (by decide), W.2.2.1]
          refine ⟨fun _ => ⟨rfl, ?_⟩, fun w => absurd (Int.le_refl _) w⟩
          have fr : ∀ c, c ≠ 91 → c ≠ 92 → c ≠ 136 → M3 c = M1 c := fun c a b e => by rw [f1 c a b, W.1 c a e, es_upd_o c a]
          have fr2 : ∀ c, c ≠ 91 → c ≠ 92 → c ≠ 136 → c ≠ 58 → c ≠ 59 → M3 c = M c := fun c a b e e1 e2 => by rw [fr c a b e, hc.1 c e1 e2]
          have fr3 : ∀ j, j ≠ 0 → j ≠ 1 → j ≠ 60 → M3 91 j = M 91 j := fun j a b e => by rw [f2 j b, W.2.1 j e, es_upd_j a, hc.1 91 (by decide) (by decide)]
          refine h.ask (fun c j q => ?_) ?_ (h.2.2.congr rfl rfl ?_ ?_ ?_ ?_)
          · by_cases c1 : c = 91
            · subst c1
              refine fr3 j ?_ ?_ ?_ <;> (rintro rfl; cases q)
            · rw [fr2 c c1 ?_ ?_ ?_ ?_] <;> (rintro rfl; cases q)
          · unfold RowEq
            rw [fr 58 (by decide) (by decide) (by decide), fr 59 (by decide) (by decide) (by decide), hc.2.2.1, f3]
            refine ⟨⟨rfl, by omega, by omega⟩, fun i i0 i1 => ?_⟩
            obtain ⟨q, b1, b2, b3, b4⟩ := wcF_find M (i / 3) (by omega) (m - 1).toNat (by rw [show 1 + (((m - 1).toNat : Nat) : Int) = m by omega]; omega)
            have g1 := f4 q b1 (by omega) b3 (by omega)
            have g2 := hc.2.2.2 q b1 (by omega) b3
            rw [b4] at g1 g2
            rcases (show i = 3 * (i / 3) ∨ i = 3 * (i / 3) + 1 ∨ i = 3 * (i / 3) + 2 by omega) with e | e | e
            · rw [e, g1.1, g2.1]
            · rw [e, g1.2.1, g2.2.1]
            · rw [e, g1.2.2, g2.2.2]
          · rw [fr2 60 (by decide) (by decide) (by decide) (by decide) (by decide)]
          · exact fr2 61 (by decide) (by decide) (by decide) (by decide) (by decide)
          · exact fr2 62 (by decide) (by decide) (by decide) (by decide) (by decide)
          · exact fr2 63 (by decide) (by decide) (by decide) (by decide) (by decide)
        · intro w w0 w1 ih M3 f1 f2 f3 f4
          obtain ⟨q, b1, b2, b3, b4⟩ := wcF_find M w w0 (m - 1).toNat (by rw [show 1 + (((m - 1).toNat : Nat) : Int) = m by omega]; omega)
          have hw := W.2.2.2 q b1 (by omega) b3
          rw [b4] at hw
          have hd0 := (hT.hd (i := q - 1) (by omega) (by omega))
          have hd1 := (hT.hd (i := q) (by omega) (by omega))
          have hd2 := (hT.hd (i := q + 1) (by omega) (by omega))
          have hr2 := W.rep hR1
          apply k_Model_card_32 hG2
          rw [f2 60 (by decide), W.2.2.1, f1 136 (by decide) (by decide), hw, w32_m (by omega) (by omega), f1 120 (by decide) (by decide), hr2 120 _ rfl, hd0.2]
          refine ⟨fun y => absurd y (by omega), fun _ => ⟨by omega, by omega, s_m_enters' (by omega) (by omega) (fun M4 e1 e2 e3 e4 e5 => ⟨by omega, ?_⟩)⟩⟩
          rw [e1 136 (by decide) (by decide), f1 136 (by decide) (by decide), hw, e1 120 (by decide) (by decide), f1 120 (by decide) (by decide), hr2 120 _ rfl, hd1.2]
          refine ⟨by omega, s_m_enters' (by omega) (by omega) (fun M5 g1 g2 g3 g4 g5 => ⟨by omega, ?_⟩)⟩
          rw [g1 136 (by decide) (by decide), e1 136 (by decide) (by decide), f1 136 (by decide) (by decide), hw, w32_1 (by omega) (by omega), g1 120 (by decide) (by decide), e1 120 (by decide) (by decide), f1 120 (by decide) (by decide), hr2 120 _ rfl, hd2.2]
          refine ⟨by omega, s_m_enters' (by omega) (by omega) (fun M6 i1 i2 i3 i4 i5 => ?_)⟩
          rw [w32_1 (by omega) (by omega)]
          refine ih M6 (fun c a b => by rw [i1 c a b, g1 c a b, e1 c a b, f1 c a b]) (fun j a => by rw [i2 j a, g2 j a, e2 j a, f2 j a]) (by omega) (fun q' q0 q1 nq lt => ?_)
          by_cases e : wcF M q' < w
          · rw [i5 _ (by omega), i5 _ (by omega), i5 _ (by omega), g5 _ (by omega), g5 _ (by omega), g5 _ (by omega), e5 _ (by omega), e5 _ (by omega), e5 _ (by omega)]
            exact f4 q' q0 q1 nq e
          · have qq : q' = q := by
              have m1 : ¬ q' < q := fun y => by
                have := wcF_s (T := M) q0
                rw [if_pos nq] at this
                have := wcF_m (T := M) (p := q' + 1) (q := q) (by omega) (by omega)
                omega
              have m2 : ¬ q < q' := fun y => by
                have := wcF_s (T := M) b1
                rw [if_pos b3] at this
                have := wcF_m (T := M) (p := q + 1) (q := q') (by omega) (by omega)
                omega
              omega
            subst qq
            rw [b4]
            refine ⟨?_, ?_, ?_⟩
            · rw [i5 _ (by omega), g5 _ (by omega), ← f3]; exact e4
            · rw [i5 _ (by omega), show 3 * w + 1 = M4 91 1 by omega]; exact g4
            · rw [show 3 * w + 2 = M5 91 1 by omega]; exact i4
      refine loop _ (fun c a _ => es_upd_o c a) (fun j a => es_upd_j a) es_upd_s (fun q q0 _ _ lt => ?_)
      have := wcF_r M q0
      omega
    have R1 : Rc M M 1 (es_upd M 58 1 0) := ⟨fun c a _ => es_upd_o c a, fun j a => es_upd_j a, es_upd_s, fun q a b => by omega⟩
    have stop : ∀ M', Rc M M (max 1 (M 14 1 - 1)) M' → G 41 [lr 0, none, li (wcF M (max 1 (M 14 1 - 1))), li (max 1 (M 14 1 - 1))] [] M' := by
      intro M' hc
      apply k_EveryStreet_card_41 hG
      rw [hc.1 14 (by decide) (by decide), w32_1 (by omega) (by omega)]
      exact ⟨fun _ => fin M' hc, fun y => absurd (by omega) y⟩
    refine es_upl (lo := 1) (P := fun k => ∀ M', Rc M M k M' → G 41 [lr 0, none, li (wcF M k), li k] [] M') (n := max 1 (M 14 1 - 1)) (by omega) stop ?_ _ R1
    intro k k0 k1 ih M' hc
    have hR' := rowC_rep hc.1 (RepC.rf M)
    have wr := wcF_r M k0
    have w36 := wcF_36 hT (p := k + 1) (by omega) (by omega)
    apply k_EveryStreet_card_41 hG
    rw [hR' 14 1 rfl, w32_1 (k := k) (by omega) (by omega), w32_m (by omega) (by omega), w32_1 (by omega) (by omega)]
    have e0 := wcF_s (T := M) k0
    refine ⟨fun w => absurd w (by omega), fun _ => s_isNewWord hT hR' k0 (by omega) (fun nw => es_t1 ⟨by omega, ?_⟩) (fun nw => es_t0 ?_)⟩
    · rw [if_pos nw] at e0
      have c3 := hc.2.2.1
      rw [hR' 15 _ rfl]
      refine s_put' (by omega) (by omega) (fun M4 e1 e2 e3 e4 e5 => ⟨by omega, ?_⟩)
      rw [e1 15 (by decide) (by decide), hR' 15 _ rfl]
      refine s_put' (by omega) (by omega) (fun M5 g1 g2 g3 g4 g5 => ⟨by omega, ?_⟩)
      rw [g1 15 (by decide) (by decide), e1 15 (by decide) (by decide), hR' 15 _ rfl]
      refine s_put' (by omega) (by omega) (fun M6 i1 i2 i3 i4 i5 => ?_)
      rw [← e0]
      refine ih M6 ⟨fun c a b => by rw [i1 c a b, g1 c a b, e1 c a b, hc.1 c a b], fun j a => by rw [i2 j a, g2 j a, e2 j a, hc.2.1 j a], by omega, fun q q0 q1 nq => ?_⟩
      by_cases e : q = k
      · subst e
        refine ⟨?_, ?_, ?_⟩
        · rw [i5 _ (by omega), g5 _ (by omega), ← c3]; exact e4
        · rw [i5 _ (by omega), show 3 * wcF M q + 1 = M4 58 1 by omega]; exact g4
        · rw [show 3 * wcF M q + 2 = M5 58 1 by omega]; exact i4
      · have m1 := wcF_s (T := M) q0
        rw [if_pos nq] at m1
        have := wcF_m (T := M) (p := q + 1) (q := k) (by omega) (by omega)
        rw [i5 _ (by omega), i5 _ (by omega), i5 _ (by omega), g5 _ (by omega), g5 _ (by omega), g5 _ (by omega), e5 _ (by omega), e5 _ (by omega), e5 _ (by omega)]
        exact hc.2.2.2 q q0 (by omega) nq
    · rw [if_neg nw, Int.add_zero] at e0
      rw [← e0]
      refine ih M' ⟨hc.1, hc.2.1, by rw [e0]; exact hc.2.2.1, fun q q0 q1 nq => ?_⟩
      by_cases e : q = k
      · subst e; exact absurd nq nw
      · exact hc.2.2.2 q q0 (by omega) nq
  · rcases fiF_sp (stray M) (M 14 1 - 1 - 1).toNat 1 (by decide) with ⟨b, -⟩ | ⟨b, -⟩
    · exact absurd b s
    · have b : 1 ≤ strF M ∧ strF M < 1 + (((M 14 1 - 1 - 1).toNat : Nat) : Int) := b
      rw [w32_s (by omega) (by omega)]
      apply m_Model_card
      intro G2 hG2
      apply k_Model_card_0 hG2
      rw [rd1 (by decide), hn.2.2]
      exact ⟨fun _ => s_m_writes hT rep0 (fun M2 s' W => absurd s' s) (fun M' p s' W => ⟨fun y => absurd y (by omega), fun _ => ⟨rfl, W.inv h.th⟩⟩), fun w => absurd w z⟩
  · apply m_Model_card
    intro G2 hG2
    apply k_Model_card_0 hG2
    rw [rd1 (by decide), hn.2.2]
    exact ⟨fun w => absurd z w, fun _ => ⟨rfl, h.th⟩⟩
end
