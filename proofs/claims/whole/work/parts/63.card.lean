/-! PAIRS OF CALLS: card, mislead (2) -/
/-- words written: the places of the words ahead of p -/
def Wr (T : es_M) (M : es_M) (p : Int) (M' : es_M) : Prop := (∀ c, c ≠ 91 → c ≠ 136 → M' c = M c) ∧ (∀ j, j ≠ 60 → M' 91 j = M 91 j) ∧ M' 91 60 = wcF T p ∧ ∀ q, 1 ≤ q → q < p → nwF T q → M' 136 (wcF T q) = q
theorem Wr.rep {T M M' : es_M} {p : Int} (h : Wr T M p M') (hR : RepM T M) : RepM T M' := by
  intro c j q
  by_cases c1 : c = 91
  · subst c1
    by_cases j1 : j = 60
    · subst j1; cases q
    · rw [h.2.1 j j1]; exact hR _ _ q
  · by_cases c2 : c = 136
    · subst c2; cases q
    · rw [h.1 c c1 c2]; exact hR _ _ q
theorem Wr.inv {T M M' : es_M} {p : Int} (h : Wr T M p M') (hI : Inv M) : Inv M' := by
  refine hI.same (fun c j q => ?_) (h.1 _ (by decide) (by decide)) (h.1 _ (by decide) (by decide)) (by rw [h.1 60 (by decide) (by decide)]) (h.1 _ (by decide) (by decide)) (h.1 _ (by decide) (by decide)) (h.1 _ (by decide) (by decide)) (h.2.1 1 (by decide)) (h.1 _ (by decide) (by decide))
  by_cases c1 : c = 91
  · subst c1
    by_cases j1 : j = 60
    · subst j1; cases q
    · exact h.2.1 j j1
  · by_cases c2 : c = 136
    · subst c2; cases q
    · rw [h.1 c c1 c2]
theorem strF_no {T : es_M} (h : strF T = -1) {p : Int} (p0 : 1 ≤ p) (p1 : p + 1 < T 14 1) : ¬ stray T p := by
  rcases fiF_sp (stray T) (T 14 1 - 1 - 1).toNat 1 (by decide) with ⟨-, b⟩ | ⟨a, -⟩
  · exact b p p0 (by omega)
  · unfold strF at h; omega
section
variable {d : Nat} {Q : Int → es_M → Prop} {T M : es_M}
theorem s_m_writes (hT : TI T) (hR : RepM T M) (h0 : ∀ M', strF T = -1 → Wr T M (max 1 (T 14 1 - 1)) M' → Q 0 M') (h1 : ∀ M' p, ¬ strF T = -1 → Wr T M p M' → Q (-2 - strF T) M') : es_Call (d + 2) 275 [.inr (.inr 91)] M Q := by
  apply m_Model_writes
  intro G hG
  apply k_Model_writes_0 hG
  have hn := hT.hn
  have W1 : Wr T M 1 (es_upd M 91 60 0) := ⟨fun c a _ => es_upd_o c a, fun j a => es_upd_j a, es_upd_s, fun q a b => by omega⟩
  have h0' : ∀ M', strF T = -1 → Wr T M (T 14 1 - 1) M' → 1 ≤ T 14 1 - 1 → Q 0 M' := fun M' a b c => h0 M' a (by rw [show max 1 (T 14 1 - 1) = T 14 1 - 1 by omega]; exact b)
  by_cases small : T 14 1 ≤ 2
  · apply k_Model_writes_7 hG
    rw [es_upd_j (by decide), hR 91 41 rfl, hn.2.2, w32_1 (by omega) (by omega)]
    refine ⟨fun _ => h0 _ ?_ ?_, fun z => absurd (by omega) z⟩
    · unfold strF; rw [show (T 14 1 - 1 - 1).toNat = 0 by omega]; rfl
    · rw [show max 1 (T 14 1 - 1) = 1 by omega]; exact W1
  refine es_upl (P := fun k => ∀ M', Wr T M k M' → strF T = fiF (stray T) k (T 14 1 - 1 - k).toNat → G 7 [lr 91, li k, none] [] M') (n := T 14 1 - 1) (by omega) ?_ ?_ _ W1 rfl
  · intro M' hW hs
    apply k_Model_writes_7 hG
    rw [(hW.rep hR) 91 41 rfl, hn.2.2, w32_1 (by omega) (by omega)]
    refine ⟨fun _ => h0' M' ?_ hW (by omega), fun z => absurd (by omega) z⟩
    rw [hs, show (T 14 1 - 1 - (T 14 1 - 1)).toNat = 0 by omega]; rfl
  · intro k k0 k1 ih M' hW hs
    have hR' := hW.rep hR
    have hwc := wcF_r T k0
    apply k_Model_writes_7 hG
    rw [hR' 91 41 rfl, hn.2.2, w32_1 (k := k) (by omega) (by omega)]
    rw [fiF_s _ k1] at hs
    refine ⟨fun z => absurd z (by omega), fun _ => s_m_cameAhead hT hR' k0 (by omega) ?_⟩
    have hcb := cbF_sp T k0
    refine ⟨fun z => ⟨fun w => absurd w (by omega), fun _ => ?_⟩, fun z => ?_⟩
    · have hc : cbF T k = -1 := by omega
      rw [if_neg (fun y => y.1 hc)] at hs
      refine s_m_isStraight hT hR' k0 (by omega) (fun st => es_f1 (ih _ ⟨hW.1, hW.2.1, ?_, fun q q0 q1 nq => ?_⟩ hs)) (fun st => es_f0 ?_)
      · rw [wcF_s k0, if_neg (fun y => y.1 st), hW.2.2.1]; omega
      · by_cases e : q = k
        · subst e; exact absurd st nq.1
        · exact hW.2.2.2 q q0 (by omega) nq
      · rw [es_upd_n (by decide), hW.2.2.1, w32_1 (by omega) (by omega)]
        refine ⟨by omega, ih _ ⟨fun c a b => ?_, fun j a => ?_, ?_, fun q q0 q1 nq => ?_⟩ hs⟩
        · rw [es_upd_o c a, es_upd_o c b]; exact hW.1 c a b
        · rw [es_upd_j a, es_upd_n (by decide)]; exact hW.2.1 j a
        · rw [es_upd_s, wcF_s k0, if_pos ⟨st, hc⟩]
        · rw [es_upd_n (by decide)]
          by_cases e : q = k
          · subst e; exact es_upd_s
          · have e1 := wcF_s (T := T) q0
            rw [if_pos nq] at e1
            have := wcF_m (T := T) (p := q + 1) (q := k) (by omega) (by omega)
            rw [es_upd_j (by omega)]
            exact hW.2.2.2 q q0 (by omega) nq
    · rw [w32_1 (by omega) (by omega), hR' 120 _ rfl, hR' 120 _ rfl, (hT.hd (i := cbF T k + 1) (by omega) (by omega)).2, (hT.hd (i := k + 1) (by omega) (by omega)).2]
      refine ⟨by omega, by omega, fun w => ⟨fun _ => ?_, fun y => absurd (by omega) y⟩, fun w => ?_⟩
      · rw [if_neg (fun y => y.2 w)] at hs
        refine ih _ ⟨hW.1, hW.2.1, ?_, fun q q0 q1 nq => ?_⟩ hs
        · rw [wcF_s k0, if_neg (fun y => by have := y.2; omega), hW.2.2.1]; omega
        · by_cases e : q = k
          · subst e; have := nq.2; omega
          · exact hW.2.2.2 q q0 (by omega) nq
      · rw [if_pos ⟨by omega, w⟩] at hs
        rw [w32_s (by omega) (by omega)]
        have := h1 M' k (by omega) hW
        rw [hs] at this; exact this
end
section
variable {d : Nat} {M : es_M}
theorem P_mislead (h : Inv M) {a : Int} : Pair (d + 20) 45 278 [.inl a] M := by
  have hT := h.1
  have hn := hT.hn
  apply m_EveryStreet_mislead
  intro G hG
  apply k_EveryStreet_mislead_0 hG
  -- the model, where the class finds none
  have none : a < 0 ∨ ¬ strF M = -1 ∨ (∀ q, 1 ≤ q → q + 1 < M 14 1 → nwF M q → ¬ wcF M q = a) → es_Call (d + 20) 278 [.inr (.inr 91), .inl a] M (fun y' M2 => y' = -1 ∧ Inv M2) := by
    intro hq
    apply c_Model_mislead
    rw [rd1 (by decide), hn.2.2]
    refine ⟨fun _ => ⟨rfl, h.th⟩, fun z => s_m_writes hT rep0 (fun M' s W => ⟨fun w => absurd rfl w, fun _ => ?_⟩) (fun M' p s W => ⟨fun _ => ⟨rfl, W.inv h.th⟩, fun w => ?_⟩)⟩
    · rw [W.2.2.1]
      have hr := wcF_r M (p := max 1 (M 14 1 - 1)) (by omega)
      rw [w32_m (by omega) (by omega)]
      refine s_m_in (fun q1 q2 => ?_) (fun _ => ⟨fun _ => ⟨rfl, W.inv h.th⟩, fun w => absurd rfl w⟩)
      exfalso
      rcases hq with hq | hq | hq
      · omega
      · exact hq s
      · obtain ⟨q, b1, b2, b3, b4⟩ := wcF_find M a q1 (max 1 (M 14 1 - 1) - 1).toNat (by rw [show 1 + (((max 1 (M 14 1 - 1) - 1).toNat : Nat) : Int) = max 1 (M 14 1 - 1) by omega]; omega)
        exact hq q b1 (by omega) b3 b4
    · rcases fiF_sp (stray M) (M 14 1 - 1 - 1).toNat 1 (by decide) with ⟨b, -⟩ | ⟨b, -⟩
      · exact absurd b s
      · unfold strF at w; omega
  refine ⟨fun z => none (Or.inl z), fun z => s_strayPlace hT (RepC.rf M) ⟨fun s => ?_, fun s => none (Or.inr (Or.inl s))⟩⟩
  by_cases small : M 14 1 ≤ 2
  · apply k_EveryStreet_mislead_21 hG
    rw [w32_1 (by omega) (by omega)]
    exact ⟨fun _ => none (Or.inr (Or.inr fun q q0 q1 => by omega)), fun w => absurd (by omega) w⟩
  refine es_upl (lo := 1) (P := fun k => (∀ q, 1 ≤ q → q < k → nwF M q → ¬ wcF M q = a) → G 21 [lr 0, li a, li (wcF M k), li k] [] M) (n := M 14 1 - 1) (by omega) ?_ ?_ (fun q q0 q1 => by omega)
  · intro hq
    apply k_EveryStreet_mislead_21 hG
    rw [w32_1 (by omega) (by omega)]
    exact ⟨fun _ => none (Or.inr (Or.inr fun q q0 q1 => hq q q0 (by omega))), fun w => absurd (by omega) w⟩
  · intro k k0 k1 ih hq
    have hwc := wcF_r M k0
    apply k_EveryStreet_mislead_21 hG
    rw [w32_1 (k := k) (by omega) (by omega), w32_1 (by omega) (by omega)]
    rw [wcF_s k0] at ih
    refine ⟨fun w => absurd w (by omega), fun _ => s_isNewWord hT (RepC.rf M) k0 (by omega) (fun nw => es_t1 ⟨fun w => ?_, fun w => ?_⟩) (fun nw => es_t0 ?_)⟩
    · rw [if_pos nw] at ih
      refine ih fun q q0 q1 nq => ?_
      by_cases e : q = k
      · subst e; exact w
      · exact hq q q0 (by omega) nq
    · apply c_Model_mislead
      rw [rd1 (by decide), hn.2.2]
      refine ⟨fun y => absurd y (by omega), fun _ => s_m_writes hT rep0 (fun M' s W => ⟨fun w => absurd rfl w, fun _ => ?_⟩) (fun M' p s' W => absurd s s')⟩
      have e1 := wcF_s (T := M) k0
      rw [if_pos nw] at e1
      have := wcF_m (T := M) (p := k + 1) (q := M 14 1 - 1) (by omega) (by omega)
      have := wcF_r M (p := M 14 1 - 1) (by omega)
      have e2 := W.2.2.2 k k0 (by omega) nw
      rw [W.2.2.1, show max 1 (M 14 1 - 1) = M 14 1 - 1 by omega, w32_m (by omega) (by omega)]
      refine s_m_in (fun q1 q2 => es_t1 ⟨by omega, ?_, W.inv h.th⟩) (fun y => absurd ⟨by omega, by omega⟩ y)
      rw [← w]; exact e2
    · rw [if_neg nw, Int.add_zero] at ih
      refine ih fun q q0 q1 nq => ?_
      by_cases e : q = k
      · subst e; exact absurd nq nw
      · exact hq q q0 (by omega) nq
end
