/-! THE HAND: go, judge; rows -/
section
variable {T : es_M}
theorem TI.hn (h : TI T) : 0 ≤ T 14 1 ∧ T 14 1 ≤ 60 ∧ T 91 41 = T 14 1 := by have := h.S.1.1; exact this
theorem TI.hd (h : TI T) {i : Int} (h0 : 0 ≤ i) (h1 : i < T 14 1) : (0 ≤ T 15 i ∧ T 15 i < 12) ∧ T 120 i = T 15 i := by have := h.S.2.2.1 i h0 h1; exact this
theorem TI.hp (h : TI T) {i : Int} (h0 : 0 ≤ i) (h1 : i + 1 < T 14 1) : isP T (T 16 i) ∧ 1 ≤ ln T (T 16 i) ∧ og T (T 16 i) = T 15 i ∧ gl T (T 16 i) = T 15 (i + 1) ∧ pbF T (T 15 i) (T 15 (i + 1)) = T 16 i := by
  obtain ⟨a1, a2, a3, a4⟩ := h.S.2.2.2.1 i h0 h1
  have a1 : 0 ≤ T 16 i ∧ T 16 i < 2 * T 1 0 := a1
  have a2 : 1 ≤ ln T (T 16 i) := a2
  exact ⟨a1, a2, a3, a4, pbF_in h a1.1 a1.2 a3 a4 (by omega)⟩
/-- the turn ahead of the hand's pass i -/
def htF (T : es_M) (i : Int) : Int := if i = 0 then 0 else tmF T (T 15 (i - 1)) (T 15 i) (T 15 (i + 1))
theorem htF_r (h : TI T) {i : Int} (h0 : 0 ≤ i) (h1 : i + 1 < T 14 1) : -1 ≤ htF T i ∧ htF T i ≤ 99 := by
  unfold htF
  split
  · omega
  · exact h.tm (h.hd (i := i - 1) (by omega) (by omega)).1 (h.hd h0 (by omega)).1 (h.hd (i := i + 1) (by omega) h1).1
def jmF (T : es_M) : Nat → Int
  | 0 => 0
  | k + 1 => jmF T k + (max (htF T k) 0 + ln T (T 16 k))
def jbF (T : es_M) : Nat → Int
  | 0 => 0
  | k + 1 => if jbF T k = 0 ∧ htF T k = -1 then -2 - k else jbF T k
def hdF (T : es_M) : Nat → Int
  | 0 => 0
  | k + 1 => dnF T (T 16 k) (hdF T k) (allF T)
theorem jmF_r (h : TI T) : ∀ k : Nat, (k : Int) < T 14 1 → 0 ≤ jmF T k ∧ jmF T k ≤ 198 * k
  | 0, _ => by simp [jmF]
  | k + 1, hk => by
    have h1 := jmF_r h k (by omega)
    have h2 := htF_r h (i := (k : Int)) (by omega) (by omega)
    have h3 := h.hp (i := (k : Int)) (by omega) (by omega)
    have h4 := (h.ps h3.1.1 h3.1.2).2.2.2.1
    show 0 ≤ jmF T k + (max (htF T k) 0 + ln T (T 16 k)) ∧ jmF T k + (max (htF T k) 0 + ln T (T 16 k)) ≤ 198 * ((k + 1 : Nat) : Int)
    omega
theorem jbF_r : ∀ k : Nat, jbF T k ≤ 0 ∧ -2 - (k : Int) ≤ jbF T k
  | 0 => by simp [jbF]
  | k + 1 => by
    have h1 := jbF_r k
    show (if jbF T k = 0 ∧ htF T k = -1 then -2 - (k : Int) else jbF T k) ≤ 0 ∧ -2 - ((k + 1 : Nat) : Int) ≤ (if jbF T k = 0 ∧ htF T k = -1 then -2 - (k : Int) else jbF T k)
    split <;> omega
theorem hdF_r (h : TI T) : ∀ k : Nat, (k : Int) < T 14 1 → 0 ≤ hdF T k ∧ hdF T k < 1024
  | 0, _ => by simp [hdF]
  | k + 1, hk => by
    have h1 := hdF_r h k (by omega)
    have h3 := h.hp (i := (k : Int)) (by omega) (by omega)
    have hn := h.n
    have e := h3.1.2
    exact dnF_r h h3.1.1 (by omega) h1.1 h1.2
end
section
variable {d : Nat} {Q : Int → es_M → Prop} {T M : es_M}
theorem s_handTurn (hT : TI T) (hR : RepC T M) {i : Int} (h0 : 0 ≤ i) (h1 : i + 1 < T 14 1) (h : Q (htF T i) M) : es_Call (d + 3) 103 [.inr (.inr 60), .inl i] M Q := by
  apply c_Ways_handTurn
  have hn := hT.hn
  unfold htF at h
  refine ⟨fun z => ?_, fun z => ?_⟩
  · rw [if_neg z] at h
    rw [show w32 (i - 1) = i - 1 from by unfold w32; omega, hR 16 _ rfl, hR 16 _ rfl]
    have h2 := hT.hp (i := i - 1) (by omega) (by omega)
    have h3 := hT.hp h0 h1
    rw [show i - 1 + 1 = i by omega] at h2
    refine ⟨by omega, by omega, s_turnBetween hT hR h2.1 h3.1 ?_⟩
    rw [h2.2.2.1, h2.2.2.2.1, h3.2.2.2.1]
    exact h
  · rw [if_pos z] at h; exact h
theorem s_doneByHand (hT : TI T) (hR : RepC T M) (h : Q (hdF T (T 14 1 - 1).toNat) M) : es_Call (d + 3) 29 [.inr (.inr 0)] M Q := by
  apply m_EveryStreet_doneByHand
  intro G hG
  apply k_EveryStreet_doneByHand_0 hG
  refine s_allServices hT hR ?_
  have hn := hT.hn
  have ha := hT.all
  have key : ∀ (r k : Nat), (k : Int) + r = max (T 14 1 - 1) 0 → G 12 [lr 0, li (allF T), li (hdF T k), li k] [] M := by
    intro r
    induction r with
    | zero =>
      intro k hk
      apply k_EveryStreet_doneByHand_12 hG
      rw [hR 14 1 rfl, show w32 ((k : Int) + 1) = k + 1 from by unfold w32; omega]
      refine ⟨fun _ => ?_, fun z => absurd (by omega) z⟩
      rw [show (T 14 1 - 1).toNat = k by omega] at h
      exact h
    | succ r ih =>
      intro k hk
      apply k_EveryStreet_doneByHand_12 hG
      have hp := hT.hp (i := (k : Int)) (by omega) (by omega)
      have hnn := hT.n
      have hd := hdF_r hT k (by omega)
      have e := hp.1.2
      rw [hR 14 1 rfl, hR 16 _ rfl, show w32 ((k : Int) + 1) = k + 1 from by unfold w32; omega]
      refine ⟨fun z => absurd z (by omega), fun _ => ⟨by omega, s_doneWith hT hR hp.1.1 (by omega) hd.1 hd.2 ha.1 (by omega) ?_⟩⟩
      exact ih (k + 1) (by omega)
  exact key (max (T 14 1 - 1) 0).toNat 0 (by omega)
theorem s_m_handPass (hT : TI T) (hR : RepM T M) {i : Int} (h0 : 0 ≤ i) (h1 : i + 1 < T 14 1) (h : Q (T 16 i) M) : es_Call (d + 3) 242 [.inr (.inr 91), .inl i] M Q := by
  apply c_Model_handPass
  have hn := hT.hn
  rw [show w32 (i + 1) = i + 1 from by unfold w32; omega, hR 120 _ rfl, hR 120 _ rfl, (hT.hd h0 (by omega)).2, (hT.hd (i := i + 1) (by omega) h1).2]
  refine ⟨by omega, by omega, s_m_passBetween hT hR ?_⟩
  rw [(hT.hp h0 h1).2.2.2.2]
  exact h
theorem s_m_doneByHand (hT : TI T) (hR : RepM T M) (h : Q (hdF T (T 14 1 - 1).toNat) M) : es_Call (d + 4) 243 [.inr (.inr 91)] M Q := by
  apply m_Model_doneByHand
  intro G hG
  apply k_Model_doneByHand_0 hG
  have hn := hT.hn
  have ha := hT.all
  have key : ∀ (r k : Nat), (k : Int) + r = max (T 14 1 - 1) 0 → G 4 [lr 91, li (hdF T k), li k] [] M := by
    intro r
    induction r with
    | zero =>
      intro k hk
      apply k_Model_doneByHand_4 hG
      rw [hR 91 41 rfl, hn.2.2, show w32 ((k : Int) + 1) = k + 1 from by unfold w32; omega]
      refine ⟨fun _ => ?_, fun z => absurd (by omega) z⟩
      rw [show (T 14 1 - 1).toNat = k by omega] at h
      exact h
    | succ r ih =>
      intro k hk
      apply k_Model_doneByHand_4 hG
      have hp := hT.hp (i := (k : Int)) (by omega) (by omega)
      have hnn := hT.n
      have hd := hdF_r hT k (by omega)
      have e := hp.1.2
      rw [hR 91 41 rfl, hn.2.2, show w32 ((k : Int) + 1) = k + 1 from by unfold w32; omega]
      refine ⟨fun z => absurd z (by omega), fun _ => s_m_handPass hT hR (by omega) (by omega) (s_m_all hT hR (s_m_doneBehind hT hR hp.1.1 (by omega) hd.1 hd.2 ha.1 (by omega) ?_))⟩
      exact ih (k + 1) (by omega)
  exact key (max (T 14 1 - 1) 0).toNat 0 (by omega)
/-- the class's row is put into -/
theorem s_put {v : Int} (h0 : 0 ≤ M 58 1) (h1 : M 58 1 < 120) (h : Q 0 (es_upd (es_upd M 59 (M 58 1) v) 58 1 (M 58 1 + 1))) : es_Call (d + 1) 89 [.inr (.inr 58), .inl v] M Q := by
  apply c_Row_put
  rw [es_upd_n (c := 59) (by decide), show w32 (M 58 1 + 1) = M 58 1 + 1 from by unfold w32; omega]
  exact ⟨fun z => absurd z (by omega), fun _ => ⟨⟨h0, h1⟩, h⟩⟩
theorem s_m_enters {v : Int} (h0 : 0 ≤ M 91 1) (h1 : M 91 1 < 200) (h : Q 0 (es_upd (es_upd M 92 (M 91 1) v) 91 1 (M 91 1 + 1))) : es_Call (d + 1) 203 [.inr (.inr 91), .inl v] M Q := by
  apply c_Model_enters
  rw [es_upd_n (c := 92) (by decide), show w32 (M 91 1 + 1) = M 91 1 + 1 from by unfold w32; omega]
  exact ⟨⟨h0, h1⟩, h⟩
theorem P_judge (h : Inv M) : Pair (d + 20) 28 241 [] M := by
  have hT := h.1
  have hn := hT.hn
  apply m_EveryStreet_judge
  intro G hG
  apply k_EveryStreet_judge_0 hG
  refine ⟨fun z => ?_, fun z => ?_⟩
  · have model : ∀ M1, Rep M M1 → M1 58 1 = 2 → M1 59 0 = jmF M (M 14 1 - 1).toNat → M1 59 1 = hdF M (M 14 1 - 1).toNat → CacheOK M M1 → es_Call (d + 20) 241 [.inr (.inr 91)] M1 (fun y' M2 => y' = jbF M (M 14 1 - 1).toNat ∧ Inv M2) := by
      intro M1 hR e1 e2 e3 hc
      apply m_Model_judge
      intro G2 hG2
      apply k_Model_judge_0 hG2
      have hR0 : Rep M (es_upd M1 91 0 0) := hR.upd rfl
      rw [hR0 91 41 rfl, hn.2.2]
      refine ⟨fun _ => ?_, fun z2 => absurd z2 z⟩
      have key : ∀ (r k : Nat), (k : Int) + r = M 14 1 - 1 → G2 20 [lr 91, li (jmF M k), li (jbF M k), li k, none] [] (es_upd M1 91 0 0) := by
        intro r
        induction r with
        | zero =>
          intro k hk
          apply k_Model_judge_20 hG2
          rw [hR0 91 41 rfl, hn.2.2, show w32 ((k : Int) + 1) = k + 1 from by unfold w32; omega]
          refine ⟨fun _ => ?_, fun z => absurd (by omega) z⟩
          have ek : (M 14 1 - 1).toNat = k := by omega
          rw [ek] at e2 e3 ⊢
          refine s_m_enters (by simp [es_upd]) (by simp [es_upd]) ?_
          rw [es_upd_s]
          refine s_m_doneByHand (T := M) hT (((hR0.upd rfl).upd rfl).upd rfl).m ?_
          refine s_m_enters (by simp [es_upd]) (by simp [es_upd]) ⟨rfl, ?_⟩
          rw [es_upd_s]
          have hR2 : Rep M (es_upd (es_upd (es_upd (es_upd (es_upd (es_upd M1 91 0 0) 91 1 0) 92 0 (jmF M k)) 91 1 (0 + 1)) 92 (0 + 1) (hdF M (M 14 1 - 1).toNat)) 91 1 (0 + 1 + 1)) := ((((hR0.upd rfl).upd rfl).upd rfl).upd rfl).upd rfl
          refine h.ask hR2 ⟨?_, fun i i0 i1 => ?_⟩ ?_
          · simp [es_upd, e1]
          · have i1 : i < 2 := by simpa [es_upd, e1] using i1
            rcases (show i = 0 ∨ i = 1 by omega) with rfl | rfl
            · simp [es_upd, e2]
            · simp [es_upd, e3, ek]
          · exact hc.congr rfl rfl (by simp [es_upd]) (by funext j; simp [es_upd]) (by funext j; simp [es_upd]) (by funext j; simp [es_upd])
        | succ r ih =>
          intro k hk
          apply k_Model_judge_20 hG2
          have hm := jmF_r hT k (by omega)
          have ht := htF_r hT (i := (k : Int)) (by omega) (by omega)
          have hp := hT.hp (i := (k : Int)) (by omega) (by omega)
          have hl := hT.ps hp.1.1 hp.1.2
          have hnn := hT.n
          have hpe := hp.1.2
          have hpe0 := hp.1.1
          have ej : jmF M (k + 1) = jmF M k + (max (htF M k) 0 + ln M (M 16 k)) := rfl
          have eb : jbF M (k + 1) = if jbF M k = 0 ∧ htF M k = -1 then -2 - (k : Int) else jbF M k := rfl
          have next := ih (k + 1) (by omega)
          rw [hR0 91 41 rfl, hn.2.2, show w32 ((k : Int) + 1) = k + 1 from by unfold w32; omega]
          refine ⟨fun z => absurd z (by omega), fun _ => s_m_handPass hT hR0.m (by omega) (by omega) ⟨by omega, fun z3 => ?_, fun z3 => ?_⟩⟩
          · rw [show w32 ((k : Int) - 1) = k - 1 from by unfold w32; omega]
            rw [hR0 120 _ rfl, hR0 120 _ rfl, hR0 120 _ rfl, hR0 95 _ rfl, hl.2.2.2.2, (hT.hd (i := (k : Int) - 1) (by omega) (by omega)).2, (hT.hd (i := (k : Int)) (by omega) (by omega)).2, (hT.hd (i := (k : Int) + 1) (by omega) (by omega)).2]
            refine ⟨by omega, by omega, by omega, s_m_turnOf hT hR0.m (hT.hd (i := (k : Int) - 1) (by omega) (by omega)).1 (hT.hd (i := (k : Int)) (by omega) (by omega)).1 (hT.hd (i := (k : Int) + 1) (by omega) (by omega)).1 ?_⟩
            have eh : tmF M (M 15 (k - 1)) (M 15 k) (M 15 (k + 1)) = htF M k := by unfold htF; rw [if_neg z3]
            rw [eh, show w32 (w32 (jmF M k + ln M (M 16 k)) + max 0 (htF M k)) = jmF M (k + 1) from by rw [ej]; unfold w32; omega, show w32 (-2 - (k : Int)) = -2 - k from by unfold w32; omega]
            refine ⟨fun z4 => ?_, fun z4 => ⟨fun z5 => ?_, fun z5 => ?_⟩⟩
            · rw [eb, if_neg (fun u => z4 u.1)] at next; exact next
            · rw [eb, if_neg (fun u => by omega)] at next; exact next
            · rw [eb, if_pos ⟨z4, by omega⟩] at next; exact next
          · have eh : htF M k = 0 := by unfold htF; rw [if_pos z3]
            rw [hR0 95 _ rfl, hl.2.2.2.2, show w32 (w32 (jmF M k + ln M (M 16 k)) + max 0 0) = jmF M (k + 1) from by rw [ej, eh]; unfold w32; omega]
            rw [eb, if_neg (fun u => by omega)] at next
            exact ⟨fun _ => next, fun _ => ⟨fun _ => next, fun q => absurd (by omega) q⟩⟩
      exact key (M 14 1 - 1).toNat 0 (by omega)
    have key : ∀ (r k : Nat), (k : Int) + r = M 14 1 - 1 → G 18 [lr 0, li (jbF M k), li (jmF M k), li k, none] [] M := by
      intro r
      induction r with
      | zero =>
        intro k hk
        apply k_EveryStreet_judge_18 hG
        rw [show w32 ((k : Int) + 1) = k + 1 from by unfold w32; omega]
        refine ⟨fun _ => ?_, fun z => absurd (by omega) z⟩
        have ek : (M 14 1 - 1).toNat = k := by omega
        apply c_Row_clear
        refine s_put (by simp [es_upd]) (by simp [es_upd]) ?_
        rw [es_upd_s]
        refine s_doneByHand (T := M) hT ((((RepC.rf M).upd rfl).upd rfl).upd rfl) ?_
        refine s_put (by simp [es_upd]) (by simp [es_upd]) ?_
        rw [es_upd_s]
        have e := model (es_upd (es_upd (es_upd (es_upd (es_upd M 58 1 0) 59 0 (jmF M k)) 58 1 (0 + 1)) 59 (0 + 1) (hdF M (M 14 1 - 1).toNat)) 58 1 (0 + 1 + 1)) (((((Rep.rf M).upd rfl).upd rfl).upd rfl).upd rfl |>.upd rfl) (by simp [es_upd]) (by simp [es_upd, ek]) (by simp [es_upd, ek]) (h.2.2.congr rfl rfl (by simp [es_upd]) (by funext j; simp [es_upd]) (by funext j; simp [es_upd]) (by funext j; simp [es_upd]))
        rw [ek] at e ⊢
        exact e
      | succ r ih =>
        intro k hk
        apply k_EveryStreet_judge_18 hG
        have hm := jmF_r hT k (by omega)
        have ht := htF_r hT (i := (k : Int)) (by omega) (by omega)
        have hp := hT.hp (i := (k : Int)) (by omega) (by omega)
        have hl := hT.ps hp.1.1 hp.1.2
        have hnn := hT.n
        have hpe := hp.1.2
        have hpe0 := hp.1.1
        have ej : jmF M (k + 1) = jmF M k + (max (htF M k) 0 + ln M (M 16 k)) := rfl
        have eb : jbF M (k + 1) = if jbF M k = 0 ∧ htF M k = -1 then -2 - (k : Int) else jbF M k := rfl
        have next := ih (k + 1) (by omega)
        rw [show w32 ((k : Int) + 1) = k + 1 from by unfold w32; omega, show w32 (-2 - (k : Int)) = -2 - k from by unfold w32; omega]
        have es : w32 (jmF M k + w32 (max (htF M k) 0 + ln M (M 16 k))) = jmF M (k + 1) := by rw [ej]; unfold w32; omega
        refine ⟨fun z => absurd z (by omega), fun _ => s_handTurn hT (RepC.rf M) (by omega) (by omega) ⟨fun z4 => ⟨by omega, s_length (RepC.rf M) hpe0 (by omega) ?_⟩, fun z4 => ⟨fun z5 => ⟨by omega, s_length (RepC.rf M) hpe0 (by omega) ?_⟩, fun z5 => ⟨by omega, s_length (RepC.rf M) hpe0 (by omega) ?_⟩⟩⟩⟩
        · rw [es]; rw [eb, if_neg (fun u => z4 u.2)] at next; exact next
        · rw [es]; rw [eb, if_neg (fun u => z5 u.1)] at next; exact next
        · rw [es]; rw [eb, if_pos ⟨z5, z4⟩] at next; exact next
    exact key (M 14 1 - 1).toNat 0 (by omega)
  · apply m_Model_judge
    intro G2 hG2
    apply k_Model_judge_0 hG2
    rw [rd1 (by decide), hn.2.2]
    exact ⟨fun z2 => absurd z z2, fun _ => ⟨rfl, h.th⟩⟩
end
