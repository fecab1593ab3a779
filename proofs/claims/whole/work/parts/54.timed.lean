/-! PAIRS OF CALLS: timed -/
/-- how long a pass takes that begins at b -/
def lstF (T : es_M) (p b : Int) : Int := (ln T p * T 20 (b / 60) + 99) / 100
section
variable {T : es_M}
theorem TI.bz (h : TI T) {i : Int} (h0 : 0 ≤ i) (h1 : i < 24) : (1 ≤ T 20 i ∧ T 20 i ≤ 400) ∧ T 121 i = T 20 i := by have := h.S.2.2.2.2.2.2.1 i h0 h1; exact this
theorem TI.op (h : TI T) {s : Int} (h0 : 0 ≤ s) (h1 : s < 18) : (0 ≤ T 21 s ∧ T 21 s ≤ 1439) ∧ T 99 s = T 21 s ∧ (0 ≤ T 22 s ∧ T 22 s ≤ 1439) ∧ T 100 s = T 22 s := by have := h.S.2.2.2.2.2.2.2.1 s h0 h1; exact this
theorem mul_r {a b : Int} (a0 : 1 ≤ a) (a1 : a ≤ 99) (b0 : 1 ≤ b) (b1 : b ≤ 400) : 1 ≤ a * b ∧ a * b ≤ 39600 := by
  constructor
  · have := Int.mul_le_mul a0 b0 (by omega) (by omega); omega
  · have := Int.mul_le_mul a1 b1 (by omega) (by omega); omega
theorem lstF_r (h : TI T) {p b : Int} (hp : isP T p) (hl : ¬ ln T p = -1) (b0 : 0 ≤ b) (b1 : b ≤ 1439) : 1 ≤ lstF T p b ∧ lstF T p b ≤ 396 := by
  have h1 := (h.bz (i := b / 60) (by omega) (by omega)).1
  have h2 := (h.ps hp.1 hp.2).2.2.2.1
  have h3 := mul_r (a := ln T p) (b := T 20 (b / 60)) (by omega) (by omega) h1.1 h1.2
  unfold lstF
  omega
def tiF (T : es_M) (m : Int) : Nat → Int
  | 0 => m
  | k + 1 => max (tiF T m k + htF T k) (T 21 (T 16 k / 2)) + lstF T (T 16 k) (max (tiF T m k + htF T k) (T 21 (T 16 k / 2)))
def beF (T : es_M) (m : Int) (k : Nat) : Int := max (tiF T m k + htF T k) (T 21 (T 16 k / 2))
def flF (T : es_M) (m : Int) (k : Nat) : Prop := htF T k = -1 ∨ T 22 (T 16 k / 2) < beF T m k ∨ 1440 < beF T m k + lstF T (T 16 k) (beF T m k)
theorem tiF_s (m : Int) (k : Nat) : tiF T m (k + 1) = beF T m k + lstF T (T 16 k) (beF T m k) := rfl
theorem tiF_r (h : TI T) {m : Int} (m0 : 0 ≤ m) (m1 : m < 1440) : ∀ k : Nat, (k : Int) < max (T 14 1) 1 → (∀ j, j < k → ¬ flF T m j) → 0 ≤ tiF T m k ∧ tiF T m k ≤ 1440
  | 0, _, _ => by show 0 ≤ m ∧ m ≤ 1440; omega
  | k + 1, hk, hf => by
    have h1 := tiF_r h m0 m1 k (by omega) (fun j hj => hf j (by omega))
    have h2 := hf k (by omega)
    unfold flF at h2
    have h3 := h.hp (i := (k : Int)) (by omega) (by omega)
    have h4 := htF_r h (i := (k : Int)) (by omega) (by omega)
    have h5 := h.op (s := T 16 k / 2) (by have := h3.1.1; omega) (by have := h3.1.2; have := h.n; omega)
    have h6 : 0 ≤ beF T m k ∧ beF T m k ≤ 1439 := by unfold beF at h2 ⊢; omega
    have h7 := lstF_r h h3.1 (by omega) h6.1 h6.2
    rw [tiF_s]
    omega
end
section
variable {d : Nat} {Q : Int → es_M → Prop} {T M : es_M}
theorem s_endOf (hT : TI T) (hR : RepC T M) {p b : Int} (hp : isP T p) (hl : ¬ ln T p = -1) (b0 : 0 ≤ b) (b1 : b ≤ 1439) (h : Q (b + lstF T p b) M) : es_Call (d + 2) 160 [.inr (.inr 88), .inl p, .inl b] M Q := by
  apply c_Clock_endOf
  have hn := hT.n
  have e1 := hp.1; have e2 := hp.2
  refine ⟨by decide, s_length hR e1 (by omega) ?_⟩
  have h1 := (hT.bz (i := b / 60) (by omega) (by omega)).1
  have h2 := (hT.ps hp.1 hp.2).2.2.2.1
  have h3 := mul_r (a := ln T p) (b := T 20 (b / 60)) (by omega) (by omega) h1.1 h1.2
  have h4 := lstF_r hT hp hl b0 b1
  rw [ei_div b0 (by omega) (by decide) (by decide), show min (b / 60) 23 = b / 60 by omega, hR 20 _ rfl, show w32 (w32 (w32 (ln T p * T 20 (b / 60)) + 100) - 1) = ln T p * T 20 (b / 60) + 99 from by unfold w32; omega, ei_div (by omega) (by omega) (by decide) (by decide), show w32 (b + (ln T p * T 20 (b / 60) + 99) / 100) = b + lstF T p b from by unfold lstF at h4 ⊢; unfold w32; omega]
  exact ⟨by omega, by decide, h⟩
theorem s_m_lasts (hT : TI T) (hR : RepM T M) {p b : Int} (hp : isP T p) (hl : ¬ ln T p = -1) (b0 : 0 ≤ b) (b1 : b ≤ 1439) (h : Q (lstF T p b) M) : es_Call (d + 1) 246 [.inr (.inr 91), .inl p, .inl b] M Q := by
  apply c_Model_lasts
  have hn := hT.n
  have e1 := hp.1; have e2 := hp.2
  have h1 := hT.bz (i := b / 60) (by omega) (by omega)
  have h2 := hT.ps hp.1 hp.2
  have h3 := mul_r (a := ln T p) (b := T 20 (b / 60)) (by omega) (by omega) h1.1.1 h1.1.2
  rw [ei_div b0 (by omega) (by decide) (by decide), hR 95 _ rfl, hR 121 _ rfl, h2.2.2.2.2, h1.2, show w32 (w32 (ln T p * T 20 (b / 60)) + 99) = ln T p * T 20 (b / 60) + 99 from by unfold w32; omega, ei_div (by omega) (by omega) (by decide) (by decide)]
  exact ⟨by omega, by decide, by omega, by decide, h⟩
theorem s_timeHand (hT : TI T) (hR : RepC T M) {m : Int} (m0 : 0 ≤ m) (m1 : m < 1440) (hn0 : 0 < T 14 1)
    (hbad : ∀ (k : Nat) (M' : es_M), (k : Int) + 1 < T 14 1 → flF T m k → (∀ j, j < k → ¬ flF T m j) → (∀ c, c ≠ 90 → M' c = M c) → Q (-2 - k) M')
    (hok : ∀ M' : es_M, (∀ j : Nat, (j : Int) + 1 < T 14 1 → ¬ flF T m j) → (∀ c, c ≠ 90 → c ≠ 58 → c ≠ 59 → M' c = M c) → M' 58 1 = T 14 1 - 1 → (∀ i : Nat, (i : Int) + 1 < T 14 1 → M' 59 i = beF T m i - tiF T m i - htF T i) → Q (tiF T m (T 14 1 - 1).toNat) M') : es_Call (d + 5) 159 [.inr (.inr 88), .inl m, .inr (.inr 58)] M Q := by
  apply m_Clock_timeHand
  intro G hG
  apply k_Clock_timeHand_0 hG
  have hn := hT.hn
  have hnn := hT.n
  have rows : ∀ (r k : Nat) (M' : es_M), (k : Int) + r = T 14 1 - 1 → (∀ j : Nat, (j : Int) + 1 < T 14 1 → ¬ flF T m j) → (∀ c, c ≠ 90 → c ≠ 58 → c ≠ 59 → M' c = M c) → M' 58 1 = k → (∀ i : Nat, (i : Int) + 1 < T 14 1 → M' 90 i = beF T m i - tiF T m i - htF T i) → (∀ i : Nat, i < k → M' 59 i = beF T m i - tiF T m i - htF T i) → G 142 [lr 88, none, lr 58, li (tiF T m (T 14 1 - 1).toNat), li k, none, none, none] [] M' := by
    intro r
    induction r with
    | zero =>
      intro k M' kr f0 f1 f2 f3 f4
      apply k_Clock_timeHand_142 hG
      rw [f1 14 (by decide) (by decide) (by decide), hR 14 1 rfl, show w32 ((k : Int) + 1) = k + 1 from by unfold w32; omega]
      exact ⟨fun _ => hok M' f0 f1 (by omega) (fun i hi => f4 i (by omega)), fun z => absurd (by omega) z⟩
    | succ r ih =>
      intro k M' kr f0 f1 f2 f3 f4
      apply k_Clock_timeHand_142 hG
      rw [f1 14 (by decide) (by decide) (by decide), hR 14 1 rfl, show w32 ((k : Int) + 1) = ((k + 1 : Nat) : Int) from by unfold w32; omega]
      refine ⟨fun z => absurd z (by omega), fun _ => ⟨by omega, s_put (by omega) (by omega) ?_⟩⟩
      refine ih (k + 1) _ (by omega) f0 (fun c h1 h2 h3 => by rw [es_upd_o c h2, es_upd_o c h3, f1 c h1 h2 h3]) (by rw [es_upd_s, f2]; omega) (fun i hi => by rw [es_upd_n (by decide), es_upd_n (by decide)]; exact f3 i hi) (fun i hi => ?_)
      rw [es_upd_n (by decide), es_upd_c, f2]
      by_cases e : (i : Int) = k
      · rw [if_pos e]
        have : i = k := by omega
        subst this
        exact f3 i (by omega)
      · rw [if_neg e]; exact f4 i (by omega)
  have key : ∀ (r k : Nat) (M' : es_M), (k : Int) + r = T 14 1 - 1 → (∀ j, j < k → ¬ flF T m j) → (∀ c, c ≠ 90 → M' c = M c) → (∀ i : Nat, i < k → M' 90 i = beF T m i - tiF T m i - htF T i) → G 5 [lr 88, none, lr 58, li (tiF T m k), li k, none, none, none] [] M' := by
    intro r
    induction r with
    | zero =>
      intro k M' kr f0 f1 f2
      apply k_Clock_timeHand_5 hG
      rw [f1 14 (by decide), hR 14 1 rfl, show w32 ((k : Int) + 1) = k + 1 from by unfold w32; omega]
      refine ⟨fun _ => c_Row_clear ?_, fun z => absurd (by omega) z⟩
      have ek : (T 14 1 - 1).toNat = k := by omega
      have := rows k 0 (es_upd M' 58 1 0) (by omega) (fun j hj => f0 j (by omega)) (fun c h1 h2 h3 => by rw [es_upd_o c h2, f1 c h1]) es_upd_s (fun i hi => by rw [es_upd_n (by decide)]; exact f2 i (by omega)) (fun i hi => by omega)
      rw [ek] at this
      exact this
    | succ r ih =>
      intro k M' kr f0 f1 f2
      apply k_Clock_timeHand_5 hG
      have hR' : RepC T M' := fun c j hc => by rw [f1 c (fun z => by rw [z] at hc; cases hc)]; exact hR c j hc
      have h3 := hT.hp (i := (k : Int)) (by omega) (by omega)
      have h4 := htF_r hT (i := (k : Int)) (by omega) (by omega)
      have e0 := h3.1.1; have e1 := h3.1.2
      have h5 := hT.op (s := T 16 k / 2) (by omega) (by omega)
      have h6 := tiF_r hT m0 m1 k (by omega) f0
      rw [hR' 14 1 rfl, hR' 16 _ rfl, ei_shr1 e0 (by omega), show w32 ((k : Int) + 1) = ((k + 1 : Nat) : Int) from by unfold w32; omega, show w32 (-2 - (k : Int)) = -2 - k from by unfold w32; omega]
      refine ⟨fun z => absurd z (by omega), fun _ => ⟨by omega, s_handTurn hT hR' (by omega) (by omega) ⟨by omega, fun z => ?_, fun z => ?_⟩⟩⟩
      · exact hbad k M' (by omega) (Or.inl z) f0 f1
      · rw [hR' 21 _ rfl, hR' 22 _ rfl, show max (w32 (tiF T m k + htF T k)) (T 21 (T 16 k / 2)) = beF T m k from by unfold beF w32; omega]
        refine ⟨by omega, fun z2 => hbad k M' (by omega) (Or.inr (Or.inl z2)) f0 f1, fun z2 => ?_⟩
        have hb : 0 ≤ beF T m k ∧ beF T m k ≤ 1439 := by unfold beF at z2 ⊢; omega
        refine s_endOf hT hR' h3.1 (by omega) hb.1 hb.2 ⟨fun z3 => ⟨by omega, ?_⟩, fun z3 => hbad k M' (by omega) (Or.inr (Or.inr (by omega))) f0 f1⟩
        have hR2 : RepC T (es_upd M' 90 k (w32 (w32 (beF T m k - tiF T m k) - htF T k))) := hR'.upd rfl
        refine s_endOf hT hR2 h3.1 (by omega) hb.1 hb.2 ?_
        rw [← tiF_s, show w32 (w32 (beF T m k - tiF T m k) - htF T k) = beF T m k - tiF T m k - htF T k from by unfold w32; omega]
        refine ih (k + 1) _ (by omega) (fun j hj => ?_) (fun c hc => by rw [es_upd_o c hc, f1 c hc]) (fun i hi => ?_)
        · by_cases e : j = k
          · subst e
            unfold flF
            omega
          · exact f0 j (by omega)
        · rw [es_upd_c]
          by_cases e : (i : Int) = k
          · rw [if_pos e]
            have : i = k := by omega
            rw [this]
          · rw [if_neg e]; exact f2 i (by omega)
  exact key (T 14 1 - 1).toNat 0 M (by omega) (fun j hj => by omega) (fun _ _ => rfl) (fun i hi => by omega)
theorem s_m_timed (hT : TI T) (hR : RepM T M) {m : Int} (m0 : 0 ≤ m) (m1 : m < 1440) (hn0 : 0 < T 14 1)
    (hbad : ∀ (k : Nat) (M' : es_M), (k : Int) + 1 < T 14 1 → flF T m k → (∀ j, j < k → ¬ flF T m j) → (∀ c, c ≠ 122 → c ≠ 91 → M' c = M c) → (∀ j, j ≠ 0 → M' 91 j = M 91 j) → Q (-2 - k) M')
    (hok : ∀ M' : es_M, (∀ j : Nat, (j : Int) + 1 < T 14 1 → ¬ flF T m j) → (∀ c, c ≠ 122 → c ≠ 91 → c ≠ 92 → M' c = M c) → (∀ j, j ≠ 0 → j ≠ 1 → M' 91 j = M 91 j) → M' 91 1 = T 14 1 - 1 → (∀ i : Nat, (i : Int) + 1 < T 14 1 → M' 92 i = beF T m i - tiF T m i - htF T i) → Q (tiF T m (T 14 1 - 1).toNat) M') : es_Call (d + 5) 245 [.inr (.inr 91), .inl m] M Q := by
  apply m_Model_timed
  intro G hG
  apply k_Model_timed_0 hG
  have hn := hT.hn
  have hnn := hT.n
  refine s_m_in (fun _ _ => es_t1 ⟨fun _ => ?_, fun z => ?_⟩) (fun q => absurd ⟨m0, by omega⟩ q)
  · have rows : ∀ (r k : Nat) (M' : es_M), (k : Int) + r = T 14 1 - 1 → (∀ j : Nat, (j : Int) + 1 < T 14 1 → ¬ flF T m j) → (∀ c, c ≠ 122 → c ≠ 91 → c ≠ 92 → M' c = M c) → (∀ j, j ≠ 0 → j ≠ 1 → M' 91 j = M 91 j) → M' 91 1 = k → (∀ i : Nat, (i : Int) + 1 < T 14 1 → M' 122 i = beF T m i - tiF T m i - htF T i) → (∀ i : Nat, i < k → M' 92 i = beF T m i - tiF T m i - htF T i) → G 202 [lr 91, none, li (tiF T m (T 14 1 - 1).toNat), li (T 14 1 - 1), li k, none, none, none] [] M' := by
      intro r
      induction r with
      | zero =>
        intro k M' kr f0 f1 f1b f2 f3 f4
        apply k_Model_timed_202 hG
        exact ⟨fun _ => hok M' f0 f1 f1b (by omega) (fun i hi => f4 i (by omega)), fun z => absurd (by omega) z⟩
      | succ r ih =>
        intro k M' kr f0 f1 f1b f2 f3 f4
        apply k_Model_timed_202 hG
        rw [show w32 ((k : Int) + 1) = ((k + 1 : Nat) : Int) from by unfold w32; omega]
        refine ⟨fun z => absurd z (by omega), fun _ => ⟨by omega, s_m_enters (by omega) (by omega) ?_⟩⟩
        refine ih (k + 1) _ (by omega) f0 (fun c h1 h2 h3 => by rw [es_upd_o c h2, es_upd_o c h3, f1 c h1 h2 h3]) (fun j j0 j1 => by rw [es_upd_j j1, es_upd_n (by decide), f1b j j0 j1]) (by rw [es_upd_s, f2]; omega) (fun i hi => by rw [es_upd_n (by decide), es_upd_n (by decide)]; exact f3 i hi) (fun i hi => ?_)
        rw [es_upd_n (by decide), es_upd_c, f2]
        by_cases e : (i : Int) = k
        · rw [if_pos e]
          have : i = k := by omega
          subst this
          exact f3 i (by omega)
        · rw [if_neg e]; exact f4 i (by omega)
    have key : ∀ (r k : Nat) (M' : es_M), (k : Int) + r = T 14 1 - 1 → (∀ j, j < k → ¬ flF T m j) → (∀ c, c ≠ 122 → c ≠ 91 → M' c = M c) → (∀ j, j ≠ 0 → M' 91 j = M 91 j) → (∀ i : Nat, i < k → M' 122 i = beF T m i - tiF T m i - htF T i) → G 33 [lr 91, none, li (tiF T m k), li k, li k, none, none, none] [] M' := by
      intro r
      induction r with
      | zero =>
        intro k M' kr f0 f1 f1b f2
        apply k_Model_timed_33 hG
        rw [f1b 41 (by decide), hR 91 41 rfl, hn.2.2, show w32 ((k : Int) + 1) = k + 1 from by unfold w32; omega]
        refine ⟨fun _ => ?_, fun z => absurd (by omega) z⟩
        have ek : (T 14 1 - 1).toNat = k := by omega
        have := rows k 0 (es_upd M' 91 1 0) (by omega) (fun j hj => f0 j (by omega)) (fun c h1 h2 h3 => by rw [es_upd_o c h2, f1 c h1 h2]) (fun j j0 j1 => by rw [es_upd_j j1, f1b j j0]) es_upd_s (fun i hi => by rw [es_upd_n (by decide)]; exact f2 i (by omega)) (fun i hi => by omega)
        rw [ek, show T 14 1 - 1 = k by omega] at this
        exact this
      | succ r ih =>
        intro k M' kr f0 f1 f1b f2
        apply k_Model_timed_33 hG
        have hR' : RepM T M' := fun c j hc => by
          by_cases q : c = 91
          · subst q
            rw [f1b j (fun z => by rw [z] at hc; cases hc)]; exact hR 91 j hc
          · rw [f1 c (fun z => by rw [z] at hc; cases hc) q]; exact hR c j hc
        have h3 := hT.hp (i := (k : Int)) (by omega) (by omega)
        have h4 := htF_r hT (i := (k : Int)) (by omega) (by omega)
        have e0 := h3.1.1; have e1 := h3.1.2
        have h5 := hT.op (s := T 16 k / 2) (by omega) (by omega)
        have h6 := tiF_r hT m0 m1 k (by omega) f0
        rw [hR' 91 41 rfl, hn.2.2, show w32 ((k : Int) + 1) = ((k + 1 : Nat) : Int) from by unfold w32; omega, show w32 (-2 - (k : Int)) = -2 - k from by unfold w32; omega]
        refine ⟨fun z => absurd z (by omega), fun _ => s_m_handPass hT hR' (by omega) (by omega) ?_⟩
        rw [ei_div e0 (by omega) (by decide) (by decide), hR' 99 _ rfl, hR' 100 _ rfl, h5.2.1, h5.2.2.2]
        have suf : ∀ t, t = htF T k → (¬ (2 : Int) = 0 ∧ (0 ≤ T 16 k / 2 ∧ T 16 k / 2 < 18) ∧ (t < 0 → Q (-2 - k) M') ∧ (¬ t < 0 → ¬ (2 : Int) = 0 ∧ (0 ≤ T 16 k / 2 ∧ T 16 k / 2 < 18) ∧ (T 22 (T 16 k / 2) < max (w32 (tiF T m k + t)) (T 21 (T 16 k / 2)) → Q (-2 - k) M') ∧ (¬ T 22 (T 16 k / 2) < max (w32 (tiF T m k + t)) (T 21 (T 16 k / 2)) → (1439 < max (w32 (tiF T m k + t)) (T 21 (T 16 k / 2)) → Q (-2 - k) M') ∧ (¬ 1439 < max (w32 (tiF T m k + t)) (T 21 (T 16 k / 2)) → es_Call (d + 4) 246 [.inr (.inr 91), .inl (T 16 k), .inl (max (w32 (tiF T m k + t)) (T 21 (T 16 k / 2)))] M' (fun y6 M5 => (w32 (max (w32 (tiF T m k + t)) (T 21 (T 16 k / 2)) + y6) ≤ 1440 → (0 ≤ (k : Int) ∧ (k : Int) < 60) ∧ es_Call (d + 4) 246 [.inr (.inr 91), .inl (T 16 k), .inl (max (w32 (tiF T m k + t)) (T 21 (T 16 k / 2)))] (es_upd M5 122 k (w32 (w32 (max (w32 (tiF T m k + t)) (T 21 (T 16 k / 2)) - tiF T m k) - t))) (fun y8 M7 => G 33 [lr 91, none, li (w32 (max (w32 (tiF T m k + t)) (T 21 (T 16 k / 2)) + y8)), li ((k + 1 : Nat) : Int), li ((k + 1 : Nat) : Int), none, none, none] [] M7)) ∧ (¬ w32 (max (w32 (tiF T m k + t)) (T 21 (T 16 k / 2)) + y6) ≤ 1440 → Q (-2 - k) M5)))))) := by
          intro t ht
          subst ht
          rw [show max (w32 (tiF T m k + htF T k)) (T 21 (T 16 k / 2)) = beF T m k from by unfold beF w32; omega]
          refine ⟨by decide, by omega, fun z => hbad k M' (by omega) (Or.inl (by omega)) f0 f1 f1b, fun z => ⟨by decide, by omega, fun z2 => hbad k M' (by omega) (Or.inr (Or.inl z2)) f0 f1 f1b, fun z2 => ⟨fun z3 => by omega, fun z3 => ?_⟩⟩⟩
          have hb : 0 ≤ beF T m k ∧ beF T m k ≤ 1439 := by unfold beF at z2 ⊢; omega
          have hl := lstF_r hT h3.1 (by omega) hb.1 hb.2
          refine s_m_lasts hT hR' h3.1 (by omega) hb.1 hb.2 ?_
          rw [show w32 (beF T m k + lstF T (T 16 k) (beF T m k)) = beF T m k + lstF T (T 16 k) (beF T m k) from by unfold w32; omega]
          refine ⟨fun z4 => ⟨by omega, ?_⟩, fun z4 => hbad k M' (by omega) (Or.inr (Or.inr (by omega))) f0 f1 f1b⟩
          have hR2 : RepM T (es_upd M' 122 k (w32 (w32 (beF T m k - tiF T m k) - htF T k))) := hR'.upd rfl
          refine s_m_lasts hT hR2 h3.1 (by omega) hb.1 hb.2 ?_
          rw [show w32 (beF T m k + lstF T (T 16 k) (beF T m k)) = beF T m k + lstF T (T 16 k) (beF T m k) from by unfold w32; omega, ← tiF_s, show w32 (w32 (beF T m k - tiF T m k) - htF T k) = beF T m k - tiF T m k - htF T k from by unfold w32; omega]
          refine ih (k + 1) _ (by omega) (fun j hj => ?_) (fun c hc hc2 => by rw [es_upd_o c hc, f1 c hc hc2]) (fun j hj => by rw [es_upd_n (by decide), f1b j hj]) (fun i hi => ?_)
          · by_cases e : j = k
            · subst e
              unfold flF
              omega
            · exact f0 j (by omega)
          · rw [es_upd_c]
            by_cases e : (i : Int) = k
            · rw [if_pos e]
              have : i = k := by omega
              rw [this]
            · rw [if_neg e]; exact f2 i (by omega)
        refine ⟨fun z => ?_, fun z => ?_⟩
        · rw [show w32 ((k : Int) - 1) = k - 1 from by unfold w32; omega]
          rw [show (((k + 1 : Nat) : Int)) = (k : Int) + 1 by omega, hR' 120 _ rfl, hR' 120 _ rfl, hR' 120 _ rfl, (hT.hd (i := (k : Int) - 1) (by omega) (by omega)).2, (hT.hd (i := (k : Int)) (by omega) (by omega)).2, (hT.hd (i := (k : Int) + 1) (by omega) (by omega)).2]
          refine ⟨by omega, by omega, by omega, s_m_turnOf hT hR' (hT.hd (i := (k : Int) - 1) (by omega) (by omega)).1 (hT.hd (i := (k : Int)) (by omega) (by omega)).1 (hT.hd (i := (k : Int) + 1) (by omega) (by omega)).1 ?_⟩
          have eh : tmF T (T 15 (k - 1)) (T 15 k) (T 15 (k + 1)) = htF T k := by unfold htF; rw [if_neg z]
          have := suf _ eh
          rw [hR' 99 _ rfl, hR' 100 _ rfl, h5.2.1, h5.2.2.2]
          exact this
        · have eh : (0 : Int) = htF T k := by unfold htF; rw [if_pos z]
          exact suf 0 eh
    exact key (T 14 1 - 1).toNat 0 _ (by omega) (fun j hj => by omega) (fun c _ hc => es_upd_o c hc) (fun j hj => es_upd_j hj) (fun i hi => by omega)
  · rw [es_upd_j (by decide), hR 91 41 rfl, hn.2.2] at z; omega
theorem P_timed (h : Inv M) {m : Int} : Pair (d + 20) 31 245 [.inl m] M := by
  have hT := h.1
  have hn := hT.hn
  apply c_EveryStreet_timed
  have no : ¬ ((0 ≤ m ∧ m < 1440) ∧ 0 < M 14 1) → es_Call (d + 20) 245 [.inr (.inr 91), .inl m] M (fun y' M2 => y' = -1 ∧ Inv M2) := by
    intro q
    apply m_Model_timed
    intro G hG
    apply k_Model_timed_0 hG
    refine s_m_in (fun q1 q2 => es_t1 ⟨fun z => ?_, fun _ => ⟨rfl, h.th⟩⟩) (fun _ => es_t0 ⟨rfl, h.th⟩)
    rw [rd1 (by decide), hn.2.2] at z
    omega
  refine s_isMinute (fun m0 m1 => es_t1 ⟨fun z => ?_, fun z => no (by omega)⟩) (fun q => es_t0 (no (fun z => q z.1)))
  refine s_timeHand hT (RepC.rf M) m0 m1 (by omega) (fun k M1 k1 kf kno f1 => ?_) (fun M1 kno f1 f2 f3 => ?_)
  · have hR1 : Rep M M1 := fun c j hc => by rw [f1 c (fun z => by rw [z] at hc; cases hc)]
    refine s_m_timed hT hR1.m m0 m1 (by omega) (fun k2 M2 k3 kf2 kno2 g1 g2 => ?_) (fun M2 kno2 g1 g2 g3 g4 => absurd kf (kno2 k k1))
    have : k2 = k := by
      rcases Nat.lt_trichotomy k2 k with q | q | q
      · exact absurd kf2 (kno k2 q)
      · exact q
      · exact absurd kf (kno2 k q)
    subst this
    refine ⟨rfl, h.same (fun c j hc => ?_) ?_ ?_ ?_ ?_ ?_ ?_ ?_ ?_⟩
    · by_cases q : c = 91
      · subst q
        rw [g2 j (fun z => by rw [z] at hc; cases hc), hR1 91 j hc]
      · rw [g1 c (fun z => by rw [z] at hc; cases hc) q, hR1 c j hc]
    · rw [g1 58 (by decide) (by decide), f1 58 (by decide)]
    · rw [g1 59 (by decide) (by decide), f1 59 (by decide)]
    · rw [g1 60 (by decide) (by decide), f1 60 (by decide)]
    · rw [g1 61 (by decide) (by decide), f1 61 (by decide)]
    · rw [g1 62 (by decide) (by decide), f1 62 (by decide)]
    · rw [g1 63 (by decide) (by decide), f1 63 (by decide)]
    · rw [g2 1 (by decide), f1 91 (by decide)]
    · rw [g1 92 (by decide) (by decide), f1 92 (by decide)]
  · have hR1 : Rep M M1 := fun c j hc => by rw [f1 c (fun z => by rw [z] at hc; cases hc) (fun z => by rw [z] at hc; cases hc) (fun z => by rw [z] at hc; cases hc)]
    refine s_m_timed hT hR1.m m0 m1 (by omega) (fun k2 M2 k3 kf2 kno2 g1 g2 => absurd kf2 (kno k2 k3)) (fun M2 kno2 g1 g2 g3 g4 => ⟨rfl, ?_⟩)
    refine h.ask (fun c j hc => ?_) ⟨?_, fun i i0 i1 => ?_⟩ ?_
    · by_cases q : c = 91
      · subst q
        rw [g2 j (fun z => by rw [z] at hc; cases hc) (fun z => by rw [z] at hc; cases hc), hR1 91 j hc]
      · rw [g1 c (fun z => by rw [z] at hc; cases hc) q (fun z => by rw [z] at hc; cases hc), hR1 c j hc]
    · rw [g1 58 (by decide) (by decide) (by decide), f2, g3]; omega
    · rw [g1 58 (by decide) (by decide) (by decide), f2] at i1
      rw [g1 59 (by decide) (by decide) (by decide)]
      have e1 := f3 i.toNat (by omega)
      have e2 := g4 i.toNat (by omega)
      rw [Int.toNat_of_nonneg i0] at e1 e2
      rw [e1, e2]
    · exact h.2.2.congr rfl rfl (by rw [g1 60 (by decide) (by decide) (by decide), f1 60 (by decide) (by decide) (by decide)]) (by rw [g1 61 (by decide) (by decide) (by decide), f1 61 (by decide) (by decide) (by decide)]) (by rw [g1 62 (by decide) (by decide) (by decide), f1 62 (by decide) (by decide) (by decide)]) (by rw [g1 63 (by decide) (by decide) (by decide), f1 63 (by decide) (by decide) (by decide)])
end
