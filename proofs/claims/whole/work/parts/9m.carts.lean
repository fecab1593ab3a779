/-! PAIRS OF CALLS: carts -/
theorem TI.ld {T : es_M} (h : TI T) {s : Int} (h0 : 0 ≤ s) (h1 : s < T 1 0) : 0 ≤ T 7 s ∧ T 7 s ≤ 9 := (h.st h0 h1).2.2.2.2.2.2.2.2.2.2.2.2.1
theorem TI.ldm {T : es_M} (h : TI T) {s : Int} (h0 : 0 ≤ s) (h1 : s < T 1 0) : T 97 s = T 7 s := (h.st h0 h1).2.2.2.2.2.2.2.2.2.2.2.1
def ldN (T : es_M) (S : Int) : Nat → Int
  | 0 => 0
  | k + 1 => ldN T S k + (if ebit S k then T 7 (T 10 k) else 0)
theorem ldN_s {T : es_M} {S k : Int} (k0 : 0 ≤ k) : ldN T S (k + 1).toNat = ldN T S k.toNat + (if ebit S k then T 7 (T 10 k) else 0) := by
  rw [toN1 k0]
  show ldN T S k.toNat + (if ebit S (k.toNat : Nat) then T 7 (T 10 (k.toNat : Nat)) else 0) = _
  rw [toNI k0]
theorem ldN_r {T : es_M} (hT : TI T) {S : Int} : ∀ k : Nat, (k : Int) ≤ T 1 1 → 0 ≤ ldN T S k ∧ ldN T S k ≤ 9 * k := by
  intro k
  induction k with
  | zero => intro _; exact ⟨Int.le_refl _, Int.le_refl _⟩
  | succ k ih =>
    intro hk
    have i := ih (by omega)
    obtain ⟨s0, s1⟩ := (hT.sr (v := (k : Int)) (by omega) (by omega)).1
    have l := hT.ld s0 s1
    show 0 ≤ ldN T S k + (if ebit S k then T 7 (T 10 k) else 0) ∧ ldN T S k + (if ebit S k then T 7 (T 10 k) else 0) ≤ 9 * ((k + 1 : Nat) : Int)
    split <;> omega
noncomputable def ccF (T : es_M) (a cap S : Int) : Int := if ldN T S (T 1 1).toNat ≤ cap then rmF T a a S 36 0 else 1000000
theorem cc_ok {T : es_M} (hT : TI T) {a cap : Int} : cOK (allF T) (ccF T a cap) := fun S _ _ => by
  unfold ccF
  split
  · exact rm_r hT (Or.inl rfl)
  · decide
section
variable {d : Nat} {Q : Int → es_M → Prop} {T M : es_M}
theorem s_costByTours (hT : TI T) (hR : RepC T M) {a cap : Int} (hO : toursOK T a M) (h : ∀ M', (∀ c, c ≠ 73 → M' c = M c) → (∀ S, 0 ≤ S → S ≤ allF T → M' 73 S = ccF T a cap S) → Q 0 M') : es_Call (d + 2) 116 [.inr (.inr 72), .inr (.inr 71), .inl cap] M Q := by
  have ha := hT.all
  have hv := hT.v
  have hn := hT.n
  apply m_Shares_costByTours
  intro G hG
  apply k_Shares_costByTours_0 hG
  have hR' : ∀ X : es_M, (∀ c, c ≠ 73 → X c = M c) → RepC T X := fun X e c j q => by rw [e c (by rintro rfl; cases q)]; exact hR _ _ q
  refine es_up (P := fun S => ∀ X : es_M, (∀ c, c ≠ 73 → X c = M c) → (∀ U, 0 ≤ U → U < S → X 73 U = ccF T a cap U) → G 2 [lr 72, lr 71, li cap, li S, none, none] [] X) (n := allF T + 1) (by omega) ?_ ?_ M (fun _ _ => rfl) (fun U a b => absurd b (by omega))
  · intro X f1 f2
    apply k_Shares_costByTours_2 hG
    exact s_allServices hT (hR' X f1) ⟨fun _ => h X f1 (fun S S0 S1 => f2 S S0 (by omega)), fun z => absurd (by omega) z⟩
  · intro S S0 S1 ih X f1 f2
    have SN : S ≤ allF T := by omega
    apply k_Shares_costByTours_2 hG
    refine s_allServices hT (hR' X f1) ⟨fun z => absurd z (by omega), fun _ => ?_⟩
    have wS : w32 (S + 1) = S + 1 := w32_1 (by omega) (by omega)
    refine es_up (P := fun k => G 19 [lr 72, lr 71, li cap, li S, li (ldN T S k.toNat), li k] [] X) (n := T 1 1) hv.1 ?_ ?_
    · apply k_Shares_costByTours_19 hG
      rw [(hR' X f1) 1 1 rfl, wS, f1 71 (by decide), hO S S0 SN]
      have fin : ∀ v, v = ccF T a cap S → G 2 [lr 72, lr 71, li cap, li (S + 1), none, none] [] (es_upd X 73 S v) := fun v hv' => ih _ (fun c hc => by rw [es_upd_o c hc]; exact f1 c hc) (fun U U0 U1 => by
        rw [es_upd_c]
        by_cases q : U = S
        · rw [if_pos q, hv', q]
        · rw [if_neg q]; exact f2 U U0 (by omega))
      refine ⟨fun _ => ⟨fun z => ⟨by omega, by omega, fin _ (by unfold ccF; rw [if_pos z])⟩, fun z => ⟨by omega, fin _ (by unfold ccF; rw [if_neg z])⟩⟩, fun z => absurd (Int.le_refl _) z⟩
    · intro k k0 k1 ih2
      rw [ldN_s k0] at ih2
      have lr' := ldN_r hT (S := S) k.toNat (by omega)
      obtain ⟨s0, s1⟩ := (hT.sr k0 k1).1
      have l := hT.ld s0 s1
      apply k_Shares_costByTours_19 hG
      rw [(hR' X f1) 1 1 rfl, w32_1 (k := k) (by omega) (by omega), w32_s (k := ldN T S k.toNat + 0) (by omega) (by omega)]
      refine ⟨fun z => absurd z (by omega), fun _ => s_has S0 (by omega) k0 (by omega) (fun b => es_t1 ?_) (fun b => es_t0 (by rw [if_neg b] at ih2; exact ih2))⟩
      rw [(hR' X f1) 10 _ rfl, (hR' X f1) 7 _ rfl, w32_s (k := ldN T S k.toNat + T 7 (T 10 k)) (by omega) (by omega)]
      rw [if_pos b] at ih2
      exact ⟨by omega, by omega, ih2⟩
theorem s_m_loadOf (hT : TI T) (hR : RepM T M) {S : Int} (S0 : 0 ≤ S) (S1 : S < 1024) (h : Q (ldN T S (T 1 1).toNat) M) : es_Call (d + 2) 267 [.inr (.inr 91), .inl S] M Q := by
  have hv := hT.v
  have hn := hT.n
  apply m_Model_loadOf
  intro G hG
  apply k_Model_loadOf_0 hG
  refine es_up (P := fun k => G 4 [lr 91, li S, li (ldN T S k.toNat), li k] [] M) (n := T 1 1) hv.1 ?_ ?_
  · apply k_Model_loadOf_4 hG
    rw [hR 91 23 rfl, hv.2.2]
    exact ⟨fun _ => h, fun z => absurd (Int.le_refl _) z⟩
  · intro k k0 k1 ih2
    rw [ldN_s k0] at ih2
    have lr' := ldN_r hT (S := S) k.toNat (by omega)
    obtain ⟨s0, s1⟩ := (hT.sr k0 k1).1
    have l := hT.ld s0 s1
    apply k_Model_loadOf_4 hG
    rw [hR 91 23 rfl, hv.2.2, w32_1 (k := k) (by omega) (by omega), w32_s (k := ldN T S k.toNat + 0) (by omega) (by omega)]
    refine ⟨fun z => absurd z (by omega), fun _ => s_m_has S0 (by omega) k0 (by omega) (fun b => es_t1 ?_) (fun b => es_t0 (by rw [if_neg b] at ih2; exact ih2))⟩
    rw [hR 106 _ rfl, (hT.mv k0 k1).1, hR 97 _ rfl, hT.ldm s0 s1, w32_s (k := ldN T S k.toNat + T 7 (T 10 k)) (by omega) (by omega)]
    rw [if_pos b] at ih2
    exact ⟨by omega, by omega, ih2⟩
end
section
variable {d : Nat} {M : es_M}
/-- cells that a sharing changes -/
theorem share_inv (h : Inv M) {M1 M2 : es_M} (e1 : ∀ c, c ≠ 58 → c ≠ 59 → c ≠ 60 → c ≠ 61 → c ≠ 62 → c ≠ 63 → c ≠ 66 → c ≠ 67 → c ≠ 68 → c ≠ 69 → c ≠ 70 → c ≠ 71 → c ≠ 73 → c ≠ 74 → M1 c = M c) (c0 : CacheOK M M1) (e2 : ∀ c, c ≠ 91 → c ≠ 92 → c ≠ 118 → c ≠ 134 → c ≠ 135 → M2 c = M1 c) (e3 : ∀ j, j ≠ 0 → j ≠ 1 → j ≠ 38 → j ≠ 39 → M2 91 j = M1 91 j) (hr : RowEq M2) : Inv M2 := by
  refine h.ask (fun c j q => ?_) hr (c0.congr rfl rfl ?_ ?_ ?_ ?_)
  · by_cases c1 : c = 91
    · subst c1
      rw [e3 j ?_ ?_ ?_ ?_, e1 91]
      all_goals first | decide | (rintro rfl; cases q)
    · rw [e2 c c1 ?_ ?_ ?_ ?_, e1 c ?_ ?_ ?_ ?_ ?_ ?_ ?_ ?_ ?_ ?_ ?_ ?_ ?_ ?_]
      all_goals (rintro rfl; cases q)
  · rw [e2 60] <;> decide
  · rw [e2 61] <;> decide
  · rw [e2 62] <;> decide
  · rw [e2 63] <;> decide
abbrev offC (M M1 : es_M) : Prop := ∀ c, c ≠ 58 → c ≠ 59 → c ≠ 60 → c ≠ 61 → c ≠ 62 → c ≠ 63 → c ≠ 66 → c ≠ 67 → c ≠ 68 → c ≠ 69 → c ≠ 70 → c ≠ 71 → c ≠ 73 → c ≠ 74 → M1 c = M c
theorem repC2 {M1 : es_M} (h : offC M M1) : RepM M (es_upd M1 91 0 0) := by
  intro c j q
  by_cases e : c = 91
  · subst e
    rw [es_upd_j (by rintro rfl; cases q), h 91] <;> decide
  · rw [es_upd_o c e, h c ?_ ?_ ?_ ?_ ?_ ?_ ?_ ?_ ?_ ?_ ?_ ?_ ?_ ?_] <;> (rintro rfl; cases q)
/-- the model's sharing, its costs laid -/
theorem mdl_share (h : Inv M) {M1 X : es_M} {L E y : Int} {cst : Int → Int} (k1 : offC M M1) (c0 : CacheOK M M1) (hc : cOK (allF M) cst) (hE : E = 0 → cst 0 = 1000000) {K : Nat} (hK : K ≤ 3) (hX : (∀ c, c ≠ 91 → c ≠ 118 → c ≠ 134 → X c = M1 c) ∧ ∀ j, j ≠ 0 → j ≠ 38 → j ≠ 39 → X 91 j = M1 91 j) (hw : ∀ S, 0 ≤ S → S ≤ allF M → (0 < S ∨ ¬ E = 0) → X 134 S = cst S) {R : Int → es_M → Prop} (hRR : ∀ y5 M4, ((0 ≤ (w32 ((w32 (((K : Int) + 1) * 1024)) + y5)) ∧ (w32 ((w32 (((K : Int) + 1) * 1024)) + y5)) < 5120) ∧ (((M4 135 (w32 ((w32 (((K : Int) + 1) * 1024)) + y5))) < 1000000 → es_Call (d + 2) 270 [.inr (.inr 91), .inl ((K : Int) + 1), .inl L, .inl E] M4 (fun _ M6 => (M4 135 (w32 ((w32 (((K : Int) + 1) * 1024)) + y5))) = y ∧ Inv M6)) ∧ (¬ (M4 135 (w32 ((w32 (((K : Int) + 1) * 1024)) + y5))) < 1000000 → -2 = y ∧ Inv M4))) → R y5 M4) (hno : ¬ shF L cst K (allF M) < 1000000 → y = -2 ∧ M1 58 = M 58 ∧ M1 59 = M 59) (hyes : shF L cst K (allF M) < 1000000 → y = shF L cst K (allF M) ∧ RwC (tlR L cst K (allF M) (shF L cst K (allF M)) (0, fun _ => 0)) M1) :
    es_Call (d + 2) 268 [.inr (.inr 91), .inl ((K : Int) + 1), .inl L, .inl E] X (fun _ M3 => es_Call (d + 2) 225 [.inr (.inr 91)] M3 R) := by
  have hT := h.1
  have ha := hT.all
  have hRX : RepM M X := by
    intro c j q
    by_cases e : c = 91
    · subst e
      rw [hX.2 j (by rintro rfl; cases q) (by rintro rfl; cases q) (by rintro rfl; cases q)]
      have := repC2 k1 91 j q
      rw [es_upd_j (by rintro rfl; cases q)] at this
      exact this
    · rw [hX.1 c e (by rintro rfl; cases q) (by rintro rfl; cases q)]
      have := repC2 k1 c j q
      rw [es_upd_o c e] at this
      exact this
  have sh := s_m_shares (d := d) (L := L) (E := E) (Q := fun _ M3 => es_Call (d + 2) 225 [.inr (.inr 91)] M3 R) hT hRX hc hE hw (K := K + 1) (by omega)
  rw [show ((K + 1 : Nat) : Int) = (K : Int) + 1 by omega] at sh
  refine sh (fun M3 f1 f2 => s_m_all hT (rep135 hRX f1) (hRR _ _ ?_))
  obtain ⟨x1, x2, -⟩ := num3 (n := K + 1) (z := allF M) (S := allF M) (N := allF M) (by omega) (Int.le_refl _) (by omega) ⟨ha.1, Int.le_refl _⟩
  rw [show ((K : Int) + 1) = ((K + 1 : Nat) : Int) by omega, x1, f2 (K + 1) (Nat.le_refl _) _ ha.1 (Int.le_refl _)]
  have ev : mlv L cst (K + 1) (allF M) = shF L cst K (allF M) := rfl
  rw [ev]
  have eo : ∀ c, c ≠ 91 → c ≠ 92 → c ≠ 118 → c ≠ 134 → c ≠ 135 → M3 c = M1 c := fun c y1 _ y3 y4 y5 => by rw [f1 c y5]; exact hX.1 c y1 y3 y4
  have e91 : ∀ j, j ≠ 0 → j ≠ 38 → j ≠ 39 → M3 91 j = M1 91 j := fun j j1 j2 j3 => by rw [f1 91 (by decide)]; exact hX.2 j j1 j2 j3
  have e58 : M3 58 = M1 58 := by rw [eo 58] <;> decide
  have e59 : M3 59 = M1 59 := by rw [eo 59] <;> decide
  refine ⟨x2, fun z => ?_, fun z => ⟨(hno z).1.symm, ?_⟩⟩
  · obtain ⟨ey, er⟩ := hyes z
    rw [show ((K + 1 : Nat) : Int) = (K : Int) + 1 by omega]
    refine s_m_tellsShares hT (rep135 hRX f1) hc hE (fun S S0 S1 al => by rw [f1 134 (by decide)]; exact hw S S0 S1 al) hK (fun n hn => f2 n hn) z (fun M5 g1 g2 => ⟨ey.symm, ?_⟩)
    exact share_inv h k1 c0 (fun c y1 y2 y3 y4 y5 => by rw [g1.1 c y1 y2]; exact eo c y1 y2 y3 y4 y5) (fun j j1 j2 j3 j4 => by rw [g1.2 j j2]; exact e91 j j1 j3 j4) (row_new er e58 e59 g1 g2)
  · obtain ⟨-, a, b⟩ := hno z
    refine share_inv h k1 c0 eo (fun j j1 _ j3 j4 => e91 j j1 j3 j4) ?_
    have hr := h.2.1
    unfold RowEq at hr ⊢
    rw [e58, e59, a, b, e91 1 (by decide) (by decide) (by decide), f1 92 (by decide), hX.1 92 (by decide) (by decide) (by decide), k1 91, k1 92] <;> first | exact hr | decide
end
