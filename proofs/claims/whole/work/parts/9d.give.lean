/-! PAIRS OF CALLS: give -/
def dfF (T : es_M) (b : Int) : Int := ((es_dif (allF T).toNat b.toNat : Nat) : Int)
theorem df_r {T : es_M} (hT : TI T) (b : Int) : 0 ≤ dfF T b ∧ dfF T b ≤ allF T := by
  have ha := hT.all
  have s : sub (dfF T b) (allF T) := fun i hi => by
    unfold dfF at hi
    rw [Int.toNat_natCast, es_dif_bit, Bool.and_eq_true] at hi
    exact hi.1
  have n : 0 ≤ dfF T b := by unfold dfF; omega
  have := sub_le n s
  omega
noncomputable def gvF (T : es_M) (a : Int) : Nat → Int
  | 0 => allF T
  | n + 1 => ifc (pcN 18 (allF T - n).toNat ≤ pcN 18 (gvF T a n).toNat ∧ rmF T a a (dfF T (allF T - n)) 36 0 < 1000000) (allF T - n) (gvF T a n)
theorem gv_r {T : es_M} (hT : TI T) {a : Int} : ∀ n : Nat, (n : Int) ≤ allF T + 1 → 0 ≤ gvF T a n ∧ gvF T a n ≤ allF T ∧ (n = 0 ∨ allF T - n < gvF T a n) := by
  have ha := hT.all
  intro n
  induction n with
  | zero => intro _; exact ⟨ha.1, Int.le_refl _, Or.inl rfl⟩
  | succ n ih =>
    intro hn
    have i := ih (by omega)
    by_cases e : pcN 18 (allF T - n).toNat ≤ pcN 18 (gvF T a n).toNat ∧ rmF T a a (dfF T (allF T - n)) 36 0 < 1000000
    · have e2 : gvF T a (n + 1) = allF T - n := ifc_y e
      rw [e2]; exact ⟨by omega, by omega, Or.inr (by omega)⟩
    · have e2 : gvF T a (n + 1) = gvF T a n := ifc_n e
      rw [e2]
      refine ⟨i.1, i.2.1, Or.inr ?_⟩
      rcases i.2.2 with z | z
      · subst z
        show allF T - ((0 + 1 : Nat) : Int) < allF T
        omega
      · omega
theorem gv_s {T : es_M} {a n : Int} (n0 : 0 ≤ n) : gvF T a (n + 1).toNat = ifc (pcN 18 (allF T - n).toNat ≤ pcN 18 (gvF T a n.toNat).toNat ∧ rmF T a a (dfF T (allF T - n)) 36 0 < 1000000) (allF T - n) (gvF T a n.toNat) := by
  rw [toN1 n0]
  show ifc (pcN 18 (allF T - (n.toNat : Nat)).toNat ≤ pcN 18 (gvF T a n.toNat).toNat ∧ rmF T a a (dfF T (allF T - (n.toNat : Nat))) 36 0 < 1000000) (allF T - (n.toNat : Nat)) (gvF T a n.toNat) = _
  rw [toNI n0]
noncomputable def givF (T : es_M) (a : Int) : Int := gvF T a (allF T + 1).toNat
section
variable {d : Nat} {Q : Int → es_M → Prop} {T M : es_M}
theorem s_fewestGiven (hT : TI T) (hR : RepC T M) {a : Int} (hO : toursOK T a M) (h : Q (givF T a) M) : es_Call (d + 2) 115 [.inr (.inr 67)] M Q := by
  have ha := hT.all
  apply m_Walks_fewestGiven
  intro G hG
  apply k_Walks_fewestGiven_0 hG
  refine s_allServices hT hR ?_
  have key := es_up (P := fun n => G 12 [lr 67, li (allF T), li (gvF T a n.toNat), li (allF T - n), none] [] M) (n := allF T + 1) (by omega) ?_ ?_
  · rw [show allF T - 0 = allF T by omega] at key; exact key
  · apply k_Walks_fewestGiven_12 hG
    exact ⟨fun _ => h, fun z => absurd (by omega) z⟩
  · intro n n0 n1 ih
    have gr := gv_r hT (a := a) n.toNat (by omega)
    have dr := df_r hT (allF T - n)
    rw [gv_s n0, show allF T - (n + 1) = allF T - n - 1 by omega] at ih
    apply k_Walks_fewestGiven_12 hG
    have ed : es_and (allF T) (es_xor (allF T - n) (-1)) = dfF T (allF T - n) := ei_dif ha.1 (by omega) (by omega) (by omega)
    have ew : w32 (allF T - n + -1) = allF T - n - 1 := by rw [show allF T - n + -1 = allF T - n - 1 by omega]; exact w32_m (by omega) (by omega)
    rw [ed, ew]
    refine ⟨fun z => absurd z (by omega), fun _ => s_bitCount (by omega) (by omega) (s_bitCount (by omega) (by omega) ⟨fun z => ⟨fun _ => ?_, fun w => absurd rfl w⟩, fun z => ⟨fun w => absurd w (by decide), fun _ => ⟨by omega, ?_⟩⟩⟩)⟩
    · rw [ifc_n (fun w => by have := w.1; omega)] at ih; exact ih
    · rw [hO _ dr.1 dr.2]
      refine ⟨fun w => ?_, fun w => ?_⟩
      · rw [ifc_n (fun y => by have := y.2; omega)] at ih; exact ih
      · rw [ifc_y ⟨by omega, by omega⟩] at ih; exact ih
abbrev offG (M M' : es_M) : Prop := (∀ c, c ≠ 118 → c ≠ 91 → M' c = M c) ∧ ∀ j, j ≠ 38 → j ≠ 39 → M' 91 j = M 91 j
theorem repG {M' : es_M} (hR : RepM T M) (h : offG M M') : RepM T M' := by
  intro c j q
  by_cases e : c = 91
  · subst e
    rw [h.2 j (by rintro rfl; cases q) (by rintro rfl; cases q)]; exact hR _ _ q
  · rw [h.1 c (by rintro rfl; cases q) e]; exact hR _ _ q
theorem offG.tr {M1 M2 : es_M} (h : offG M M1) (g : offG M1 M2) : offG M M2 := ⟨fun c c1 c2 => by rw [g.1 c c1 c2]; exact h.1 c c1 c2, fun j j1 j2 => by rw [g.2 j j1 j2]; exact h.2 j j1 j2⟩
theorem s0W (W : Int) : sub 0 W := fun i hi => by rw [show (0 : Int).toNat = 0 from rfl, Nat.zero_testBit] at hi; cases hi
theorem s_m_isThere (hT : TI T) (hR : RepM T M) {a W : Int} (W0 : 0 ≤ W) (W1 : W < 1024) (hy : ∀ M', offG M M' → rmF T a a W 36 0 < 1000000 → Q 1 M') (hn : ∀ M', offG M M' → ¬ rmF T a a W 36 0 < 1000000 → Q 0 M') : es_Call (d + 7) 237 [.inr (.inr 91), .inl a, .inl W] M Q := by
  apply c_Model_isThere
  refine s_m_fills hT hR W0 W1 (fun M4 f1 f2 f3 f4 f5 => c_Model_remainOf ?_)
  obtain ⟨x1, x2, x3⟩ := w37888 (a := 0) (b := 36) (by decide) (by decide)
  have v : M4 118 (0 * 37 + 36) = rmF T a a W 36 0 := f5 0 (s0W W) (by decide) (by decide) 36 (Or.inl rfl)
  rw [x1, v]
  exact ⟨⟨x2, x3⟩, fun z => ⟨Or.inl rfl, hn M4 ⟨f1, f2⟩ (by omega)⟩, fun z => ⟨Or.inr rfl, hy M4 ⟨f1, f2⟩ (by omega)⟩⟩
theorem s_m_give (hT : TI T) {a : Int} (a0 : 0 ≤ a) (a1 : a < 12) (hR : RepM T (es_upd M 91 0 0)) (h : ∀ M', (∀ c, c ≠ 118 → c ≠ 91 → c ≠ 92 → M' c = M c) → (∀ j, j ≠ 0 → j ≠ 1 → j ≠ 38 → j ≠ 39 → M' 91 j = M 91 j) → M' 91 1 = 1 → M' 92 0 = givF T a → Q (pcN 18 (givF T a).toNat : Nat) M') : es_Call (d + 9) 238 [.inr (.inr 91), .inl a] M Q := by
  have ha := hT.all
  apply m_Model_give
  intro G hG
  apply k_Model_give_0 hG
  refine s_m_isCorner (fun _ _ => es_f1 (s_m_all hT hR (s_m_all hT hR ?_))) (fun z => absurd ⟨a0, a1⟩ z)
  have key := es_up (P := fun n => ∀ M', offG (es_upd M 91 0 0) M' → G 24 [lr 91, li a, li (gvF T a n.toNat), li (allF T - n), none, none] [] M') (n := allF T + 1) (by omega) ?_ ?_ (es_upd M 91 0 0) ⟨fun _ _ _ => rfl, fun _ _ _ => rfl⟩
  · rw [show allF T - 0 = allF T by omega] at key; exact key
  · intro M' f1
    have gr := gv_r hT (a := a) (allF T + 1).toNat (by omega)
    have gr2 : 0 ≤ givF T a ∧ givF T a ≤ allF T := ⟨gr.1, gr.2.1⟩
    apply k_Model_give_24 hG
    refine ⟨fun _ => s_m_enters' (by rw [es_upd_s]; decide) (by rw [es_upd_s]; decide) (fun M2 g1 g2 g3 g4 g5 => s_bitCount gr2.1 (by omega) ?_), fun z => absurd (by omega) z⟩
    rw [es_upd_s] at g3 g4
    refine h M2 (fun c c1 c2 c3 => by rw [g1 c c2 c3, es_upd_o c c2, f1.1 c c1 c2, es_upd_o c c2]) (fun j j1 j2 j3 j4 => by rw [g2 j j2, es_upd_j j2, f1.2 j j3 j4, es_upd_j j1]) g3 g4
  · intro n n0 n1 ih M' f1
    have hR' := repG hR f1
    have gr := gv_r hT (a := a) n.toNat (by omega)
    have dr := df_r hT (allF T - n)
    rw [gv_s n0, show allF T - (n + 1) = allF T - n - 1 by omega] at ih
    have ed : es_and (allF T) (es_xor (allF T - n) (-1)) = dfF T (allF T - n) := ei_dif ha.1 (by omega) (by omega) (by omega)
    have ew : w32 (allF T - n + -1) = allF T - n - 1 := by rw [show allF T - n + -1 = allF T - n - 1 by omega]; exact w32_m (by omega) (by omega)
    have skip : ¬ (pcN 18 (allF T - n).toNat ≤ pcN 18 (gvF T a n.toNat).toNat ∧ rmF T a a (dfF T (allF T - n)) 36 0 < 1000000) → ∀ M2, offG (es_upd M 91 0 0) M2 → G 24 [lr 91, li a, li (gvF T a n.toNat), li (allF T - n - 1), none, none] [] M2 := fun z M2 o => by rw [ifc_n z] at ih; exact ih M2 o
    have ask : pcN 18 (allF T - n).toNat ≤ pcN 18 (gvF T a n.toNat).toNat → es_Call (d + 8) 225 [.inr (.inr 91)] M' (fun y9 M8 => es_Call (d + 8) 237 [.inr (.inr 91), .inl a, .inl (es_and y9 (es_xor (allF T - n) (-1)))] M8 (fun y11 M10 => ((y11 = 0 → G 24 [lr 91, li a, li (gvF T a n.toNat), li (allF T - n - 1), none, none] [] M10) ∧ (¬ y11 = 0 → G 24 [lr 91, li a, li (allF T - n), li (allF T - n - 1), none, none] [] M10)))) := by
      intro le
      refine s_m_all hT hR' ?_
      rw [ed]
      refine s_m_isThere hT hR' dr.1 (by omega) (fun M2 o r => es_t1 ?_) (fun M2 o r => es_t0 (skip (fun z => r z.2) M2 (f1.tr o)))
      rw [ifc_y ⟨le, r⟩] at ih
      exact ih M2 (f1.tr o)
    apply k_Model_give_24 hG
    rw [ew]
    refine ⟨fun z => absurd z (by omega), fun _ => s_bitCount (by omega) (by omega) (s_bitCount gr.1 (by omega) ⟨fun z => ⟨fun w => absurd w (by decide), fun _ => ask (by omega)⟩, fun z => s_bitCount gr.1 (by omega) ⟨fun y => ⟨fun _ => skip (fun w => by have := w.1; omega) M' f1, fun w => absurd rfl w⟩, fun y => ⟨fun le => ⟨fun _ => ?_, fun w => absurd rfl w⟩, fun nle => ⟨fun w => absurd w (by decide), fun _ => ask (by omega)⟩⟩⟩⟩)⟩
    -- all of them: nothing changes
    have e0 : n.toNat = 0 := by
      rcases gr.2.2 with z | z
      · exact z
      · omega
    have en : n = 0 := by omega
    subst en
    have same : ifc (pcN 18 (allF T - 0).toNat ≤ pcN 18 (gvF T a (0 : Int).toNat).toNat ∧ rmF T a a (dfF T (allF T - 0)) 36 0 < 1000000) (allF T - 0) (gvF T a (0 : Int).toNat) = gvF T a (0 : Int).toNat := by
      have : allF T - 0 = gvF T a (0 : Int).toNat := by show allF T - 0 = allF T; omega
      by_cases c : pcN 18 (allF T - 0).toNat ≤ pcN 18 (gvF T a (0 : Int).toNat).toNat ∧ rmF T a a (dfF T (allF T - 0)) 36 0 < 1000000
      · rw [ifc_y c]; exact this
      · rw [ifc_n c]
    rw [same] at ih
    exact ih M' f1
end
section
variable {d : Nat} {M : es_M}
theorem P_give (h : Inv M) {a : Int} : Pair (d + 20) 25 238 [.inl a] M := by
  have hT := h.1
  have ha := hT.all
  apply c_EveryStreet_give
  refine s_isCorner (fun a0 a1 => es_f1 (s_tourAll hT (RepC.rf M) h.2.2 (fun M1 o1 c0 c1 c2 c3 => s_fewestGiven hT (repP (RepC.rf M) o1) c3 (c_Row_clear ?_)))) (fun z => es_f0 (m_Model_give (fun G hG => k_Model_give_0 hG (s_m_isCorner (fun q1 q2 => absurd ⟨q1, q2⟩ z) (fun _ => es_f0 ⟨rfl, h.th⟩)))))
  have gr := gv_r hT (a := a) (allF M + 1).toNat (by omega)
  have gr2 : 0 ≤ givF M a ∧ givF M a ≤ allF M := ⟨gr.1, gr.2.1⟩
  refine s_put' (by rw [es_upd_s]; decide) (by rw [es_upd_s]; decide) (fun M2 f1 f2 f3 f4 f5 => s_bitCount gr2.1 (by omega) ?_)
  rw [es_upd_s] at f3 f4
  have k2 : offK M M2 := fun c' x1 x2 x3 x4 x5 x6 x7 x8 x9 y1 y2 y3 => by rw [f1 c' x1 x2, es_upd_o c' x1]; exact o1 c' x3 x4 x5 x6 x7 x8 x9 y1 y2 y3
  refine s_m_give (d := d + 11) hT a0 a1 (repK k2) (fun M3 g1 g2 g3 g4 => ⟨rfl, ?_⟩)
  refine walk_inv h k2 (by rw [f1 60 (by decide) (by decide), es_upd_n (by decide)]; exact c0) (fun p hp => by rw [f1 62 (by decide) (by decide), f1 63 (by decide) (by decide), es_upd_o 62 (by decide), es_upd_o 63 (by decide)]; exact c1 p hp) (fun p q hp hq => by rw [f1 61 (by decide) (by decide), es_upd_n (by decide)]; exact c2 p q hp hq) (fun c x1 x2 x3 => g1 c x3 x1 x2) g2 ?_
  refine ⟨⟨by rw [g3, g1 58 (by decide) (by decide) (by decide), f3]; rfl, by rw [g1 58 (by decide) (by decide) (by decide), f3]; decide, by rw [g1 58 (by decide) (by decide) (by decide), f3]; decide⟩, fun i i0 i1 => ?_⟩
  rw [g1 58 (by decide) (by decide) (by decide), f3] at i1
  have : i = 0 := by omega
  rw [this, g4, g1 59 (by decide) (by decide) (by decide)]
  exact f4.symm
end
