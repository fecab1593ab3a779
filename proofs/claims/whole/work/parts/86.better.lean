/-! PAIRS OF CALLS: better (6) -/
def ordM (T : es_M) (f g : Int → Int) : es_M := fun c j => if c = 17 then 2 * f j + g j else if c = 125 then f j else if c = 126 then g j else T c j
theorem ordM_o {T : es_M} {f g : Int → Int} {c : Nat} (h1 : c ≠ 17) (h2 : c ≠ 125) (h3 : c ≠ 126) : ordM T f g c = T c := by
  funext j; unfold ordM; rw [if_neg h1, if_neg h2, if_neg h3]
theorem ordM_tw {T : es_M} {f g : Int → Int} : tow T (ordM T f g) := fun c hc => ordM_o (by omega) (by omega) (by omega)
theorem ordM_TI {T : es_M} (hT : TI T) {f g o : Int → Int} (h : Val T (T 14 2) o) (e : ∀ i, 0 ≤ i → i < T 14 2 → f i = o i / 2 ∧ g i = o i % 2) : TI (ordM T f g) := by
  have e17 : ∀ i, 0 ≤ i → i < T 14 2 → 2 * f i + g i = o i := fun i i0 i1 => by have := e i i0 i1; omega
  refine hT.ord (fun c j q => ?_) ?_ ?_ (fun i i0 i1 => ?_)
  · rw [ordM_o (by rintro rfl; cases q) (by rintro rfl; cases q) (by rintro rfl; cases q)]
  · rw [ordM_o (c := 14) (by decide) (by decide) (by decide), ordM_o (c := 91) (by decide) (by decide) (by decide)]; exact hT.on
  · rw [ordM_o (c := 14) (by decide) (by decide) (by decide)]
    exact Val_c h e17
  · rw [ordM_o (c := 14) (by decide) (by decide) (by decide)] at i1
    have := e i i0 i1
    show f i = (2 * f i + g i) / 2 ∧ g i = (2 * f i + g i) % 2
    omega
section
variable {d : Nat} {Q : Int → es_M → Prop} {T M : es_M}
abbrev offF (M M' : es_M) : Prop := (∀ c, c ≠ 91 → c ≠ 125 → c ≠ 126 → c ≠ 128 → c ≠ 129 → c ≠ 132 → c ≠ 133 → M' c = M c) ∧ ∀ j, j ≠ 57 → M' 91 j = M 91 j
theorem repF {M' : es_M} (hR : RepM T M) (h : offF M M') : RepM (ordM T (M' 125) (M' 126)) M' := by
  intro c j q
  by_cases e : c = 91
  · subst e
    rw [ordM_o (by decide) (by decide) (by decide), h.2 j (by rintro rfl; cases q)]; exact hR _ _ q
  · by_cases e1 : c = 125
    · subst e1; rfl
    · by_cases e2 : c = 126
      · subst e2; rfl
      · rw [ordM_o (by rintro rfl; cases q) e1 e2, h.1 c e e1 e2 ?_ ?_ ?_ ?_]
        · exact hR _ _ q
        all_goals (rintro rfl; cases q)
theorem btm_loop {G : Nat → es_L → List AV → es_M → Prop} (hT : TI T) (hG : es_Cl cd_Model_better st_Model_better (some .int) (d + 6) Q G) (hR : RepM T M) (hL : ∀ p q, isP T p → isP T q → goes T p → M 127 (p * 36 + q) = wyF T p q) (n0 : 0 < T 14 2) : ∀ (f : Nat) (o : Int → Int) (m times : Int) (M' : es_M), Val T (T 14 2) o → offF M M' → (∀ i, 0 ≤ i → i < T 14 2 → M' 125 i = o i / 2 ∧ M' 126 i = o i % 2) → 1 ≤ m → m ≤ f → 0 ≤ times → times + m < 1000000 → (∀ M'', offF M M'' → (∀ i, 0 ≤ i → i < T 14 2 → M'' 125 i = (btF T (T 14 2) f o m).2 i / 2 ∧ M'' 126 i = (btF T (T 14 2) f o m).2 i % 2) → Q (times + (btF T (T 14 2) f o m).1) M'') → G 49 [lr 91, li m, li times, li 1, none] [] M' := by
  intro f
  induction f with
  | zero => intro o m times M' _ _ _ m0 m1; omega
  | succ f ih =>
    intro o m times M' hV f1 f2 m0 m1 t0 t1 fin
    have hn := hT.on
    have hT' : TI (ordM T (M' 125) (M' 126)) := ordM_TI hT hV f2
    have tw : tow T (ordM T (M' 125) (M' 126)) := ordM_tw
    have e14 : ordM T (M' 125) (M' 126) 14 = T 14 := ordM_o (by decide) (by decide) (by decide)
    have e17 : ∀ i, 0 ≤ i → i < T 14 2 → ordM T (M' 125) (M' 126) 17 i = o i := fun i i0 i1 => by
      have := f2 i i0 i1
      show 2 * M' 125 i + M' 126 i = o i
      omega
    have er : rdF (ordM T (M' 125) (M' 126)) (T 14 2) (ordM T (M' 125) (M' 126) 17) m = rdF T (T 14 2) o m := by
      rw [rdF_tw tw (by rw [e14]) (by rw [e14])]; exact rdF_c n0 e17
    have hw := wyF_tw tw (by rw [e14]) (by rw [e14])
    have hgo : ∀ p, goes (ordM T (M' 125) (M' 126)) p → goes T p := fun p g => by
      unfold goes at g ⊢
      rw [ln_congr (tw 4 (by decide)) (tw 5 (by decide)), e14] at g; exact g
    have hL' : ∀ N : es_M, offE M' N → ∀ p q, isP (ordM T (M' 125) (M' 126)) p → isP (ordM T (M' 125) (M' 126)) q → goes (ordM T (M' 125) (M' 126)) p → N 127 (p * 36 + q) = wyF (ordM T (M' 125) (M' 126)) p q := fun N e p q hp hq g => by
      unfold isP at hp hq
      rw [tw 1 (by decide)] at hp hq
      rw [hw, e.1 127 (by decide) (by decide) (by decide) (by decide) (by decide), f1.1 127 (by decide) (by decide) (by decide) (by decide) (by decide) (by decide) (by decide)]; exact hL p q hp hq (hgo p g)
    have hR' : ∀ N : es_M, offE M' N → RepM (ordM T (M' 125) (M' 126)) N := fun N e => repE (repF hR f1) e
    have W := rdF_W hT n0 hV m
    have n0' : 0 < ordM T (M' 125) (M' 126) 14 2 := by rw [e14]; exact n0
    have tr : ∀ {N N' : es_M}, offE M' N → offE N N' → offE M' N' := fun a b => ⟨fun c c1 c2 c3 c4 c5 => by rw [b.1 c c1 c2 c3 c4 c5]; exact a.1 c c1 c2 c3 c4 c5, fun j hj => by rw [b.2 j hj]; exact a.2 j hj⟩
    apply k_Model_better_49 hG
    refine ⟨fun z => absurd z (by decide), fun _ => ?_⟩
    have o0 : offE M' (es_upd M' 91 57 m) := ⟨fun c c1 _ _ _ _ => es_upd_o c c1, fun j hj => es_upd_j hj⟩
    refine s_m_swaps hT' (hR' _ o0) (hL' _ o0) (b := m) (s := (m, fun _ => 0)) n0' ⟨es_upd_s, Int.le_refl _, fun z => absurd (show m < m from z) (Int.lt_irrefl _)⟩ (fun M1 a1 a2 => ?_)
    have o1 := tr o0 a1
    refine s_m_turnsRound hT' (hR' _ o1) (hL' _ o1) (b := m) n0' a2 (fun M2 b1 b2 => ?_)
    have o2 := tr o1 b1
    refine s_m_movesOne hT' (hR' _ o2) (hL' _ o2) (b := m) n0' b2 (fun M3 c1 c2 => ?_)
    have o3 := tr o2 c1
    rw [e14] at c2
    have R3 : RM m (T 14 2) (rdF (ordM T (M' 125) (M' 126)) (T 14 2) (ordM T (M' 125) (M' 126) 17) m) M3 := c2
    rw [er] at R3
    rw [R3.1]
    have o3' : offF M M3 := ⟨fun c x1 x2 x3 x4 x5 x6 x7 => by rw [o3.1 c x1 x4 x5 x6 x7]; exact f1.1 c x1 x2 x3 x4 x5 x6 x7, fun j hj => by rw [o3.2 j hj]; exact f1.2 j hj⟩
    have e47 : ∀ N : es_M, offF M N → N 91 47 = T 14 2 := fun N e => by rw [e.2 47 (by decide), hR 91 47 rfl, hn.2.2]
    refine ⟨fun z => s_m_truth (fun w => absurd rfl w) (fun _ => ?_), fun z => s_m_truth (fun _ => ?_) (fun w => absurd w (by decide))⟩
    · have eb : btF T (T 14 2) (f + 1) o m = (0, o) := if_neg (by omega)
      have fi := fin M3 o3' (fun i i0 i1 => by rw [eb, o3.1 125 (by decide) (by decide) (by decide) (by decide) (by decide), o3.1 126 (by decide) (by decide) (by decide) (by decide) (by decide)]; exact f2 i i0 i1)
      rw [eb] at fi
      rw [show times + (((0 : Nat), o).1 : Int) = times by show times + ((0 : Nat) : Int) = times; omega] at fi
      rw [w32_s (by omega) (by omega), show times + 0 = times by omega]
      apply k_Model_better_94 hG
      rw [e47 M3 o3']
      refine ⟨fun w => absurd w (by omega), fun _ => ⟨fun _ => ?_, fun w => absurd rfl w⟩⟩
      apply k_Model_better_49 hG
      exact ⟨fun _ => fi, fun w => absurd rfl w⟩
    · have z' : (rdF T (T 14 2) o m).1 < m := by omega
      have W2 := W.2 z'
      rw [w32_1 (by omega) (by omega)]
      have eb : btF T (T 14 2) (f + 1) o m = ((btF T (T 14 2) f (rdF T (T 14 2) o m).2 (rdF T (T 14 2) o m).1).1 + 1, (btF T (T 14 2) f (rdF T (T 14 2) o m).2 (rdF T (T 14 2) o m).1).2) := if_pos z'
      refine es_up (P := fun k => ∀ N : es_M, (∀ c, c ≠ 125 → c ≠ 126 → N c = M3 c) → (∀ i, 0 ≤ i → i < k → N 125 i = (rdF T (T 14 2) o m).2 i / 2 ∧ N 126 i = (rdF T (T 14 2) o m).2 i % 2) → G 94 [lr 91, none, li (times + 1), li 1, li k] [] N) (n := T 14 2) (by omega) ?_ ?_ M3 (fun _ _ _ => rfl) (fun i i0 i1 => absurd i1 (by omega))
      · intro N y1 y2
        have oN : offF M N := ⟨fun c x1 x2 x3 x4 x5 x6 x7 => by rw [y1 c x2 x3]; exact o3'.1 c x1 x2 x3 x4 x5 x6 x7, fun j hj => by rw [y1 91 (by decide) (by decide)]; exact o3'.2 j hj⟩
        apply k_Model_better_94 hG
        rw [e47 N oN]
        refine ⟨fun _ => ?_, fun w => absurd (Int.le_refl _) w⟩
        rw [y1 91 (by decide) (by decide), R3.1]
        refine ih (rdF T (T 14 2) o m).2 (rdF T (T 14 2) o m).1 (times + 1) N W2.1 oN y2 W2.2 (by omega) (by omega) (by omega) (fun M4 q1 q2 => ?_)
        have fi := fin M4 q1 (by rw [eb]; exact q2)
        rw [eb] at fi
        rw [show times + (((btF T (T 14 2) f (rdF T (T 14 2) o m).2 (rdF T (T 14 2) o m).1).1 + 1 : Nat) : Int) = times + 1 + ((btF T (T 14 2) f (rdF T (T 14 2) o m).2 (rdF T (T 14 2) o m).1).1 : Int) by omega] at fi
        exact fi
      · intro k k0 k1 ih3 N y1 y2
        have oN : offF M N := ⟨fun c x1 x2 x3 x4 x5 x6 x7 => by rw [y1 c x2 x3]; exact o3'.1 c x1 x2 x3 x4 x5 x6 x7, fun j hj => by rw [y1 91 (by decide) (by decide)]; exact o3'.2 j hj⟩
        apply k_Model_better_94 hG
        have mk := R3.2.2 z' k k0 k1
        rw [e47 N oN, es_upd_n (c := 125) (c' := 133) (by decide), y1 132 (by decide) (by decide), y1 133 (by decide) (by decide), mk.1, mk.2, w32_1 (k := k) (by omega) (by omega)]
        refine ⟨fun w => absurd w (by omega), fun _ => ⟨fun w => absurd w (by decide), fun _ => ⟨by omega, by omega, by omega, by omega, by omega, ih3 _ (fun c x1 x2 => by rw [es_upd_o c x2, es_upd_o c x1]; exact y1 c x1 x2) (fun i i0 i1 => ?_)⟩⟩⟩
        by_cases e : i = k
        · subst e
          rw [es_upd_n (by decide), es_upd_s, es_upd_s]
          exact ⟨rfl, rfl⟩
        · rw [es_upd_n (by decide), es_upd_j e, es_upd_j e, es_upd_n (by decide)]
          exact y2 i i0 (by omega)
end
section
variable {d : Nat} {M : es_M}
theorem btF_V {T : es_M} (hT : TI T) {n : Int} (n0 : 0 < n) : ∀ (f : Nat) (o : Int → Int) (m : Int), Val T n o → Val T n (btF T n f o m).2 := by
  intro f
  induction f with
  | zero => intro o m h; exact h
  | succ f ih =>
    intro o m h
    by_cases z : (rdF T n o m).1 < m
    · rw [show btF T n (f + 1) o m = ((btF T n f (rdF T n o m).2 (rdF T n o m).1).1 + 1, (btF T n f (rdF T n o m).2 (rdF T n o m).1).2) from if_pos z]
      exact ih _ _ ((rdF_W hT n0 h m).2 z).1
    · rw [show btF T n (f + 1) o m = (0, o) from if_neg z]
      exact h
theorem P_better (h : Inv M) : Pair (d + 20) 39 260 [] M := by
  have hT := h.1
  have ho := hT.on
  have hv := hT.v
  apply c_EveryStreet_better
  refine ⟨fun z => ?_, fun z => m_Model_better (fun G hG => k_Model_better_0 hG ⟨fun w => absurd (by rw [es_upd_j (by decide), ho.2.2]; exact z) w, fun _ => ⟨rfl, h.th⟩⟩)⟩
  have hV := hT.val
  have n0 : 0 < M 14 2 := by omega
  have mr := moF_r hT hV.cd n0
  -- the model's beginning
  have mdl : ∀ (M1 : es_M) (y : Int) (Q' : Int → es_M → Prop), RepM M (es_upd M1 91 0 0) → (moF M (M 17) (M 14 2) < 1000000 → ∀ (M2 M3 : es_M), (∀ c, c ≠ 127 → M2 c = es_upd M1 91 0 0 c) → offF M2 M3 → (∀ i, 0 ≤ i → i < M 14 2 → M3 125 i = (btF M (M 14 2) 1000000 (M 17) (moF M (M 17) (M 14 2))).2 i / 2 ∧ M3 126 i = (btF M (M 14 2) 1000000 (M 17) (moF M (M 17) (M 14 2))).2 i % 2) → Q' (btF M (M 14 2) 1000000 (M 17) (moF M (M 17) (M 14 2))).1 M3) → (¬ moF M (M 17) (M 14 2) < 1000000 → ∀ M2 : es_M, (∀ c, c ≠ 127 → M2 c = es_upd M1 91 0 0 c) → Q' (-2) M2) → es_Call (d + 20) 260 [.inr (.inr 91)] M1 Q' := by
    intro M1 y Q' hR1 hy hno
    apply m_Model_better
    intro G hG
    apply k_Model_better_0 hG
    rw [hR1 91 47 rfl, ho.2.2]
    refine ⟨fun _ => s_m_joins hT hR1 (fun M2 g1 g2 => ?_), fun w => absurd w z⟩
    have hR2 := rep127 hR1 g1
    rw [hR2 91 47 rfl, ho.2.2]
    refine s_m_minutesOf_125 (o := M 17) hT hR2 g2 n0 ho.2.1 hV.cd (fun i i0 i1 => ?_) ⟨fun w => ?_, fun w => hno w M2 g1⟩
    · have := hT.or i0 i1
      rw [hR2 125 _ rfl, hR2 126 _ rfl]; exact ⟨this.2.1, this.2.2.1⟩
    · refine btm_loop (d := d + 13) hT hG hR2 g2 n0 1000000 (M 17) _ 0 M2 hV ⟨fun _ _ _ _ _ _ _ _ => rfl, fun _ _ => rfl⟩ (fun i i0 i1 => ?_) mr.1 (by omega) (by omega) (by omega) (fun M3 e1 e2 => ?_)
      · have := hT.or i0 i1
        rw [hR2 125 _ rfl, hR2 126 _ rfl]; exact ⟨this.2.1, this.2.2.1⟩
      · rw [Int.zero_add]; exact hy w M2 M3 g1 e1 e2
  refine s_betterAll hT (RepC.rf M) h.2.2 n0 (fun M1 nz f1 f2 f3 f4 => ?_) (fun M1 ok f1 f2 f3 f4 f5 => ?_)
  · refine mdl M1 0 _ (repm4 f1) (fun w => absurd w nz) (fun _ M2 g1 => ⟨rfl, ?_⟩)
    have eo : ∀ c, c ≠ 60 → c ≠ 61 → c ≠ 62 → c ≠ 63 → c ≠ 91 → c ≠ 127 → M2 c = M c := fun c c1 c2 c3 c4 c5 c6 => by rw [g1 c c6, es_upd_o c c5, f1 c c1 c2 c3 c4]
    have e91 : ∀ j, j ≠ 0 → M2 91 j = M 91 j := fun j j1 => by rw [g1 91 (by decide), es_upd_j j1, f1 91 (by decide) (by decide) (by decide) (by decide)]
    refine h.ref (fun c j q => ?_) ?_ ?_ (fun p q hp hq => ?_) (fun p hp => ?_)
    · by_cases c1 : c = 91
      · subst c1; exact e91 j (by rintro rfl; cases q)
      · rw [eo c ?_ ?_ ?_ ?_ c1 ?_] <;> (rintro rfl; cases q)
    · have hr := h.2.1
      unfold RowEq at hr ⊢
      rw [e91 1 (by decide), eo 58, eo 59, eo 92] <;> first | exact hr | decide
    · rw [g1 60, es_upd_n, f2] <;> decide
    · rw [g1 61, es_upd_n, f3 p q hp hq] <;> decide
    · have := f4 p hp
      rw [g1 62, g1 63, es_upd_o 62, es_upd_o 63] <;> first | exact this | decide
  · have hR1 : RepM M (es_upd M1 91 0 0) := by
      intro c j q
      by_cases e : c = 91
      · subst e
        rw [es_upd_j (by rintro rfl; cases q), f1 91] <;> decide
      · rw [es_upd_o c e, f1 c ?_ ?_ ?_ ?_ ?_ ?_ ?_ ?_] <;> (rintro rfl; cases q)
    refine mdl M1 0 _ hR1 (fun _ M2 M3 g1 e1 e2 => ⟨rfl, ?_⟩) (fun w => absurd ok w)
    have V := btF_V hT n0 1000000 (M 17) (moF M (M 17) (M 14 2)) hV
    generalize (btF M (M 14 2) 1000000 (M 17) (moF M (M 17) (M 14 2))).2 = o' at *
    have eo : ∀ c, c ≠ 60 → c ≠ 61 → c ≠ 62 → c ≠ 63 → c ≠ 84 → c ≠ 85 → c ≠ 86 → c ≠ 91 → c ≠ 127 → c ≠ 128 → c ≠ 129 → c ≠ 132 → c ≠ 133 → c ≠ 17 → c ≠ 125 → c ≠ 126 → M3 c = M c := fun c c1 c2 c3 c4 c5 c6 c7 c9 d1 d2 d3 d6 d7 x1 x3 x4 => by rw [e1.1 c c9 x3 x4 d2 d3 d6 d7, g1 c d1, es_upd_o c c9, f1 c c1 c2 c3 c4 x1 c5 c6 c7]
    have e91 : ∀ j, j ≠ 0 → j ≠ 57 → M3 91 j = M 91 j := fun j j1 j2 => by rw [e1.2 j j2, g1 91 (by decide), es_upd_j j1, f1 91] <;> decide
    have e17 : M3 17 = M1 17 := by rw [e1.1 17, g1 17, es_upd_o 17] <;> decide
    have e14 : M3 14 = M 14 := by rw [eo 14] <;> decide
    have e47 : M3 91 47 = M 14 2 := by rw [e91 47 (by decide) (by decide), ho.2.2]
    refine h.ord (fun c j q w => ?_) ?_ ?_ (fun i i0 i1 => ?_) ?_ ?_ (fun p q hp hq => ?_) (fun p hp => ?_)
    · by_cases c1 : c = 91
      · subst c1; exact e91 j (by rintro rfl; cases q) (by rintro rfl; cases q)
      · rw [eo c ?_ ?_ ?_ ?_ ?_ ?_ ?_ c1 ?_ ?_ ?_ ?_ ?_ ?_ ?_ ?_] <;> (rintro rfl; first | (cases w; done) | (cases q; done))
    · rw [e14, e47]; omega
    · rw [e14, e17]; exact Val_c V f2
    · rw [e14] at i1
      rw [e17, f2 i i0 i1]; exact e2 i i0 i1
    · have hr := h.2.1
      unfold RowEq at hr ⊢
      rw [e91 1 (by decide) (by decide), eo 58, eo 59, eo 92] <;> first | exact hr | decide
    · rw [e1.1 60, g1 60, es_upd_n, f3] <;> decide
    · rw [e1.1 61, g1 61, es_upd_n, f4 p q hp hq] <;> decide
    · have := f5 p hp
      rw [e1.1 62, e1.1 63, g1 62, g1 63, es_upd_o 62, es_upd_o 63] <;> first | exact this | decide
end
