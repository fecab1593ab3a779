/-! PAIRS OF CALLS: town -/
theorem pers55 {j : Int} (h : pers 55 j = true) : j = 1 := by
  by_cases e : j = 1
  · exact e
  · have : pers 55 j = false := by unfold pers persC; rw [decide_eq_false e]; rfl
    rw [this] at h; cases h
theorem pers91 {j : Int} (h : pers 91 j = true) : j = 3 ∨ j = 13 ∨ j = 16 ∨ j = 23 ∨ j = 30 ∨ j = 41 ∨ j = 47 := by
  by_cases e : j = 3 ∨ j = 13 ∨ j = 16 ∨ j = 23 ∨ j = 30 ∨ j = 41 ∨ j = 47
  · exact e
  · have : pers 91 j = false := by
      unfold pers persM
      rw [decide_eq_false (p := j = 3) (by omega), decide_eq_false (p := j = 13) (by omega), decide_eq_false (p := j = 16) (by omega), decide_eq_false (p := j = 23) (by omega), decide_eq_false (p := j = 30) (by omega), decide_eq_false (p := j = 41) (by omega), decide_eq_false (p := j = 47) (by omega)]
      rfl
    rw [this] at h; cases h
theorem persLo {c : Nat} {j : Int} (h : pers c j = true) (hc : c < 91) : (1 ≤ c ∧ c ≤ 56) ∧ (c = 55 → j = 1) := by
  by_cases e : 1 ≤ c ∧ c ≤ 56
  · exact ⟨e, fun z => by subst z; exact pers55 h⟩
  · exfalso
    have z : ∀ k : Nat, (c = k → False) → Nat.beq c k = false := fun k hk => by rw [← Bool.not_eq_true, Nat.beq_eq]; exact hk
    have z1 : (Nat.ble 1 c && Nat.ble c 54) = false := by
      rcases (show ¬ 1 ≤ c ∨ ¬ c ≤ 54 by omega) with q | q
      · rw [show Nat.ble 1 c = false by rw [← Bool.not_eq_true, Nat.ble_eq]; exact q]; rfl
      · rw [show Nat.ble c 54 = false by rw [← Bool.not_eq_true, Nat.ble_eq]; exact q, Bool.and_false]
    have z2 : Nat.ble 93 c = false := by rw [← Bool.not_eq_true, Nat.ble_eq]; omega
    have z3 : Nat.ble 106 c = false := by rw [← Bool.not_eq_true, Nat.ble_eq]; omega
    unfold pers persC persM at h
    rw [z1, z2, z3, z 56 (by omega), z 55 (by omega), z 112 (by omega), z 113 (by omega), z 120 (by omega), z 121 (by omega), z 125 (by omega), z 126 (by omega), z 137 (by omega), z 138 (by omega), z 140 (by omega), z 91 (by omega)] at h
    cases h
theorem pers_no {c : Nat} {j : Int} (h : pers c j = true) : c ≠ 104 ∧ c ≠ 105 := by
  constructor
  · intro e; subst e; have : pers 104 j = false := rfl; rw [this] at h; cases h
  · intro e; subst e; have : pers 105 j = false := rfl; rw [this] at h; cases h
section
variable {d : Nat} {M : es_M}
/-- a text that was read and told nothing -/
theorem town_fail (h : Inv M) {M1 M2 : es_M} {l : List It} (g : GoodL M l) (f1 : FRX M M1) (hw : MRw M l M2) (hl : lowF (es_upd M1 55 1 0) M2) : Inv M2 := by
  have hT : Inv (es_upd (es_upd M 55 1 0) 91 16 0) := by
    refine h.text ((Fr.rf.upd rfl).upd rfl) ?_
    unfold TItext
    rw [es_upd_s, es_upd_n (by decide), es_upd_s]
    exact ⟨by decide, fun i i0 i1 => by omega⟩
  have VV := VI_l h.1 l g
  have t1 : es_upd (es_upd M 55 1 0) 91 16 0 1 = M 1 := by rw [es_upd_o 1 (by decide), es_upd_o 1 (by decide)]
  have to : ∀ c : Nat, c ≠ 55 → c ≠ 91 → es_upd (es_upd M 55 1 0) 91 16 0 c = M c := fun c a b => by rw [es_upd_o c b, es_upd_o c a]
  have t91 : ∀ j : Int, j ≠ 16 → es_upd (es_upd M 55 1 0) 91 16 0 91 j = M 91 j := fun j a => by rw [es_upd_j a, es_upd_n (by decide)]
  have t16 : es_upd (es_upd M 55 1 0) 91 16 0 91 16 = 0 := es_upd_s
  have t55 : es_upd (es_upd M 55 1 0) 91 16 0 55 1 = 0 := by rw [es_upd_n (by decide), es_upd_s]
  generalize es_upd (es_upd M 55 1 0) 91 16 0 = T at *
  obtain ⟨w1, w2, w3, w4⟩ := hw
  have low : ∀ (c : Nat) (j : Int), c < 91 → c ≠ 55 → c ≠ 57 → M2 c j = T c j := fun c j a b e => by rw [hl c a, es_upd_n b, f1 c j (fun z => b z.1) e, to c b (by omega)]
  have lowc : ∀ c : Nat, c < 91 → c ≠ 55 → c ≠ 57 → M2 c = T c := fun c a b e => funext fun j => low c j a b e
  have c91 : ∀ j : Int, ¬ (j = 0 ∨ j = 16 ∨ j = 17 ∨ j = 18 ∨ j = 19 ∨ j = 20) → M2 91 j = T 91 j := fun j a => by rw [t91 j (by omega)]; exact w4 91 j (by decide) (by decide) (by decide) (by decide) (fun z => a z.2)
  have hi : ∀ (c : Nat) (j : Int), 92 ≤ c → ¬ (93 ≤ c ∧ c ≤ 97) → c ≠ 104 → c ≠ 105 → M2 c j = T c j := fun c j a b e f => by rw [to c (by omega) (by omega)]; exact w4 c j (by omega) b e f (fun z => by omega)
  have key : TI M2 := by
    refine hT.1.but (fun c j hp a b e => ?_) (fun s s0 s1 => ?_) (fun v v0 v1 => ?_)
    · have np := pers_no hp
      by_cases z : c < 91
      · obtain ⟨p1, p2⟩ := persLo hp z
        by_cases z5 : c = 55
        · have j1 := p2 z5
          subst z5; subst j1
          rw [hl 55 (by decide), es_upd_s, t55]
        · exact low c j z z5 (by omega)
      · by_cases z1 : c = 91
        · subst z1
          have pj := pers91 hp
          by_cases j16 : j = 16
          · subst j16; rw [w3.2, t16]
          · exact c91 j (by omega)
        · exact hi c j (by omega) a np.1 np.2
    · rw [t1] at s1
      have x := VV.2.2.2.2.2.2.1 s s1
      rw [w2 93 (by decide) (by decide), w2 94 (by decide) (by decide), w2 95 (by decide) (by decide), w2 96 (by decide) (by decide), w2 97 (by decide) (by decide), to 93 (by decide) (by decide), to 94 (by decide) (by decide), to 95 (by decide) (by decide), to 96 (by decide) (by decide), to 97 (by decide) (by decide)]
      exact x
    · exact ⟨hi 106 v (by decide) (by decide) (by decide) (by decide), hi 107 v (by decide) (by decide) (by decide) (by decide)⟩
  refine ⟨key, ?_, ?_⟩
  · have hr := hT.2.1
    unfold RowEq at hr ⊢
    rw [lowc 58 (by decide) (by decide) (by decide), lowc 59 (by decide) (by decide) (by decide), c91 1 (by decide), (funext fun j => hi 92 j (by decide) (by decide) (by decide) (by decide) : M2 92 = T 92)]
    exact hr
  · exact hT.2.2.congr (stp_congr (lowc 2 (by decide) (by decide) (by decide)) (lowc 3 (by decide) (by decide) (by decide)) (lowc 4 (by decide) (by decide) (by decide)) (lowc 5 (by decide) (by decide) (by decide)) (lowc 9 (by decide) (by decide) (by decide)) (lowc 14 (by decide) (by decide) (by decide))) (lowc 1 (by decide) (by decide) (by decide)) (low 60 5 (by decide) (by decide) (by decide)) (lowc 61 (by decide) (by decide) (by decide)) (lowc 62 (by decide) (by decide) (by decide)) (lowc 63 (by decide) (by decide) (by decide))
/-- a text that told a town -/
theorem town_good (h : Inv M) {M1 M7 M2 : es_M} {l : List It} (g : GoodL M l) (n1 : pBL (tclr M) l 1 0 ≤ 18) (v1 : pBL (tclr M) l 1 1 ≤ 10) (f1 : FRX M M1) (cc : CC (pBL (tclr M) l) M7) (fc : FC (es_upd M1 55 1 0) M7) (fm : FinM M l M2) (hl : lowF (es_upd (es_upd (es_upd (es_upd (es_upd (es_upd (es_upd M7 14 1 0) 14 2 0) 14 3 0) 25 0 0) 35 0 0) 45 0 0) 60 5 1) M2) : Inv M2 := by
  have hT := TI0_l h.1 l g n1 v1
  have VV := VI_l h.1 l g
  have vo : ∀ c : Nat, (c = 12 ∨ 14 ≤ c) ∧ c ≠ 91 ∧ ¬ (93 ≤ c ∧ c ≤ 97) ∧ c ≠ 101 ∧ c ≠ 106 ∧ c ≠ 107 → pBL (tclr M) l c = tclr M c := fun c hc => pBL_o hc l
  have v91 : ∀ j : Int, j ≠ 3 → j ≠ 23 → pBL (tclr M) l 91 j = tclr M 91 j := fun j a b => pBL_91 a b l
  obtain ⟨⟨w3, w23, w16, w41, w47, w30⟩, x93, x101, x106, x137, xo⟩ := fm
  generalize pBL (tclr M) l = V at *
  have m1 : ∀ (c : Nat) (j : Int), 14 ≤ c → c ≠ 55 → c ≠ 57 → M7 c j = M c j := fun c j a b e => by rw [fc c (by omega), es_upd_n b, f1 c j (fun z => b z.1) e]
  have m55 : M7 55 1 = 0 := by rw [fc 55 (by decide), es_upd_s]
  have key : TI M2 := by
    refine hT.1.but (fun c j hp a b e => ?_) (fun s s0 s1 => ?_) (fun v v0 v1 => ?_)
    · have np := pers_no hp
      by_cases z : c < 91
      · obtain ⟨p1, p2⟩ := persLo hp z
        rw [hl c z, es_upd_n (by omega)]
        by_cases z13 : c ≤ 13
        · rw [es_upd_n (by omega), es_upd_n (by omega), es_upd_n (by omega), es_upd_n (by omega), es_upd_n (by omega), es_upd_n (by omega), cc c p1.1 z13]
        · rw [vo c (by omega)]
          by_cases z14 : c = 14
          · subst z14
            rw [es_upd_n (by decide), es_upd_n (by decide), es_upd_n (by decide), es_upd_c, es_upd_c, es_upd_c, m1 14 j (by decide) (by decide) (by decide)]
            show _ = (if (14 : Nat) = 14 ∧ (j = 1 ∨ j = 2 ∨ j = 3) then 0 else _)
            by_cases j3 : j = 3
            · rw [if_pos j3, if_pos ⟨rfl, Or.inr (Or.inr j3)⟩]
            · by_cases j2 : j = 2
              · rw [if_neg j3, if_pos j2, if_pos ⟨rfl, Or.inr (Or.inl j2)⟩]
              · by_cases j1 : j = 1
                · rw [if_neg j3, if_neg j2, if_pos j1, if_pos ⟨rfl, Or.inl j1⟩]
                · rw [if_neg j3, if_neg j2, if_neg j1, if_neg (by omega), if_neg (by omega), if_neg (by omega), if_neg (by omega), if_neg (by omega)]
          · by_cases z55 : c = 55
            · have j1 := p2 z55
              subst z55; subst j1
              rw [es_upd_n (by decide), es_upd_n (by decide), es_upd_n (by decide), es_upd_n (by decide), es_upd_n (by decide), es_upd_n (by decide), m55]
              simp [tclr]
            · by_cases zk : (c = 25 ∨ c = 35 ∨ c = 45) ∧ j = 0
              · have e0 : tclr M c j = 0 := by unfold tclr; rw [if_neg (by omega), if_pos zk]
                rw [e0]
                obtain ⟨zc, rfl⟩ := zk
                rcases zc with rfl | rfl | rfl
                · rw [es_upd_n (by decide), es_upd_n (by decide), es_upd_s]
                · rw [es_upd_n (by decide), es_upd_s]
                · rw [es_upd_s]
              · have e0 : tclr M c j = M c j := by unfold tclr; rw [if_neg (by omega), if_neg zk, if_neg (by omega), if_neg (by omega), if_neg (by omega)]
                have u1 : ∀ (X : es_M) (k : Nat), (k = 25 ∨ k = 35 ∨ k = 45) → es_upd X k 0 0 c j = X c j := fun X k hk => if_neg (fun y => zk ⟨by omega, y.2⟩)
                rw [e0, u1 _ 45 (by decide), u1 _ 35 (by decide), u1 _ 25 (by decide), es_upd_n z14, es_upd_n z14, es_upd_n z14, m1 c j (by omega) z55 (by omega)]
      · by_cases z1 : c = 91
        · subst z1
          have pj := pers91 hp
          rcases pj with rfl | rfl | rfl | rfl | rfl | rfl | rfl
          · exact w3
          · rw [v91 13 (by decide) (by decide), clr_91 (by decide)]; exact xo 91 13 (by decide) (by decide) (by decide) (by decide) (by decide) (by decide) (by decide) (by decide) (by decide)
          · rw [w16, v91 16 (by decide) (by decide)]; simp [tclr]
          · rw [w23, VV.1.2]
          · rw [w30, v91 30 (by decide) (by decide)]; simp [tclr]
          · rw [w41, v91 41 (by decide) (by decide)]; simp [tclr]
          · rw [w47, v91 47 (by decide) (by decide)]; simp [tclr]
        · by_cases z2 : c = 101
          · subst z2; rw [x101]
          · rw [vo c (by omega)]
            by_cases z3 : c = 137
            · subst z3
              have e0 : tclr M 137 j = if (137 : Nat) = 137 ∧ 0 ≤ j ∧ j < 3 then 0 else M 137 j := by unfold tclr; rw [if_neg (by omega), if_neg (by omega), if_neg (by omega), if_neg (by omega)]
              rw [x137, e0]
              by_cases z4 : 0 ≤ j ∧ j < 3
              · rw [if_pos z4, if_pos ⟨rfl, z4⟩]
              · rw [if_neg z4, if_neg (fun y => z4 y.2)]
            · rw [clr_o (by omega)]
              exact xo c j (by omega) a z2 np.1 np.2 b e z3 (fun y => z1 y.1)
    · rw [x93 93 (by decide) (by decide), x93 94 (by decide) (by decide), x93 95 (by decide) (by decide), x93 96 (by decide) (by decide), x93 97 (by decide) (by decide)]
      exact ⟨rfl, rfl, rfl, rfl, rfl, rfl⟩
    · have x := hT.1.mv v0 v1
      rw [x.1, x.2]
      exact x106 v v0 v1
  have lo : ∀ c : Nat, 56 ≤ c → c < 91 → c ≠ 57 → c ≠ 60 → M2 c = M c := fun c a b e f => by rw [hl c b, es_upd_o c f, es_upd_o c (by omega), es_upd_o c (by omega), es_upd_o c (by omega), es_upd_o c (by omega), es_upd_o c (by omega), es_upd_o c (by omega)]; exact funext fun j => m1 c j (by omega) (by omega) e
  refine ⟨key, ?_, CacheOK.stale ?_⟩
  · have hr := h.2.1
    unfold RowEq at hr ⊢
    rw [lo 58 (by decide) (by decide) (by decide) (by decide), lo 59 (by decide) (by decide) (by decide) (by decide), xo 91 1 (by decide) (by decide) (by decide) (by decide) (by decide) (by decide) (by decide) (by decide) (by decide), (funext fun j => xo 92 j (by decide) (by decide) (by decide) (by decide) (by decide) (by decide) (by decide) (by decide) (fun z => absurd z.1 (by decide)) : M2 92 = M 92)]
    exact hr
  · rw [hl 60 (by decide), es_upd_s]
theorem P_town (h : Inv M) : Pair (d + 20) 2 173 [] M := by
  apply m_EveryStreet_town
  intro G hG
  apply k_EveryStreet_town_0 hG
  obtain ⟨⟨x0, x1, x2⟩, x3⟩ := h.1.X
  refine s_read x0 x1 (fun i i0 i1 => (x3 i i0 i1).2) (fun M1 f1 hok => ?_)
  have pok := prs_ok (M := M) (t := M 56) (L := min (M 55 1) 60) 15 0 [] (by omega) GoodL.nil
  generalize hR : prs M (M 56) (min (M 55 1) 60) 15 0 [] = R at *
  obtain ⟨g, ⟨p0, pL⟩, l1, l15⟩ := pok
  have e55 : M1 55 1 = M 55 1 := f1 55 1 (by decide) (by decide)
  refine c_Reader_cutTo ⟨fun z => absurd z (by decide), fun _ => ⟨fun _ => ⟨es_b1, ?_⟩, fun z => absurd (by omega) z⟩⟩
  have hi : ∀ c : Nat, 91 ≤ c → es_upd M1 55 1 0 c = M c := fun c hc => by rw [es_upd_o c (by omega)]; exact funext fun j => f1 c j (fun z => by omega) (by omega)
  by_cases hg : R.2.1 = true ∧ M 55 1 ≤ R.1
  · have ea : ansT (M 55 1) R = (R.2.2.length : Nat) := if_pos hg
    have l1' := l1 hg.1
    rw [ea]
    obtain ⟨dr, i3, -⟩ := hok hg.1
    refine ⟨fun _ => ?_, fun z => absurd (by omega) z⟩
    have e57 : es_upd M1 55 1 0 57 = M1 57 := es_upd_o 57 (by decide)
    have e553 : es_upd M1 55 1 0 55 3 = R.2.2.length := by rw [es_upd_j (by decide)]; exact i3
    have e1 : ∀ c : Nat, 1 ≤ c → c ≤ 13 → es_upd M1 55 1 0 c = M c := fun c a b => by rw [es_upd_o c (by omega)]; exact funext fun j => f1 c j (fun z => by omega) (by omega)
    refine s_fits h.1 g (e1 1 (by decide) (by decide)) (by rw [e57]; exact dr) e553 (by simpa using l15) (fun n1 v1 => es_f1 ?_) (fun no => es_f0 ?_)
    · refine s_tell' h.1 g e1 (by rw [e57]; exact dr) e553 (by simpa using l15) n1 v1 (fun M7 cc fc => c_State_forgetWork ?_)
      refine k_EveryStreet_town_64 hG ⟨fun z => absurd z (by decide), fun _ => k_EveryStreet_town_74_0 hG ⟨by decide, es_b0, ?_⟩⟩
      rw [show w32 (0 + 1) = 1 from by decide]
      refine k_EveryStreet_town_64 hG ⟨fun z => absurd z (by decide), fun _ => k_EveryStreet_town_74_1 hG ⟨by decide, es_b0, ?_⟩⟩
      rw [show w32 (1 + 1) = 2 from by decide]
      refine k_EveryStreet_town_64 hG ⟨fun z => absurd z (by decide), fun _ => k_EveryStreet_town_74_2 hG ⟨by decide, es_b0, ?_⟩⟩
      rw [show w32 (2 + 1) = 3 from by decide]
      refine k_EveryStreet_town_64 hG ⟨fun _ => ⟨es_b1, ?_⟩, fun z => absurd (by decide) z⟩
      refine s_m_town h.1 (fun c hc => ?_) hR (fun z => absurd hg z) (fun _ _ z => absurd ⟨n1, v1⟩ z) (fun _ _ _ _ M2 fm hl => ⟨rfl, town_good h g n1 v1 f1 cc fc fm hl⟩)
      rw [es_upd_o c (by omega), es_upd_o c (by omega), es_upd_o c (by omega), es_upd_o c (by omega), es_upd_o c (by omega), es_upd_o c (by omega), es_upd_o c (by omega), fc c (by omega), hi c hc]
    · exact s_m_town h.1 hi hR (fun z => absurd hg z) (fun _ _ _ M2 hw hl => ⟨rfl, town_fail h g f1 hw hl⟩) (fun _ _ n1 v1 => absurd ⟨n1, v1⟩ no)
  · have ea : ansT (M 55 1) R = -1 - R.1 := if_neg hg
    rw [ea]
    refine ⟨fun z => absurd z (by omega), fun _ => ?_⟩
    exact s_m_town h.1 hi hR (fun _ M2 hw hl => ⟨rfl, town_fail h g f1 hw hl⟩) (fun a b => absurd ⟨a, b⟩ hg) (fun a b => absurd ⟨a, b⟩ hg)
end
