/-! THE TOWN'S TEXT (7): the class puts streets, asks what fits, tells the town -/
section
variable {d : Nat} {M V : es_M} {Q : Int → es_M → Prop}
theorem CC_pS {M' : es_M} {k a b f r kd w : Int} (g1 : ∀ j, M' 1 j = if j = 0 then V 1 0 + 1 else if j = 1 then V 1 1 + kd else if j = 3 then (if kd = 1 then od1 (V 1 3) a b else if kd = 2 then od1 (od1 (V 1 3) a b) a b else V 1 3) else V 1 j)
    (g2 : ∀ j, M' 2 j = if j = V 1 0 then a else V 2 j) (g3 : ∀ j, M' 3 j = if j = V 1 0 then b else V 3 j) (g4 : ∀ j, M' 4 j = if j = V 1 0 then f else V 4 j) (g5 : ∀ j, M' 5 j = if j = V 1 0 then r else V 5 j) (g6 : ∀ j, M' 6 j = if j = V 1 0 then kd else V 6 j) (g7 : ∀ j, M' 7 j = if j = V 1 0 then w else V 7 j)
    (g8 : ∀ j, M' 8 j = if j = b * 12 + a ∨ j = a * 12 + b then V 1 0 else V 8 j) (g9 : M' 9 = V 9) (g10 : ∀ j, M' 10 j = if V 1 1 ≤ j ∧ j < V 1 1 + kd then V 1 0 else V 10 j) (g11 : ∀ j, M' 11 j = if V 1 1 ≤ j ∧ j < V 1 1 + kd then (if kd = 1 then 0 else j - V 1 1 + 1) else V 11 j) (g12 : M' 12 = V 12)
    (g13 : ∀ j, M' 13 j = if j = 2 * V 1 0 ∧ kd ≠ 0 then V 1 1 else if j = 2 * V 1 0 + 1 ∧ kd = 1 then V 1 1 else if j = 2 * V 1 0 + 1 ∧ kd = 2 then V 1 1 + 1 else V 13 j) : CC (pS V (k, a, b, f, r, kd, w)) M' := by
  intro c h1 h2
  rcases (show c = 1 ∨ c = 2 ∨ c = 3 ∨ c = 4 ∨ c = 5 ∨ c = 6 ∨ c = 7 ∨ c = 8 ∨ c = 9 ∨ c = 10 ∨ c = 11 ∨ c = 12 ∨ c = 13 by omega) with rfl | rfl | rfl | rfl | rfl | rfl | rfl | rfl | rfl | rfl | rfl | rfl | rfl
  · exact funext g1
  · exact funext g2
  · exact funext g3
  · exact funext g4
  · exact funext g5
  · exact funext g6
  · exact funext g7
  · exact funext g8
  · rw [g9, pS_o (by decide)]
  · exact funext g10
  · exact funext g11
  · rw [g12, pS_o (by decide)]
  · exact funext g13
theorem s_putStreet (hC : CC V M) {k a b f r kd w : Int} (ha : 0 ≤ a ∧ a < 12) (hb : 0 ≤ b ∧ b < 12) (hk : 0 ≤ kd ∧ kd ≤ 2) (n0 : 0 ≤ V 1 0) (n1 : V 1 0 < 18) (v0 : 0 ≤ V 1 1) (v1 : V 1 1 + kd ≤ 10) (q : ∀ M', CC (pS V (k, a, b, f, r, kd, w)) M' → FC M M' → Q 0 M') : es_Call (d + 2) 51 [.inr (.inr 1), .inl a, .inl b, .inl f, .inl r, .inl kd, .inl w] M Q := by
  apply c_Town_putStreet
  have e1 : M 1 = V 1 := hC 1 (by decide) (by decide)
  rw [e1, w32_s (k := a * 12) (by omega) (by omega), w32_s (k := b * 12) (by omega) (by omega), w32_s (k := a * 12 + b) (by omega) (by omega), w32_s (k := b * 12 + a) (by omega) (by omega), w32_1 (k := V 1 0) (by omega) (by omega)]
  have hn : 0 ≤ V 1 0 ∧ V 1 0 < 18 := ⟨n0, n1⟩
  generalize hN : es_upd (es_upd (es_upd (es_upd (es_upd (es_upd (es_upd (es_upd (es_upd M 1 0 (V 1 0 + 1)) 2 (V 1 0) a) 3 (V 1 0) b) 4 (V 1 0) f) 5 (V 1 0) r) 6 (V 1 0) kd) 7 (V 1 0) w) 8 (a * 12 + b) (V 1 0)) 8 (b * 12 + a) (V 1 0) = N
  have f1 : ∀ j, N 1 j = if j = 0 then V 1 0 + 1 else V 1 j := fun j => by rw [← hN, es_upd_n (by decide), es_upd_n (by decide), es_upd_n (by decide), es_upd_n (by decide), es_upd_n (by decide), es_upd_n (by decide), es_upd_n (by decide), es_upd_n (by decide), es_upd_c, e1]
  have f2 : ∀ j, N 2 j = if j = V 1 0 then a else V 2 j := fun j => by rw [← hN, es_upd_n (by decide), es_upd_n (by decide), es_upd_n (by decide), es_upd_n (by decide), es_upd_n (by decide), es_upd_n (by decide), es_upd_n (by decide), es_upd_c, es_upd_n (by decide), hC 2 (by decide) (by decide)]
  have f3 : ∀ j, N 3 j = if j = V 1 0 then b else V 3 j := fun j => by rw [← hN, es_upd_n (by decide), es_upd_n (by decide), es_upd_n (by decide), es_upd_n (by decide), es_upd_n (by decide), es_upd_n (by decide), es_upd_c, es_upd_n (by decide), es_upd_n (by decide), hC 3 (by decide) (by decide)]
  have f4 : ∀ j, N 4 j = if j = V 1 0 then f else V 4 j := fun j => by rw [← hN, es_upd_n (by decide), es_upd_n (by decide), es_upd_n (by decide), es_upd_n (by decide), es_upd_n (by decide), es_upd_c, es_upd_n (by decide), es_upd_n (by decide), es_upd_n (by decide), hC 4 (by decide) (by decide)]
  have f5 : ∀ j, N 5 j = if j = V 1 0 then r else V 5 j := fun j => by rw [← hN, es_upd_n (by decide), es_upd_n (by decide), es_upd_n (by decide), es_upd_n (by decide), es_upd_c, es_upd_n (by decide), es_upd_n (by decide), es_upd_n (by decide), es_upd_n (by decide), hC 5 (by decide) (by decide)]
  have f6 : ∀ j, N 6 j = if j = V 1 0 then kd else V 6 j := fun j => by rw [← hN, es_upd_n (by decide), es_upd_n (by decide), es_upd_n (by decide), es_upd_c, es_upd_n (by decide), es_upd_n (by decide), es_upd_n (by decide), es_upd_n (by decide), es_upd_n (by decide), hC 6 (by decide) (by decide)]
  have f7 : ∀ j, N 7 j = if j = V 1 0 then w else V 7 j := fun j => by rw [← hN, es_upd_n (by decide), es_upd_n (by decide), es_upd_c, es_upd_n (by decide), es_upd_n (by decide), es_upd_n (by decide), es_upd_n (by decide), es_upd_n (by decide), es_upd_n (by decide), hC 7 (by decide) (by decide)]
  have f8 : ∀ j, N 8 j = if j = b * 12 + a ∨ j = a * 12 + b then V 1 0 else V 8 j := fun j => by
    rw [← hN, es_upd_c, es_upd_c, es_upd_n (by decide), es_upd_n (by decide), es_upd_n (by decide), es_upd_n (by decide), es_upd_n (by decide), es_upd_n (by decide), es_upd_n (by decide), hC 8 (by decide) (by decide)]
    by_cases z1 : j = b * 12 + a
    · rw [if_pos z1, if_pos (Or.inl z1)]
    · by_cases z2 : j = a * 12 + b
      · rw [if_neg z1, if_pos z2, if_pos (Or.inr z2)]
      · rw [if_neg z1, if_neg z2, if_neg (fun y => y.elim z1 z2)]
  have fo : ∀ c : Nat, (c = 0 ∨ 9 ≤ c) → N c = M c := fun c hc => by rw [← hN, es_upd_o c (by omega), es_upd_o c (by omega), es_upd_o c (by omega), es_upd_o c (by omega), es_upd_o c (by omega), es_upd_o c (by omega), es_upd_o c (by omega), es_upd_o c (by omega), es_upd_o c (by omega)]
  have f9 : N 9 = V 9 := (fo 9 (by decide)).trans (hC 9 (by decide) (by decide))
  have f10 : N 10 = V 10 := (fo 10 (by decide)).trans (hC 10 (by decide) (by decide))
  have f11 : N 11 = V 11 := (fo 11 (by decide)).trans (hC 11 (by decide) (by decide))
  have f12 : N 12 = V 12 := (fo 12 (by decide)).trans (hC 12 (by decide) (by decide))
  have f13 : N 13 = V 13 := (fo 13 (by decide)).trans (hC 13 (by decide) (by decide))
  clear hN
  refine ⟨fun _ => ⟨hn, hn, hn, hn, hn, hn, by omega, by omega, fun z1 => ⟨fun z2 => ?_, fun z2 => ?_⟩, fun z1 => ?_⟩, fun z => absurd n1 z⟩
  · have z0 : kd = 0 := by omega
    subst z0
    refine q N (CC_pS ?_ f2 f3 f4 f5 f6 f7 f8 f9 ?_ ?_ f12 ?_) (fun c hc => fo c (by omega))
    · intro j
      rw [f1]
      by_cases j0 : j = 0
      · rw [if_pos j0, if_pos j0]
      · rw [if_neg j0, if_neg j0]
        by_cases j1 : j = 1
        · rw [if_pos j1, j1]; omega
        · rw [if_neg j1]
          by_cases j3 : j = 3
          · rw [if_pos j3, if_neg (by decide), if_neg (by decide), j3]
          · rw [if_neg j3]
    · intro j; rw [f10, if_neg (by omega)]
    · intro j; rw [f11, if_neg (by omega)]
    · intro j; rw [f13, if_neg (by omega), if_neg (by omega), if_neg (by omega)]
  · subst z2
    have n1' : N 1 1 = V 1 1 := by rw [f1, if_neg (by decide)]
    refine s_putService n0 n1 (by decide) (by omega) (by omega) (fun N1 p0 p1 p3 pj p10 p11 p13 => ?_)
    have m0 : N1 1 0 = V 1 0 + 1 := by rw [pj 0 (by decide) (by decide), f1, if_pos rfl]
    have m1 : N1 1 1 = V 1 1 + 1 := by rw [p1, n1']
    have c0 : ∀ c : Nat, c ≠ 1 → c ≠ 10 → c ≠ 11 → c ≠ 13 → N1 c = N c := fun c a b e f => funext fun j => p0 c j a b e f
    have m2 : N1 2 (V 1 0) = a := by rw [c0 2 (by decide) (by decide) (by decide) (by decide), f2, if_pos rfl]
    have m3 : N1 3 (V 1 0) = b := by rw [c0 3 (by decide) (by decide) (by decide) (by decide), f3, if_pos rfl]
    have x2 : N 2 (V 1 0) = a := by rw [f2, if_pos rfl]
    have x3 : N 3 (V 1 0) = b := by rw [f3, if_pos rfl]
    have m13 : N1 1 3 = od1 (V 1 3) a b := by rw [p3, x2, x3, f1, if_neg (by decide)]
    refine s_putService n0 n1 (by decide) (by omega) (by omega) (fun N2 r0 r1 r3 rj r10 r11 r13 => ?_)
    have c1 : ∀ c : Nat, c ≠ 1 → c ≠ 10 → c ≠ 11 → c ≠ 13 → N2 c = N c := fun c a b e f => (funext fun j => r0 c j a b e f : N2 c = N1 c).trans (c0 c a b e f)
    refine q N2 (CC_pS ?_ (fun j => by rw [c1 2 (by decide) (by decide) (by decide) (by decide)]; exact f2 j) (fun j => by rw [c1 3 (by decide) (by decide) (by decide) (by decide)]; exact f3 j) (fun j => by rw [c1 4 (by decide) (by decide) (by decide) (by decide)]; exact f4 j) (fun j => by rw [c1 5 (by decide) (by decide) (by decide) (by decide)]; exact f5 j) (fun j => by rw [c1 6 (by decide) (by decide) (by decide) (by decide)]; exact f6 j) (fun j => by rw [c1 7 (by decide) (by decide) (by decide) (by decide)]; exact f7 j) (fun j => by rw [c1 8 (by decide) (by decide) (by decide) (by decide)]; exact f8 j) ((c1 9 (by decide) (by decide) (by decide) (by decide)).trans f9) ?_ ?_ ((c1 12 (by decide) (by decide) (by decide) (by decide)).trans f12) ?_) (fun c hc => (c1 c (by omega) (by omega) (by omega) (by omega)).trans (fo c (by omega)))
    · intro j
      by_cases j0 : j = 0
      · rw [if_pos j0, j0, rj 0 (by decide) (by decide), m0]
      · rw [if_neg j0]
        by_cases j1 : j = 1
        · rw [if_pos j1, j1, r1, m1]; omega
        · rw [if_neg j1]
          by_cases j3 : j = 3
          · rw [if_pos j3, if_neg (by decide), if_pos rfl, j3, r3, m13, m2, m3]
          · rw [if_neg j3, rj j j1 j3, pj j j1 j3, f1, if_neg j0]
    · intro j
      rw [r10, p10, f10, m1, n1']
      by_cases j1 : j = V 1 1 + 1
      · rw [if_pos j1, if_pos (by omega)]
      · rw [if_neg j1]
        by_cases j2 : j = V 1 1
        · rw [if_pos j2, if_pos (by omega)]
        · rw [if_neg j2, if_neg (by omega)]
    · intro j
      rw [r11, p11, f11, m1, n1']
      by_cases j1 : j = V 1 1 + 1
      · rw [if_pos j1, if_pos (by omega), if_neg (by decide)]; omega
      · rw [if_neg j1]
        by_cases j2 : j = V 1 1
        · rw [if_pos j2, if_pos (by omega), if_neg (by decide)]; omega
        · rw [if_neg j2, if_neg (by omega)]
    · intro j
      rw [r13, p13, f13, m1, n1']
      by_cases j1 : j = 2 * V 1 0
      · rw [if_neg (by omega), if_neg (by omega), if_pos (by omega), if_pos (by omega)]
      · rw [if_neg (by omega)]
        by_cases j2 : j = 2 * V 1 0 + 1
        · rw [if_pos (by omega), if_neg (by omega), if_neg (by omega), if_pos (by omega)]
        · rw [if_neg (by omega), if_neg (by omega), if_neg (by omega), if_neg (by omega), if_neg (by omega), if_neg (by omega)]
  · subst z1
    have n1' : N 1 1 = V 1 1 := by rw [f1, if_neg (by decide)]
    refine s_putService n0 n1 (by decide) (by omega) (by omega) (fun N1 p0 p1 p3 pj p10 p11 p13 => ?_)
    have c0 : ∀ c : Nat, c ≠ 1 → c ≠ 10 → c ≠ 11 → c ≠ 13 → N1 c = N c := fun c a b e f => funext fun j => p0 c j a b e f
    have x2 : N 2 (V 1 0) = a := by rw [f2, if_pos rfl]
    have x3 : N 3 (V 1 0) = b := by rw [f3, if_pos rfl]
    refine q N1 (CC_pS ?_ (fun j => by rw [c0 2 (by decide) (by decide) (by decide) (by decide)]; exact f2 j) (fun j => by rw [c0 3 (by decide) (by decide) (by decide) (by decide)]; exact f3 j) (fun j => by rw [c0 4 (by decide) (by decide) (by decide) (by decide)]; exact f4 j) (fun j => by rw [c0 5 (by decide) (by decide) (by decide) (by decide)]; exact f5 j) (fun j => by rw [c0 6 (by decide) (by decide) (by decide) (by decide)]; exact f6 j) (fun j => by rw [c0 7 (by decide) (by decide) (by decide) (by decide)]; exact f7 j) (fun j => by rw [c0 8 (by decide) (by decide) (by decide) (by decide)]; exact f8 j) ((c0 9 (by decide) (by decide) (by decide) (by decide)).trans f9) ?_ ?_ ((c0 12 (by decide) (by decide) (by decide) (by decide)).trans f12) ?_) (fun c hc => (c0 c (by omega) (by omega) (by omega) (by omega)).trans (fo c (by omega)))
    · intro j
      by_cases j0 : j = 0
      · rw [if_pos j0, j0, pj 0 (by decide) (by decide), f1, if_pos rfl]
      · rw [if_neg j0]
        by_cases j1 : j = 1
        · rw [if_pos j1, j1, p1, n1']
        · rw [if_neg j1]
          by_cases j3 : j = 3
          · rw [if_pos j3, if_pos rfl, j3, p3, x2, x3, f1, if_neg (by decide)]
          · rw [if_neg j3, pj j j1 j3, f1, if_neg j0]
    · intro j
      rw [p10, f10, n1']
      by_cases j2 : j = V 1 1
      · rw [if_pos j2, if_pos (by omega)]
      · rw [if_neg j2, if_neg (by omega)]
    · intro j
      rw [p11, f11, n1']
      by_cases j2 : j = V 1 1
      · rw [if_pos j2, if_pos (by omega), if_pos rfl]
      · rw [if_neg j2, if_neg (by omega)]
    · intro j
      rw [p13, f13, n1']
      by_cases j1 : j = 2 * V 1 0
      · rw [if_pos (by omega), if_pos (by omega)]
      · by_cases j2 : j = 2 * V 1 0 + 1
        · rw [if_neg (by omega), if_pos (by omega), if_neg (by omega), if_pos (by omega)]
        · rw [if_neg (by omega), if_neg (by omega), if_neg (by omega), if_neg (by omega), if_neg (by omega)]
end
