/-! PAIRS OF CALLS: better (3). What rests on the town alone -/
section
variable {T T' : es_M}
theorem wyN_tw (hs : stp T' = stp T) : ∀ k, wyN T' k = wyN T k := by
  intro k
  induction k with
  | zero => funext p q; show stp T' 0 p q = stp T 0 p q; rw [hs]
  | succ k ih => funext p q; rw [wyN_s, wyN_s, ih]
theorem moF_tw (tw : tow T T') (e4 : T' 14 4 = T 14 4) (e5 : T' 14 5 = T 14 5) : moF T' = moF T := by
  have hs := stp_congr' tw e4 e5
  have hw : wyF T' = wyF T := by funext p q; unfold wyF; rw [tw 1 (by decide), wyN_tw hs]
  have hl := ln_congr (tw 4 (by decide)) (tw 5 (by decide))
  have hp : poF T' = poF T := by funext k; unfold poF; rw [tw 10 (by decide)]
  have hm : ∀ o k, msN T' o k = msN T o k := by
    intro o k
    induction k with
    | zero => show ln T' (poF T' (o 0)) = ln T (poF T (o 0)); rw [hl, hp]
    | succ k ih =>
      show msN T' o k + wyF T' (poF T' (o (k : Nat))) (poF T' (o ((k + 1 : Nat) : Int))) = msN T o k + wyF T (poF T (o (k : Nat))) (poF T (o ((k + 1 : Nat) : Int)))
      rw [ih, hw, hp]
  funext o n
  unfold moF
  have hg : goes T' (poF T' (o 0)) ↔ goes T (poF T (o 0)) := by unfold goes; rw [hl, hp, e4]
  by_cases g : goes T (poF T (o 0))
  · rw [if_pos g, if_pos (hg.mpr g), hm]
  · rw [if_neg g, if_neg (fun z => g (hg.mp z))]
theorem rdF_tw (tw : tow T T') (e4 : T' 14 4 = T 14 4) (e5 : T' 14 5 = T 14 5) : rdF T' = rdF T := by
  have hm := moF_tw tw e4 e5
  have hc : cns T' = cns T := by funext n t s; unfold cns; rw [hm]
  have hd := canDo_congr (tw 4 (by decide)) (tw 5 (by decide)) (tw 10 (by decide)) (tw 13 (by decide))
  funext n o m
  unfold rdF swA tuA mvA swF tuF mvF
  simp only [hc, hd]
theorem wyF_tw (tw : tow T T') (e4 : T' 14 4 = T 14 4) (e5 : T' 14 5 = T 14 5) : wyF T' = wyF T := by
  funext p q; unfold wyF; rw [tw 1 (by decide), wyN_tw (stp_congr' tw e4 e5)]
theorem Val_tw {n : Int} {o : Int → Int} (tw : tow T T') (h : Val T n o) : Val T' n o := by
  have hd := canDo_congr (tw 4 (by decide)) (tw 5 (by decide)) (tw 10 (by decide)) (tw 13 (by decide))
  unfold Val at h ⊢
  rw [hd, tw 1 (by decide)]; exact h
end
/-- an order put in the place of the town's -/
def ordC (T : es_M) (f : Int → Int) : es_M := fun c j => if c = 17 then f j else if c = 125 then f j / 2 else if c = 126 then f j % 2 else T c j
theorem ordC_o {T : es_M} {f : Int → Int} {c : Nat} (h1 : c ≠ 17) (h2 : c ≠ 125) (h3 : c ≠ 126) : ordC T f c = T c := by
  funext j; unfold ordC; rw [if_neg h1, if_neg h2, if_neg h3]
theorem ordC_tw {T : es_M} {f : Int → Int} : tow T (ordC T f) := fun c hc => ordC_o (by omega) (by omega) (by omega)
theorem ordC_TI {T : es_M} (hT : TI T) {f : Int → Int} (h : Val T (T 14 2) f) : TI (ordC T f) := by
  refine hT.ord (fun c j q => ?_) ?_ ?_ (fun i i0 i1 => ⟨rfl, rfl⟩)
  · rw [ordC_o (by rintro rfl; cases q) (by rintro rfl; cases q) (by rintro rfl; cases q)]
  · rw [ordC_o (c := 14) (by decide) (by decide) (by decide), ordC_o (c := 91) (by decide) (by decide) (by decide)]; exact hT.on
  · rw [ordC_o (c := 14) (by decide) (by decide) (by decide)]; exact h
theorem Val_c {T : es_M} {n : Int} {o o' : Int → Int} (h : Val T n o) (e : ∀ i, 0 ≤ i → i < n → o' i = o i) : Val T n o' := by
  refine ⟨fun i i0 i1 => by rw [e i i0 i1]; exact h.1 i i0 i1, fun i j i0 i1 j0 j1 q => h.2 i j i0 i1 j0 j1 (by rw [← e i i0 i1, ← e j j0 j1]; exact q)⟩
section
variable {d : Nat} {Q : Int → es_M → Prop} {T M : es_M}
abbrev off4 (M M' : es_M) : Prop := ∀ c, c ≠ 17 → c ≠ 84 → c ≠ 85 → c ≠ 86 → M' c = M c
theorem repO {M' : es_M} (hR : RepC T M) (h : off4 M M') : RepC (ordC T (M' 17)) M' := by
  intro c j q
  by_cases e : c = 17
  · subst e; rfl
  · rw [ordC_o e (by rintro rfl; cases q) (by rintro rfl; cases q), h c e (by rintro rfl; cases q) (by rintro rfl; cases q) (by rintro rfl; cases q)]
    exact hR _ _ q
theorem bt_loop {G : Nat → es_L → List AV → es_M → Prop} (hT : TI T) (hG : es_Cl cd_Orders_betterAll st_Orders_betterAll (some .int) (d + 5) Q G) (hR : RepC T M) (hL : ∀ p q, isP T p → isP T q → M 61 (p * 36 + q) = wyF T p q) (n0 : 0 < T 14 2) : ∀ (f : Nat) (o : Int → Int) (m times : Int) (M' : es_M), Val T (T 14 2) o → off4 M M' → (∀ i, 0 ≤ i → i < T 14 2 → M' 17 i = o i) → 1 ≤ m → m ≤ f → 0 ≤ times → times + m < 1000000 → (∀ M'', off4 M M'' → (∀ i, 0 ≤ i → i < T 14 2 → M'' 17 i = (btF T (T 14 2) f o m).2 i) → Q (times + (btF T (T 14 2) f o m).1) M'') → G 24 [lr 84, li m, li (T 14 2), li times] [] M' := by
  intro f
  induction f with
  | zero => intro o m times M' _ _ _ m0 m1; omega
  | succ f ih =>
    intro o m times M' hV f1 f2 m0 m1 t0 t1 fin
    have hn := hT.on
    have V' := Val_c hV f2
    have hT' : TI (ordC T (M' 17)) := ordC_TI hT V'
    have tw : tow T (ordC T (M' 17)) := ordC_tw
    have e14 : ordC T (M' 17) 14 = T 14 := ordC_o (by decide) (by decide) (by decide)
    have er : rdF (ordC T (M' 17)) (T 14 2) (M' 17) m = rdF T (T 14 2) o m := by
      rw [rdF_tw tw (by rw [e14]) (by rw [e14])]; exact rdF_c n0 f2
    have hw := wyF_tw tw (by rw [e14]) (by rw [e14])
    have hL' : ∀ N : es_M, (∀ c, c ≠ 84 → c ≠ 85 → c ≠ 86 → N c = M' c) → ∀ p q, isP (ordC T (M' 17)) p → isP (ordC T (M' 17)) q → N 61 (p * 36 + q) = wyF (ordC T (M' 17)) p q := fun N e p q hp hq => by
      unfold isP at hp hq
      rw [tw 1 (by decide)] at hp hq
      rw [hw, e 61 (by decide) (by decide) (by decide), f1 61 (by decide) (by decide) (by decide) (by decide)]; exact hL p q hp hq
    have hR' : ∀ N : es_M, off3 M' N → RepC (ordC T (M' 17)) N := fun N e => rep3 (repO hR f1) e
    have W := rdF_W hT n0 hV m
    apply k_Orders_betterAll_24 hG
    refine ⟨fun z => absurd z (by omega), fun _ => ?_⟩
    have n0' : 0 < ordC T (M' 17) 14 2 := by rw [e14]; exact n0
    have o0 : off3 M' (es_upd M' 84 6 m) := fun c c1 _ _ => es_upd_o c c1
    have s1 := s_trySwaps (d := d) (Q := fun _ M1 => es_Call (d + 5) 156 [.inr (.inr 84), .inl (T 14 2)] M1 (fun _ M2 => es_Call (d + 5) 157 [.inr (.inr 84), .inl (T 14 2)] M2 (fun _ M3 => (((M3 84 6) < m → ((0 ≤ (0 : Int) ∧ 0 ≤ (0 : Int) ∧ 0 ≤ T 14 2 ∧ 0 + T 14 2 ≤ 10 ∧ 0 + T 14 2 ≤ 10) ∧ G 24 [lr 84, li (M3 84 6), li (T 14 2), li (w32 (times + 1))] [] (es_cpy M3 86 0 17 0 (T 14 2)))) ∧ (¬ (M3 84 6) < m → Q times M3))))) hT' (hR' _ o0) (hL' _ o0) (b := m) (s := (m, fun _ => 0)) n0' ⟨es_upd_s, Int.le_refl _, fun z => absurd (show m < m from z) (Int.lt_irrefl _)⟩
    rw [e14] at s1
    refine s1 (fun M1 a1 a2 => ?_)
    have o1 : off3 M' M1 := fun c c1 c2 c3 => by rw [a1 c c1 c2 c3]; exact o0 c c1 c2 c3
    have s2 := s_tryTurnings (d := d) (Q := fun _ M2 => es_Call (d + 5) 157 [.inr (.inr 84), .inl (T 14 2)] M2 (fun _ M3 => (((M3 84 6) < m → ((0 ≤ (0 : Int) ∧ 0 ≤ (0 : Int) ∧ 0 ≤ T 14 2 ∧ 0 + T 14 2 ≤ 10 ∧ 0 + T 14 2 ≤ 10) ∧ G 24 [lr 84, li (M3 84 6), li (T 14 2), li (w32 (times + 1))] [] (es_cpy M3 86 0 17 0 (T 14 2)))) ∧ (¬ (M3 84 6) < m → Q times M3)))) hT' (hR' _ o1) (hL' _ o1) (b := m) (s := swA (ordC T (M' 17)) (T 14 2) (M' 17) (m, fun _ => 0)) n0' (by rw [e14]; exact a2)
    rw [e14] at s2
    refine s2 (fun M2 b1 b2 => ?_)
    have o2 : off3 M' M2 := fun c c1 c2 c3 => by rw [b1 c c1 c2 c3]; exact o1 c c1 c2 c3
    have s3 := s_tryMoves (d := d) (Q := fun _ M3 => (((M3 84 6) < m → ((0 ≤ (0 : Int) ∧ 0 ≤ (0 : Int) ∧ 0 ≤ T 14 2 ∧ 0 + T 14 2 ≤ 10 ∧ 0 + T 14 2 ≤ 10) ∧ G 24 [lr 84, li (M3 84 6), li (T 14 2), li (w32 (times + 1))] [] (es_cpy M3 86 0 17 0 (T 14 2)))) ∧ (¬ (M3 84 6) < m → Q times M3))) hT' (hR' _ o2) (hL' _ o2) (b := m) (s := tuA (ordC T (M' 17)) (T 14 2) (M' 17) (swA (ordC T (M' 17)) (T 14 2) (M' 17) (m, fun _ => 0))) n0' (by rw [e14]; exact b2)
    rw [e14] at s3
    refine s3 (fun M3 c1 c2 => ?_)
    have o3 : off3 M' M3 := fun c x1 x2 x3 => by rw [c1 c x1 x2 x3]; exact o2 c x1 x2 x3
    have R3 : RC m (T 14 2) (rdF (ordC T (M' 17)) (T 14 2) (M' 17) m) M3 := c2
    rw [er] at R3
    rw [R3.1]
    refine ⟨fun z => ⟨by omega, ?_⟩, fun z => ?_⟩
    · have W2 := W.2 z
      rw [w32_1 (by omega) (by omega)]
      refine ih (rdF T (T 14 2) o m).2 (rdF T (T 14 2) o m).1 (times + 1) _ W2.1 (fun c x1 x2 x3 x4 => by rw [es_cpy_o c x1, o3 c x2 x3 x4]; exact f1 c x1 x2 x3 x4) (fun i i0 i1 => ?_) W2.2 (by omega) (by omega) (by omega) (fun M4 y1 y2 => ?_)
      · unfold es_cpy
        rw [if_pos ⟨rfl, by omega, by omega⟩, show 0 + (i - 0) = i by omega]
        exact R3.2.2 z i i0 i1
      · have eb : btF T (T 14 2) (f + 1) o m = ((btF T (T 14 2) f (rdF T (T 14 2) o m).2 (rdF T (T 14 2) o m).1).1 + 1, (btF T (T 14 2) f (rdF T (T 14 2) o m).2 (rdF T (T 14 2) o m).1).2) := if_pos z
        have := fin M4 y1 (by rw [eb]; exact y2)
        rw [eb] at this
        rw [show times + (((btF T (T 14 2) f (rdF T (T 14 2) o m).2 (rdF T (T 14 2) o m).1).1 + 1 : Nat) : Int) = times + 1 + ((btF T (T 14 2) f (rdF T (T 14 2) o m).2 (rdF T (T 14 2) o m).1).1 : Int) by omega] at this
        exact this
    · have eb : btF T (T 14 2) (f + 1) o m = (0, o) := if_neg z
      have := fin M3 (fun c x1 x2 x3 x4 => by rw [o3 c x2 x3 x4]; exact f1 c x1 x2 x3 x4) (fun i i0 i1 => by rw [eb, o3 17 (by decide) (by decide) (by decide)]; exact f2 i i0 i1)
      rw [eb] at this
      rw [show times + (((0 : Nat), o).1 : Int) = times by show times + ((0 : Nat) : Int) = times; omega] at this
      exact this
theorem s_betterAll (hT : TI T) (hR : RepC T M) (hC : CacheOK T M) (n0 : 0 < T 14 2)
    (hno : ∀ M' : es_M, ¬ moF T (T 17) (T 14 2) < 1000000 → (∀ c, c ≠ 60 → c ≠ 61 → c ≠ 62 → c ≠ 63 → M' c = M c) → M' 60 5 = 0 → (∀ p q, isP T p → isP T q → M' 61 (p * 36 + q) = wyF T p q) → nextsOK T M' → Q (-2) M')
    (hyes : ∀ M' : es_M, moF T (T 17) (T 14 2) < 1000000 → (∀ c, c ≠ 60 → c ≠ 61 → c ≠ 62 → c ≠ 63 → c ≠ 17 → c ≠ 84 → c ≠ 85 → c ≠ 86 → M' c = M c) → (∀ i, 0 ≤ i → i < T 14 2 → M' 17 i = (btF T (T 14 2) 1000000 (T 17) (moF T (T 17) (T 14 2))).2 i) → M' 60 5 = 0 → (∀ p q, isP T p → isP T q → M' 61 (p * 36 + q) = wyF T p q) → nextsOK T M' → Q (btF T (T 14 2) 1000000 (T 17) (moF T (T 17) (T 14 2))).1 M') : es_Call (d + 7) 154 [.inr (.inr 84)] M Q := by
  apply m_Orders_betterAll
  intro G hG
  apply k_Orders_betterAll_0 hG
  have hn := hT.on
  have hV := hT.val
  have mr := moF_r hT hV.cd n0
  refine c_Orders_minutesNow (s_refresh hT hR hC (fun M1 f1 f2 f3 f4 f5 => ?_))
  have hR1 : RepC T M1 := by
    intro c j q
    rw [f1 c (by rintro rfl; cases q) (by rintro rfl; cases q) (by rintro rfl; cases q) (by rintro rfl; cases q)]
    exact hR _ _ q
  rw [hR1 14 2 rfl]
  refine s_minutesOf_17 hT hR1 f4 n0 hn.2.1 hV.cd (fun i _ _ => hR1 17 i rfl) ?_
  rw [hR1 14 2 rfl]
  refine ⟨fun z => ?_, fun z => hno M1 z f1 f3 f4 f5⟩
  refine bt_loop hT hG hR1 f4 n0 1000000 (T 17) _ 0 M1 hV (fun _ _ _ _ _ => rfl) (fun i _ _ => hR1 17 i rfl) mr.1 (by omega) (by omega) (by omega) (fun M2 g1 g2 => ?_)
  rw [Int.zero_add]
  refine hyes M2 z (fun c c1 c2 c3 c4 c5 c6 c7 c8 => by rw [g1 c c5 c6 c7 c8]; exact f1 c c1 c2 c3 c4) g2 (by rw [g1 60 (by decide) (by decide) (by decide) (by decide)]; exact f3) (fun p q hp hq => by rw [g1 61 (by decide) (by decide) (by decide) (by decide)]; exact f4 p q hp hq) (fun p hp => ?_)
  rw [g1 62 (by decide) (by decide) (by decide) (by decide), g1 63 (by decide) (by decide) (by decide) (by decide)]
  exact f5 p hp
end
