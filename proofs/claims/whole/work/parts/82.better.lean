/-! PAIRS OF CALLS: better (2). The class -/
section
variable {d : Nat} {Q : Int → es_M → Prop} {T M : es_M}
abbrev off3 (M M' : es_M) : Prop := ∀ c, c ≠ 84 → c ≠ 85 → c ≠ 86 → M' c = M c
theorem rep3 {M' : es_M} (hR : RepC T M) (h : off3 M M') : RepC T M' := repB hR (fun c c1 c2 c3 _ => h c c1 c2 c3)
/-- a trial stands in the class's memory: it is held against the least -/
theorem s_cons (hT : TI T) (hR : RepC T M) (hL : ∀ p q, isP T p → isP T q → M 61 (p * 36 + q) = wyF T p q) {M0 : es_M} {t : Int → Int} {b : Int} {s : SS} (n0 : 0 < T 14 2) (ht : Val T (T 14 2) t) (e0 : off3 M0 M) (hM : ∀ i, 0 ≤ i → i < T 14 2 → M 85 i = t i) (hr : RC b (T 14 2) s M) (h : ∀ M', off3 M0 M' → RC b (T 14 2) (cns T (T 14 2) t s) M' → Q 0 M') : es_Call (d + 4) 153 [.inr (.inr 84), .inl (T 14 2)] M Q :=
  s_consider hT hR hL n0 (by have := hT.on; omega) ht.cd hM hr (fun M' g1 _ g3 => h M' (fun c c1 c2 c3 => by rw [g1 c c1 c3]; exact e0 c c1 c2 c3) g3)
theorem RC.off {b n : Int} {s : SS} {M' : es_M} (h : RC b n s M) (e1 : M' 84 = M 84) (e2 : M' 86 = M 86) : RC b n s M' := by unfold RC at h ⊢; rw [e1, e2]; exact h
theorem s_trySwaps (hT : TI T) (hR : RepC T M) (hL : ∀ p q, isP T p → isP T q → M 61 (p * 36 + q) = wyF T p q) {b : Int} {s : SS} (n0 : 0 < T 14 2) (hr : RC b (T 14 2) s M) (h : ∀ M', off3 M M' → RC b (T 14 2) (swA T (T 14 2) (T 17) s) M' → Q 0 M') : es_Call (d + 5) 155 [.inr (.inr 84), .inl (T 14 2)] M Q := by
  apply m_Orders_trySwaps
  intro G hG
  apply k_Orders_trySwaps_0 hG
  have hn := hT.on
  have hV := hT.val
  refine es_up (P := fun i => ∀ M', off3 M M' → RC b (T 14 2) (itJ (fun i => itJ (swF T (T 14 2) (T 17) i) (T 14 2).toNat) i.toNat s) M' → G 2 [lr 84, li (T 14 2), li i, none] [] M') (n := T 14 2) (by omega) ?_ ?_ M (fun _ _ _ _ => rfl) hr
  · intro M' f1 f2
    apply k_Orders_trySwaps_2 hG
    exact ⟨fun _ => h M' f1 f2, fun z => absurd (Int.le_refl _) z⟩
  · intro i i0 i1 ih M' f1 f2
    apply k_Orders_trySwaps_2 hG
    rw [w32_1 (by omega) (by omega)]
    refine ⟨fun z => absurd z (by omega), fun _ => ?_⟩
    rw [itJ_s _ i0] at ih
    refine es_upl (P := fun j => ∀ M', off3 M M' → RC b (T 14 2) (itJ (swF T (T 14 2) (T 17) i.toNat) j.toNat (itJ (fun i => itJ (swF T (T 14 2) (T 17) i) (T 14 2).toNat) i.toNat s)) M' → G 11 [lr 84, li (T 14 2), li i, li j] [] M') (lo := i + 1) (n := T 14 2) (by omega) ?_ ?_ M' f1 ?_
    · intro M' f1 f2
      apply k_Orders_trySwaps_11 hG
      rw [w32_1 (k := i) (by omega) (by omega)]
      exact ⟨fun _ => ih M' f1 f2, fun z => absurd (Int.le_refl _) z⟩
    · intro j j0 j1 ih2 M' f1 f2
      apply k_Orders_trySwaps_11 hG
      have hR' := rep3 hR f1
      rw [w32_1 (k := j) (by omega) (by omega), es_upd_n (c := 85) (c' := 17) (by decide), es_cpy_o 17 (by decide), hR' 17 _ rfl, hR' 17 _ rfl]
      refine ⟨fun z => absurd z (by omega), fun _ => ⟨by omega, by omega, by omega, by omega, by omega, ?_⟩⟩
      have fr : ∀ c, c ≠ 85 → es_upd (es_upd (es_cpy M' 17 0 85 0 (T 14 2)) 85 i (T 17 j)) 85 j (T 17 i) c = M' c := fun c hc => by rw [es_upd_o c hc, es_upd_o c hc, es_cpy_o c hc]
      refine s_cons (M0 := M) (t := swp (T 17) i j) hT (rep3 hR' (fun c _ c2 _ => fr c c2)) (fun p q hp hq => by rw [fr 61 (by decide), f1 61 (by decide) (by decide) (by decide)]; exact hL p q hp hq) n0 (swp_V hV i0 i1 (by omega) j1) (fun c c1 c2 c3 => by rw [fr c c2]; exact f1 c c1 c2 c3) (fun k k0 k1 => ?_) (f2.off (fr 84 (by decide)) (fr 86 (by decide))) (fun M2 g1 g2 => ih2 M2 g1 ?_)
      · unfold swp
        rw [es_upd_c, es_upd_c]
        by_cases e : k = j
        · rw [if_pos e, if_pos e]
        · rw [if_neg e, if_neg e]
          by_cases e2 : k = i
          · rw [if_pos e2, if_pos e2]
          · rw [if_neg e2, if_neg e2]
            unfold es_cpy
            rw [if_pos ⟨rfl, by omega, by omega⟩, show 0 + (k - 0) = k by omega, hR' 17 _ rfl]
      · rw [itJ_s _ (by omega)]
        rw [swF_y i0 (by omega)]
        exact g2
    · rw [itJ_id _ (fun k hk s => by unfold swF; rw [if_neg (by omega)])]
      exact f2
theorem s_tryTurnings (hT : TI T) (hR : RepC T M) (hL : ∀ p q, isP T p → isP T q → M 61 (p * 36 + q) = wyF T p q) {b : Int} {s : SS} (n0 : 0 < T 14 2) (hr : RC b (T 14 2) s M) (h : ∀ M', off3 M M' → RC b (T 14 2) (tuA T (T 14 2) (T 17) s) M' → Q 0 M') : es_Call (d + 5) 156 [.inr (.inr 84), .inl (T 14 2)] M Q := by
  apply m_Orders_tryTurnings
  intro G hG
  apply k_Orders_tryTurnings_0 hG
  have hn := hT.on
  have hv := hT.v
  have hV := hT.val
  refine es_up (P := fun i => ∀ M', off3 M M' → RC b (T 14 2) (itJ (fun i => itJ (tuF T (T 14 2) (T 17) i) (T 14 2).toNat) i.toNat s) M' → G 2 [lr 84, li (T 14 2), li i, none, none] [] M') (n := T 14 2) (by omega) ?_ ?_ M (fun _ _ _ _ => rfl) hr
  · intro M' f1 f2
    apply k_Orders_tryTurnings_2 hG
    exact ⟨fun _ => h M' f1 f2, fun z => absurd (Int.le_refl _) z⟩
  · intro i i0 i1 ih M' f1 f2
    apply k_Orders_tryTurnings_2 hG
    refine ⟨fun z => absurd z (by omega), fun _ => ?_⟩
    rw [itJ_s _ i0] at ih
    refine es_upl (P := fun j => ∀ M', off3 M M' → (∀ k, i ≤ k → k < j → canDo T (flp (T 17 k))) → RC b (T 14 2) (itJ (tuF T (T 14 2) (T 17) i.toNat) j.toNat (itJ (fun i => itJ (tuF T (T 14 2) (T 17) i) (T 14 2).toNat) i.toNat s)) M' → G 9 [lr 84, li (T 14 2), li i, li j, none] [] M') (lo := i) (n := T 14 2) (by omega) ?_ ?_ M' f1 (fun k k0 k1 => absurd k1 (by omega)) ?_
    · intro M' f1 _ f2
      apply k_Orders_tryTurnings_9 hG
      rw [w32_1 (k := i) (by omega) (by omega)]
      exact ⟨fun _ => ih M' f1 f2, fun z => absurd (Int.le_refl _) z⟩
    · intro j j0 j1 ih2 M' f1 al f2
      apply k_Orders_tryTurnings_9 hG
      have hR' := rep3 hR f1
      have cj := (hV.1 j (by omega) j1).1
      have fj : 0 ≤ flp (T 17 j) ∧ flp (T 17 j) < 2 * T 1 1 := by unfold flp; split <;> omega
      rw [w32_1 (k := i) (by omega) (by omega), hR' 17 _ rfl, es_xor1 cj.1 (by omega)]
      refine ⟨fun z => absurd z (by omega), fun _ => ⟨by omega, s_canDo hT hR' fj.1 fj.2 (fun hc => es_t1 ⟨by omega, ?_⟩) (fun hc => es_t0 (ih M' f1 ?_))⟩⟩
      · have al2 : ∀ k, i ≤ k → k ≤ j → canDo T (flp (T 17 k)) := fun k k0 k1 => by
          by_cases e : k = j
          · rw [e]; exact hc
          · exact al k k0 (by omega)
        refine es_upl (P := fun k => ∀ M2, (∀ c, c ≠ 85 → M2 c = M' c) → (∀ x, 0 ≤ x → x < T 14 2 → M2 85 x = if i ≤ x ∧ x < k then flp (T 17 (i + j - x)) else T 17 x) → G 55 [lr 84, li (T 14 2), li i, li j, li k] [] M2) (lo := i) (n := j + 1) (by omega) ?_ ?_ _ (fun c hc => es_cpy_o c hc) (fun x x0 x1 => ?_)
        · intro M2 g1 g2
          apply k_Orders_tryTurnings_55 hG
          rw [w32_1 (k := j) (by omega) (by omega)]
          refine ⟨fun _ => ?_, fun z => absurd (by omega) z⟩
          refine s_cons (M0 := M) (t := trn (T 17) i j) hT (rep3 hR' (fun c _ c2 _ => g1 c c2)) (fun p q hp hq => by rw [g1 61 (by decide), f1 61 (by decide) (by decide) (by decide)]; exact hL p q hp hq) n0 (trn_V hV i0 j1 al2) (fun c c1 c2 c3 => by rw [g1 c c2]; exact f1 c c1 c2 c3) (fun k k0 k1 => ?_) (f2.off (g1 84 (by decide)) (g1 86 (by decide))) (fun M3 e1 e2 => ih2 M3 e1 (fun k k0 k1 => al2 k k0 (by omega)) ?_)
          · rw [g2 k k0 k1]
            unfold trn
            by_cases e : i ≤ k ∧ k ≤ j
            · rw [if_pos e, if_pos (by omega)]
            · rw [if_neg e, if_neg (by omega)]
          · rw [itJ_s _ (by omega)]
            rw [tuF_y i0 (by omega) al2]
            exact e2
        · intro k k0 k1 ih3 M2 g1 g2
          apply k_Orders_tryTurnings_55 hG
          have cx := (hV.1 (i + j - k) (by omega) (by omega)).1
          rw [w32_1 (k := k) (by omega) (by omega), w32_s (k := i + j) (by omega) (by omega), w32_s (k := i + j - k) (by omega) (by omega), g1 17 (by decide), hR' 17 _ rfl, es_xor1 cx.1 (by omega)]
          refine ⟨fun z => absurd z (by omega), fun _ => ⟨by omega, by omega, ih3 _ (fun c hc => by rw [es_upd_o c hc]; exact g1 c hc) (fun x x0 x1 => ?_)⟩⟩
          rw [es_upd_c]
          by_cases e : x = k
          · rw [if_pos e, if_pos (by omega), e]
          · rw [if_neg e, g2 x x0 x1]
            by_cases e2 : i ≤ x ∧ x < k
            · rw [if_pos e2, if_pos (by omega)]
            · rw [if_neg e2, if_neg (by omega)]
        · rw [if_neg (by omega)]
          unfold es_cpy
          rw [if_pos ⟨rfl, by omega, by omega⟩, show 0 + (x - 0) = x by omega, hR' 17 _ rfl]
      · have := itJ_stop (f := tuF T (T 14 2) (T 17) i.toNat) j.toNat (T 14 2 - j).toNat (fun k k0 k1 s => by
          unfold tuF
          refine ifc_n (fun z => hc (z.2 j (by omega) (by omega)))) (itJ (fun i => itJ (tuF T (T 14 2) (T 17) i) (T 14 2).toNat) i.toNat s)
        rw [show j.toNat + (T 14 2 - j).toNat = (T 14 2).toNat by omega] at this
        rw [this]
        exact f2
    · rw [itJ_id _ (fun k hk s => by unfold tuF; exact ifc_n (fun z => by omega))]
      exact f2
theorem s_move (hT : TI T) (hR : RepC T M) {i j : Int} (i0 : 0 ≤ i) (i1 : i < T 14 2) (j0 : 0 ≤ j) (j1 : j < T 14 2) (hij : j ≠ i) (h : ∀ M', (∀ c, c ≠ 85 → M' c = M c) → (∀ k, 0 ≤ k → k < T 14 2 → M' 85 k = mov (T 17) i j k) → Q 0 M') : es_Call (d + 1) 158 [.inr (.inr 84), .inl i, .inl j, .inl (T 14 2)] M Q := by
  apply m_Orders_move
  intro G hG
  apply k_Orders_move_0 hG
  have hn := hT.on
  have key := es_up (P := fun k => ∀ M', (∀ c, c ≠ 85 → M' c = M c) → (∀ x, 0 ≤ x → x < k → M' 85 x = mov (T 17) i j x) → G 6 [lr 84, li i, li j, li (T 14 2), li (if k ≤ j then (if k ≤ i then k else k + 1) else (if k - 1 ≤ i then k - 1 else k)), li k] [] M') (n := T 14 2) (by omega) ?_ ?_ M (fun _ _ => rfl) (fun x x0 x1 => absurd x1 (by omega))
  · rw [if_pos j0, if_pos i0] at key
    exact key
  · intro M' f1 f2
    apply k_Orders_move_6 hG
    exact ⟨fun _ => h M' f1 f2, fun z => absurd (Int.le_refl _) z⟩
  · intro k k0 k1 ih M' f1 f2
    have fin : ∀ v fr, v = mov (T 17) i j k → fr = (if k + 1 ≤ j then (if k + 1 ≤ i then k + 1 else k + 1 + 1) else (if k + 1 - 1 ≤ i then k + 1 - 1 else k + 1)) → G 6 [lr 84, li i, li j, li (T 14 2), li fr, li (k + 1)] [] (es_upd M' 85 k v) := by
      intro v fr hv hf
      rw [hf]
      refine ih _ (fun c hc => by rw [es_upd_o c hc]; exact f1 c hc) (fun x x0 x1 => ?_)
      rw [es_upd_c]
      by_cases e : x = k
      · rw [if_pos e, e, hv]
      · rw [if_neg e]; exact f2 x x0 (by omega)
    have e17 : ∀ x, M' 17 x = T 17 x := fun x => by rw [f1 17 (by decide), hR 17 _ rfl]
    apply k_Orders_move_6 hG
    rw [w32_1 (k := k) (by omega) (by omega), e17]
    generalize hfr : (if k ≤ j then (if k ≤ i then k else k + 1) else (if k - 1 ≤ i then k - 1 else k)) = fr
    have fr0 : 0 ≤ fr ∧ fr ≤ k + 1 := by rw [← hfr]; split <;> split <;> omega
    rw [w32_s (k := fr + 0) (by omega) (by omega), w32_1 (k := fr) (by omega) (by omega), w32_1 (k := fr + 1) (by omega) (by omega), show fr + 0 = fr by omega, w32_1 (k := fr) (by omega) (by omega), e17, e17]
    refine ⟨fun z => absurd z (by omega), fun _ => ⟨fun z => ⟨fun w => ⟨fun y => ?_, fun y => ⟨by omega, by omega, fin _ _ ?_ ?_⟩⟩, fun w => ⟨fun y => ?_, fun y => ⟨by omega, by omega, fin _ _ ?_ ?_⟩⟩⟩, fun z => ⟨by omega, by omega, fin _ _ ?_ ?_⟩⟩⟩
    · exfalso
      split at hfr <;> split at hfr <;> omega
    · unfold mov rkF
      rw [if_neg z]
      congr 1
      split at hfr <;> split at hfr <;> (split <;> split <;> omega)
    · split at hfr <;> split at hfr <;> (split <;> split <;> omega)
    · exfalso
      split at hfr <;> split at hfr <;> omega
    · unfold mov rkF
      rw [if_neg z]
      congr 1
      split at hfr <;> split at hfr <;> (split <;> split <;> omega)
    · split at hfr <;> split at hfr <;> (split <;> split <;> omega)
    · unfold mov; rw [if_pos z]
    · split at hfr <;> split at hfr <;> (split <;> split <;> omega)
theorem s_tryMoves (hT : TI T) (hR : RepC T M) (hL : ∀ p q, isP T p → isP T q → M 61 (p * 36 + q) = wyF T p q) {b : Int} {s : SS} (n0 : 0 < T 14 2) (hr : RC b (T 14 2) s M) (h : ∀ M', off3 M M' → RC b (T 14 2) (mvA T (T 14 2) (T 17) s) M' → Q 0 M') : es_Call (d + 5) 157 [.inr (.inr 84), .inl (T 14 2)] M Q := by
  apply m_Orders_tryMoves
  intro G hG
  apply k_Orders_tryMoves_0 hG
  have hn := hT.on
  have hV := hT.val
  refine es_up (P := fun i => ∀ M', off3 M M' → RC b (T 14 2) (itJ (fun i => itJ (mvF T (T 14 2) (T 17) i) (T 14 2).toNat) i.toNat s) M' → G 2 [lr 84, li (T 14 2), li i, none] [] M') (n := T 14 2) (by omega) ?_ ?_ M (fun _ _ _ _ => rfl) hr
  · intro M' f1 f2
    apply k_Orders_tryMoves_2 hG
    exact ⟨fun _ => h M' f1 f2, fun z => absurd (Int.le_refl _) z⟩
  · intro i i0 i1 ih M' f1 f2
    apply k_Orders_tryMoves_2 hG
    refine ⟨fun z => absurd z (by omega), fun _ => ?_⟩
    rw [itJ_s _ i0] at ih
    refine es_up (P := fun j => ∀ M', off3 M M' → RC b (T 14 2) (itJ (mvF T (T 14 2) (T 17) i.toNat) j.toNat (itJ (fun i => itJ (mvF T (T 14 2) (T 17) i) (T 14 2).toNat) i.toNat s)) M' → G 9 [lr 84, li (T 14 2), li i, li j] [] M') (n := T 14 2) (by omega) ?_ ?_ M' f1 f2
    · intro M' f1 f2
      apply k_Orders_tryMoves_9 hG
      rw [w32_1 (k := i) (by omega) (by omega)]
      exact ⟨fun _ => ih M' f1 f2, fun z => absurd (Int.le_refl _) z⟩
    · intro j j0 j1 ih2 M' f1 f2
      apply k_Orders_tryMoves_9 hG
      have hR' := rep3 hR f1
      rw [w32_1 (k := j) (by omega) (by omega)]
      rw [itJ_s _ j0] at ih2
      refine ⟨fun z => absurd z (by omega), fun _ => ⟨fun z => ih2 M' f1 ?_, fun z => s_move hT hR' i0 i1 j0 j1 z (fun M2 g1 g2 => ?_)⟩⟩
      · rw [mvF_n z]; exact f2
      · refine s_cons (M0 := M) (t := mov (T 17) i j) hT (rep3 hR' (fun c _ c2 _ => g1 c c2)) (fun p q hp hq => by rw [g1 61 (by decide), f1 61 (by decide) (by decide) (by decide)]; exact hL p q hp hq) n0 (mov_V hV i0 i1 j0 j1) (fun c c1 c2 c3 => by rw [g1 c c2]; exact f1 c c1 c2 c3) g2 (f2.off (g1 84 (by decide)) (g1 86 (by decide))) (fun M3 e1 e2 => ih2 M3 e1 ?_)
        rw [mvF_y i0 j0 z]
        exact e2
end
