/-! PAIRS OF CALLS: parts (2). The class: whether a set hangs together -/
theorem and_0 {x y : Int} (x0 : 0 ≤ x ∧ x < 4096) (y0 : 0 ≤ y) : es_and x y = 0 ↔ ∀ i : Nat, x.toNat.testBit i = true → y.toNat.testBit i = false := by
  obtain ⟨a, ha⟩ := Int.eq_ofNat_of_zero_le x0.1
  obtain ⟨b, hb⟩ := Int.eq_ofNat_of_zero_le y0
  rw [ha, hb, eb_and (by omega), Int.toNat_natCast, Int.toNat_natCast]
  constructor
  · intro h i hi
    have z : a &&& b = 0 := by omega
    cases q : b.testBit i
    · rfl
    · have : (a &&& b).testBit i = true := by rw [Nat.testBit_and, hi, q]; rfl
      rw [z, Nat.zero_testBit] at this; cases this
  · intro h
    have : a &&& b = 0 := by
      apply Nat.eq_of_testBit_eq
      intro i
      rw [Nat.testBit_and, Nat.zero_testBit]
      cases q : a.testBit i
      · rfl
      · rw [h i q]; rfl
    omega
def orI (x y : Int) : Int := ((x.toNat ||| y.toNat : Nat) : Int)
theorem orI_b {x y : Int} {i : Nat} : (orI x y).toNat.testBit i = (x.toNat.testBit i || y.toNat.testBit i) := by
  unfold orI; rw [Int.toNat_natCast, Nat.testBit_or]
theorem orI_r {x y : Int} (x0 : 0 ≤ x ∧ x < 4096) (y0 : 0 ≤ y ∧ y < 4096) : 0 ≤ orI x y ∧ orI x y < 4096 := by
  unfold orI
  have := Nat.or_lt_two_pow (n := 12) (x := x.toNat) (y := y.toNat) (by omega) (by omega)
  omega
theorem pc_none {l : Int} (h : pcN 18 l.toNat = 0) {v : Int} (v0 : 0 ≤ v) (v1 : v < 10) : ¬ ebit l v := fun b => by
  have := clr_pc v0 v1 b
  omega
section
variable {d : Nat} {Q : Int → es_M → Prop} {T M : es_M}
theorem hg_step (hT : TI T) {S s0 c l i : Int} (hI : hgI T S s0 c l) (i0 : 0 ≤ i) (i1 : i < T 1 1) (bl : ebit l i) (tc : ebit c (T 2 (T 10 i)) ∨ ebit c (T 3 (T 10 i))) : hgI T S s0 (orI c (wth (wth 0 (T 2 (T 10 i))) (T 3 (T 10 i)))) (clr l i) := by
  obtain ⟨h1, h2, h3, h4, h5, h6⟩ := hI
  have hv := hT.v
  obtain ⟨q0, q1⟩ := (hT.sr i0 i1).1
  obtain ⟨a1, a2, -⟩ := hT.st q0 q1
  have er := wth_4096 (wth_4096 (c := 0) (by decide) a1.1 a1.2) a2.1 a2.2
  have bS : ebit S i := h2.2 _ bl
  have iz : inZ T S (T 10 i) := ⟨i, ⟨i0, i1⟩, bS, rfl⟩
  have up : ∀ k : Int, ebit c k → ebit (orI c (wth (wth 0 (T 2 (T 10 i))) (T 3 (T 10 i)))) k := fun k b => by unfold ebit at b ⊢; rw [orI_b, b]; rfl
  have e2 : ebit (orI c (wth (wth 0 (T 2 (T 10 i))) (T 3 (T 10 i)))) (T 2 (T 10 i)) := by unfold ebit; rw [orI_b, ends_b]; simp
  have e3 : ebit (orI c (wth (wth 0 (T 2 (T 10 i))) (T 3 (T 10 i)))) (T 3 (T 10 i)) := by unfold ebit; rw [orI_b, ends_b]; simp
  have ri : rch T S s0 (T 10 i) := by
    rcases tc with b | b
    · obtain ⟨s, x1, x2, x3⟩ := h3 _ a1.1 a1.2 b
      refine rch_s x1 x2 iz ?_
      rcases x3 with x3 | x3
      · exact Or.inl x3
      · exact Or.inr (Or.inr (Or.inl x3))
    · obtain ⟨s, x1, x2, x3⟩ := h3 _ a2.1 a2.2 b
      refine rch_s x1 x2 iz ?_
      rcases x3 with x3 | x3
      · exact Or.inr (Or.inl x3)
      · exact Or.inr (Or.inr (Or.inr x3))
  refine ⟨orI_r h1 er, ⟨clr_nn, clr_sub.tr h2.2⟩, fun k k0 k1 b => ?_, fun v v0 v1 b nb => ?_, up _ h5, up _ h6⟩
  · unfold ebit at b
    rw [orI_b, ends_b, Bool.or_eq_true, Bool.or_eq_true, decide_eq_true_eq, decide_eq_true_eq] at b
    rcases b with b | b | b
    · exact h3 k k0 k1 b
    · exact ⟨T 10 i, ri, iz, Or.inl (by clear er; omega)⟩
    · exact ⟨T 10 i, ri, iz, Or.inr (by clear er; omega)⟩
  · by_cases e : v = i
    · rw [e]; exact ⟨ri, e2, e3⟩
    · have nl : ¬ ebit l v := fun w => nb (by
        unfold ebit at w ⊢
        rw [clr_b, w, Bool.true_and, Bool.not_eq_true', decide_eq_false_iff_not]
        clear er
        omega)
      have := h4 v v0 v1 b nl
      exact ⟨this.1, up _ this.2.1, up _ this.2.2⟩
theorem s_hangsTogether (hT : TI T) (hR : RepC T M) {S : Int} (S0 : 0 < S) (S1 : S ≤ allF T) (hy : hng T S (T 10 (ntzN S.toNat : Nat)) → Q 1 M) (hn : ¬ hng T S (T 10 (ntzN S.toNat : Nat)) → Q 0 M) : es_Call (d + 3) 123 [.inr (.inr 72), .inl S] M Q := by
  have hv := hT.v
  have ha := hT.all
  have S1024 : S < 1024 := by omega
  have hn' := hT.n
  obtain ⟨n1, n2, -⟩ := ntz_sp (x := S.toNat) (by omega) (by omega)
  have nS : ebit S (ntzN S.toNat : Nat) := by unfold ebit; rw [Int.toNat_natCast]; exact n2
  have nT : ((ntzN S.toNat : Nat) : Int) < T 1 1 := by
    have := (sub_all hT (Int.le_of_lt S0)).mpr S1 _ n2
    rw [all_bit hT, decide_eq_true_eq] at this
    clear ha S1
    omega
  generalize hv0 : ((ntzN S.toNat : Nat) : Int) = v0 at nS nT hy hn
  have v00 : 0 ≤ v0 := by rw [← hv0]; exact Int.natCast_nonneg _
  have npc : ∀ l : Int, sub l S → (pcN 18 l.toNat : Int) ≤ T 1 1 := fun l hl => by
    have a := pc_all hT
    have b := (pcN_mono (a := l.toNat) (b := (allF T).toNat) 18 (fun i _ hi => (sub_all hT (Int.le_of_lt S0)).mpr S1 i (hl i hi))).1
    clear ha S1
    omega
  clear ha
  obtain ⟨q0, q1⟩ := (hT.sr v00 nT).1
  obtain ⟨a1, a2, -⟩ := hT.st q0 q1
  have er := wth_4096 (wth_4096 (c := 0) (by decide) a1.1 a1.2) a2.1 a2.2
  apply m_Shares_hangsTogether
  intro G hG
  apply k_Shares_hangsTogether_0 hG
  refine s_ntz S0 (Int.lt_trans S1024 (by decide)) ?_
  rw [hv0]
  refine s_endsOf hT hR v00 nT ?_
  have I0 : hgI T S (T 10 v0) (wth (wth 0 (T 2 (T 10 v0))) (T 3 (T 10 v0))) S := by
    refine ⟨er, ⟨Int.le_of_lt S0, sub.rf S⟩, fun k k0 k1 b => ?_, fun v _ _ b nb => absurd b nb, ?_, ?_⟩
    · refine ⟨T 10 v0, fun X h0 _ => h0, ⟨v0, ⟨v00, nT⟩, nS, rfl⟩, ?_⟩
      unfold ebit at b
      rw [ends_b, Bool.or_eq_true, decide_eq_true_eq, decide_eq_true_eq] at b
      clear er
      omega
    · unfold ebit; rw [ends_b]; simp
    · unfold ebit; rw [ends_b]; simp
  generalize wth (wth 0 (T 2 (T 10 v0))) (T 3 (T 10 v0)) = c0 at I0 er ⊢
  refine es_up (P := fun r => ∀ c l, hgI T S (T 10 v0) c l → (hgC T c l ∨ (pcN 18 l.toNat : Int) + r ≤ T 1 1) → G 14 [lr 72, none, li c, li l, li r, none] [] M) (n := 10) (by decide) ?_ ?_ c0 S I0 (Or.inr (by have := npc S (sub.rf S); clear er; omega))
  · intro c l hI hp
    have hC : hgC T c l := by
      rcases hp with w | w
      · exact w
      · intro v v0' v1' b
        exact absurd b (pc_none (by omega) v0' (by omega))
    have e := hg_end hT S1 (Int.le_of_lt S0) hI hC
    apply k_Shares_hangsTogether_14 hG
    exact ⟨fun _ => ⟨fun z => ⟨es_b0, hn (fun w => z (e.mpr w))⟩, fun z => ⟨es_b1, hy (e.mp z)⟩⟩, fun z => absurd (Int.le_refl _) z⟩
  · intro r r0 r1 ih c l hI hp
    apply k_Shares_hangsTogether_14 hG
    refine ⟨fun z => absurd z (by clear S1; omega), fun _ => ?_⟩
    have wr : w32 (r + 1) = r + 1 := w32_1 (by clear S1; omega) (by clear S1; omega)
    refine es_up (P := fun i => ∀ c' l', hgI T S (T 10 v0) c' l' → ((c' = c ∧ l' = l ∧ ∀ v, 0 ≤ v → v < i → ebit l v → ¬ ebit c (T 2 (T 10 v)) ∧ ¬ ebit c (T 3 (T 10 v))) ∨ (pcN 18 l'.toNat < pcN 18 l.toNat ∧ ¬ hgC T c l)) → G 24 [lr 72, none, li c', li l', li r, li i] [] M) (n := T 1 1) hv.1 ?_ ?_ c l hI (Or.inl ⟨rfl, rfl, fun v x y => absurd y (by clear S1; omega)⟩)
    · intro c' l' hI' hp'
      apply k_Shares_hangsTogether_24 hG
      rw [hR 1 1 rfl, wr]
      refine ⟨fun _ => ih c' l' hI' ?_, fun z => absurd (Int.le_refl _) z⟩
      rcases hp' with ⟨e1, e2, e3⟩ | ⟨e1, e2⟩
      · rw [e1, e2]; exact Or.inl e3
      · rcases hp with w | w
        · exact absurd w e2
        · exact Or.inr (by clear S1; omega)
    · intro i i0 i1 ih2 c' l' hI' hp'
      obtain ⟨p0, p1⟩ := (hT.sr i0 i1).1
      obtain ⟨b1, b2, -⟩ := hT.st p0 p1
      have ei := wth_4096 (wth_4096 (c := 0) (by decide) b1.1 b1.2) b2.1 b2.2
      have i10 : i < 10 := by clear S1 ei er; omega
      have wi : w32 (i + 1) = i + 1 := w32_1 (by clear S1 ei er; omega) (by clear S1 ei er; omega)
      have nle : ¬ T 1 1 ≤ i := by clear S1 ei er; omega
      have lr' := sub_le hI'.2.1.1 hI'.2.1.2
      have l31 : l' < 2147483648 := by clear S1 ei er; omega
      have i31 : i < 31 := by clear S1 ei er; omega
      clear lr'
      have keep : (ebit l' i → ¬ ebit c' (T 2 (T 10 i)) ∧ ¬ ebit c' (T 3 (T 10 i))) → G 24 [lr 72, none, li c', li l', li r, li (i + 1)] [] M := fun no => ih2 c' l' hI' (by
        rcases hp' with ⟨e1, e2, e3⟩ | e
        · refine Or.inl ⟨e1, e2, fun v x y b => ?_⟩
          by_cases q : v = i
          · rw [q] at b ⊢
            rw [← e2] at b
            rw [← e1]; exact no b
          · exact e3 v x (by clear S1 ei er; omega) b
        · exact Or.inr e)
      have hand := and_0 ei hI'.1.1
      have eor : es_or c' (wth (wth 0 (T 2 (T 10 i))) (T 3 (T 10 i))) = orI c' (wth (wth 0 (T 2 (T 10 i))) (T 3 (T 10 i))) := ei_or hI'.1.1 (Int.lt_trans hI'.1.2 (by decide)) ei.1 (Int.lt_trans ei.2 (by decide))
      have esh : es_and l' (es_xor (es_shl 1 i) (-1)) = clr l' i := by
        have p := pow31 i0 i31
        rw [ei_shl i0 i31, ei_dif hI'.2.1.1 l31 (Int.le_of_lt p.1) p.2.1, p.2.2]
        rfl
      apply k_Shares_hangsTogether_24 hG
      rw [hR 1 1 rfl, wi, esh]
      refine ⟨fun z => absurd z nle, fun _ => s_has hI'.2.1.1 l31 i0 (Int.lt_trans i31 (by decide)) (fun bl => es_t1 (s_endsOf hT hR i0 i1 ⟨fun z => keep (fun _ => ?_), fun z => s_endsOf hT hR i0 i1 ?_⟩)) (fun bl => es_t0 (keep (fun w => absurd w bl)))⟩
      · have zz := hand.mp z
        refine ⟨fun w => ?_, fun w => ?_⟩
        · have := zz (T 2 (T 10 i)).toNat (by rw [ends_b]; simp)
          unfold ebit at w; rw [this] at w; cases w
        · have := zz (T 3 (T 10 i)).toNat (by rw [ends_b]; simp)
          unfold ebit at w; rw [this] at w; cases w
      · rw [eor]
        have tc : ebit c' (T 2 (T 10 i)) ∨ ebit c' (T 3 (T 10 i)) := by
          by_cases w1 : ebit c' (T 2 (T 10 i))
          · exact Or.inl w1
          · by_cases w2 : ebit c' (T 3 (T 10 i))
            · exact Or.inr w2
            · exfalso
              refine z (hand.mpr (fun j hj => ?_))
              rw [ends_b, Bool.or_eq_true, decide_eq_true_eq, decide_eq_true_eq] at hj
              cases q : c'.toNat.testBit j
              · rfl
              · rcases hj with e | e
                · exact absurd (by unfold ebit; rw [e]; exact q) w1
                · exact absurd (by unfold ebit; rw [e]; exact q) w2
        have pc := clr_pc i0 i10 bl
        refine ih2 _ _ (hg_step hT hI' i0 i1 bl tc) (Or.inr ?_)
        clear hand eor esh ei er
        rcases hp' with ⟨e1, e2, e3⟩ | ⟨e1, e2⟩
        · refine ⟨by rw [← e2, ← pc]; exact Nat.lt_succ_self _, fun w => ?_⟩
          have := w i i0 i1 (by rw [← e2]; exact bl)
          rw [← e1] at this
          exact tc.elim this.1 this.2
        · exact ⟨by clear S1; omega, e2⟩
end
