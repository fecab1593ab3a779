/-! SHARES: a set of services shared among some, each share at its cost -/
def jnF (L x y : Int) : Int := if L = 0 then min 1000000 (x + y) else max x y
theorem jn_r {L x y : Int} (x0 : 0 ≤ x ∧ x ≤ 1000000) (y0 : 0 ≤ y ∧ y ≤ 1000000) : 0 ≤ jnF L x y ∧ jnF L x y ≤ 1000000 := by
  unfold jnF; split <;> omega
def dfS (S o : Int) : Int := ((es_dif S.toNat o.toNat : Nat) : Int)
theorem dfS_sub (S o : Int) : sub (dfS S o) S := fun i hi => by
  unfold dfS at hi
  rw [Int.toNat_natCast, es_dif_bit, Bool.and_eq_true] at hi
  exact hi.1
theorem dfS_r {S : Int} (S0 : 0 ≤ S) (o : Int) : 0 ≤ dfS S o ∧ dfS S o ≤ S := by
  have n : 0 ≤ dfS S o := by unfold dfS; omega
  have := sub_le n (dfS_sub S o)
  omega
theorem dfS_0 {S : Int} (S0 : 0 ≤ S) : dfS S 0 = S := by
  unfold dfS
  have : es_dif S.toNat (0 : Int).toNat = S.toNat := by
    apply Nat.eq_of_testBit_eq
    intro i
    rw [es_dif_bit, show (0 : Int).toNat = 0 from rfl, Nat.zero_testBit]; simp
  omega
theorem dfS_s (S : Int) : dfS S S = 0 := by
  unfold dfS
  have : es_dif S.toNat S.toNat = 0 := by
    apply Nat.eq_of_testBit_eq
    intro i
    rw [es_dif_bit, Nat.zero_testBit]
    cases S.toNat.testBit i <;> rfl
  omega
theorem dfS_z {S o : Int} (S0 : 0 ≤ S) (o0 : 0 ≤ o) (h : sub o S) (z : dfS S o = 0) : o = S := by
  refine sub.eq o0 S0 h (fun i hi => ?_)
  cases q : o.toNat.testBit i
  · exfalso
    have : (dfS S o).toNat.testBit i = true := by unfold dfS; rw [Int.toNat_natCast, es_dif_bit, hi, q]; rfl
    rw [z, show (0 : Int).toNat = 0 from rfl, Nat.zero_testBit] at this
    cases this
  · rfl
noncomputable def shF (L : Int) (cst : Int → Int) : Nat → Int → Int
  | 0 => fun S => cst S
  | n + 1 => fun S => Classical.epsilon (fun v => isMin (fun x => ∃ o, 0 ≤ o ∧ sub o S ∧ jnF L (cst o) (shF L cst n (dfS S o)) = x) v)
section
variable {L N : Int} {cst : Int → Int}
abbrev cOK (N : Int) (cst : Int → Int) : Prop := ∀ S, 0 ≤ S → S ≤ N → 0 ≤ cst S ∧ cst S ≤ 1000000
theorem sub_r {o S N : Int} (o0 : 0 ≤ o) (S0 : 0 ≤ S) (S1 : S ≤ N) (h : sub o S) : o ≤ N := by have := sub_le o0 h; omega
theorem sh_r (hc : cOK N cst) : ∀ n S, 0 ≤ S → S ≤ N → 0 ≤ shF L cst n S ∧ shF L cst n S ≤ 1000000 := by
  intro n
  induction n with
  | zero => intro S S0 S1; exact hc S S0 S1
  | succ n ih =>
    intro S S0 S1
    have nn : ∀ x, (∃ o, 0 ≤ o ∧ sub o S ∧ jnF L (cst o) (shF L cst n (dfS S o)) = x) → 0 ≤ x := by
      rintro x ⟨o, o0, o1, rfl⟩
      have d := dfS_r S0 o
      exact (jn_r (hc o o0 (sub_r o0 S0 S1 o1)) (ih _ d.1 (by omega))).1
    have m : isMin (fun x => ∃ o, 0 ≤ o ∧ sub o S ∧ jnF L (cst o) (shF L cst n (dfS S o)) = x) (shF L cst (n + 1) S) := Classical.epsilon_spec (isMin_ex nn)
    refine ⟨?_, m.1⟩
    by_cases z : shF L cst (n + 1) S < 1000000
    · exact nn _ (m.2.2 z)
    · omega
theorem sh_m (hc : cOK N cst) (n : Nat) {S : Int} (S0 : 0 ≤ S) (S1 : S ≤ N) : isMin (fun x => ∃ o, 0 ≤ o ∧ sub o S ∧ jnF L (cst o) (shF L cst n (dfS S o)) = x) (shF L cst (n + 1) S) := by
  refine Classical.epsilon_spec (isMin_ex ?_)
  rintro x ⟨o, o0, o1, rfl⟩
  have d := dfS_r S0 o
  exact (jn_r (hc o o0 (sub_r o0 S0 S1 o1)) (sh_r hc n _ d.1 (by omega))).1
theorem sh_eq (hc : cOK N cst) {n : Nat} {S v : Int} (S0 : 0 ≤ S) (S1 : S ≤ N) (v1 : v ≤ 1000000) (lo : ∀ o, 0 ≤ o → sub o S → v ≤ jnF L (cst o) (shF L cst n (dfS S o))) (at' : v = 1000000 ∨ ∃ o, 0 ≤ o ∧ sub o S ∧ v = jnF L (cst o) (shF L cst n (dfS S o))) : v = shF L cst (n + 1) S := by
  refine isMin.uniq ⟨v1, ?_, fun z => ?_⟩ (sh_m hc n S0 S1)
  · rintro x ⟨o, o0, o1, rfl⟩; exact lo o o0 o1
  · rcases at' with w | ⟨o, o0, o1, w⟩
    · omega
    · exact ⟨o, o0, o1, w.symm⟩
end
/-- the first share within a bound -/
def isF (L : Int) (cst : Int → Int) (n : Nat) (left bd o : Int) : Prop := (0 ≤ o ∧ o ≤ left ∧ sub o left) ∧ (o = left ∨ jnF L (cst o) (shF L cst n (dfS left o)) ≤ bd) ∧ ∀ o', 0 ≤ o' → o' < o → sub o' left → ¬ jnF L (cst o') (shF L cst n (dfS left o')) ≤ bd
theorem isF_u {L : Int} {cst : Int → Int} {n : Nat} {left bd o p : Int} (h : isF L cst n left bd o) (g : isF L cst n left bd p) : o = p := by
  rcases Int.lt_trichotomy o p with q | q | q
  · rcases h.2.1 with w | w
    · have := g.1.2.1; omega
    · exact absurd w (g.2.2 o h.1.1 q h.1.2.2)
  · exact q
  · rcases g.2.1 with w | w
    · have := h.1.2.1; omega
    · exact absurd w (h.2.2 p g.1.1 q g.1.2.2)
noncomputable def fsF (L : Int) (cst : Int → Int) (n : Nat) (left bd : Int) : Int := Classical.epsilon (fun o => isF L cst n left bd o)
theorem fsF_eq {L : Int} {cst : Int → Int} {n : Nat} {left bd o : Int} (h : isF L cst n left bd o) : fsF L cst n left bd = o := isF_u (Classical.epsilon_spec ⟨o, h⟩) h
noncomputable def tlR (L : Int) (cst : Int → Int) : Nat → Int → Int → RW → RW
  | 0 => fun left _ r => apd r left
  | n + 1 => fun left bd r => tlR L cst n (dfS left (fsF L cst n left bd)) (if L = 0 then bd - cst (fsF L cst n left bd) else bd) (apd r (fsF L cst n left bd))
def lsOK (L : Int) (cst : Int → Int) (N : Int) (n : Nat) (M : es_M) : Prop := ∀ S, 0 ≤ S → S ≤ N → M 74 (n * 1024 + S) = shF L cst n S
section
variable {d : Nat} {Q : Int → es_M → Prop} {M : es_M} {L N : Int} {cst : Int → Int}
theorem s_joined {x y : Int} (x0 : 0 ≤ x ∧ x ≤ 1000000) (y0 : 0 ≤ y ∧ y ≤ 1000000) (h : Q (jnF L x y) M) : es_Call (d + 1) 119 [.inr (.inr 72), .inl x, .inl y, .inl L] M Q := by
  apply c_Shares_joined
  unfold jnF at h
  rw [w32_s (by omega) (by omega)]
  exact ⟨fun z => by rw [if_pos z] at h; exact h, fun z => by rw [if_neg z] at h; exact h⟩
theorem w1024 {n : Nat} {S : Int} (hn : n ≤ 3) (S0 : 0 ≤ S) (S1 : S < 1024) : w32 (w32 ((n : Int) * 1024) + S) = (n : Int) * 1024 + S ∧ 0 ≤ (n : Int) * 1024 + S ∧ (n : Int) * 1024 + S < 4096 := by
  refine ⟨by unfold w32; omega, by omega, by omega⟩
theorem num1 {n : Nat} {z S N : Int} (hn : n ≤ 2) (S1 : S ≤ N) (N1 : N < 1024) (z0 : 0 ≤ z ∧ z ≤ S) : w32 ((n : Int) * 1024 + z) = (n : Int) * 1024 + z ∧ (0 ≤ (n : Int) * 1024 + z ∧ (n : Int) * 1024 + z < 4096) ∧ z ≤ N := ⟨w32_s (by omega) (by omega), by omega, by omega⟩
theorem s_leastWith (hc : cOK N cst) (N1 : N < 1024) (h73 : ∀ S, 0 ≤ S → S ≤ N → M 73 S = cst S) {n : Nat} (hn : n ≤ 2) (hl : lsOK L cst N n M) {S : Int} (S0 : 0 ≤ S) (S1 : S ≤ N) (h : Q (shF L cst (n + 1) S) M) : es_Call (d + 2) 118 [.inr (.inr 72), .inl S, .inl ((n : Int) + 1), .inl L] M Q := by
  apply m_Shares_leastWith
  intro G hG
  apply k_Shares_leastWith_0 hG
  have e1 : w32 ((n : Int) + 1 - 1) = n := by rw [w32_s (by omega) (by omega)]; omega
  have e2 : w32 ((n : Int) * 1024) = (n : Int) * 1024 := w32_s (by omega) (by omega)
  obtain ⟨x1, x2, x3⟩ := w1024 (n := n) (S := S) (by omega) S0 (by omega)
  rw [e1, x1, e2, h73 0 (by decide) (by omega), hl S S0 S1]
  refine ⟨by decide, ⟨x2, x3⟩, s_joined (hc 0 (by decide) (by omega)) (sh_r hc n S S0 S1) ?_⟩
  have key : ∀ (m : Nat) (D v : Int), D.toNat ≤ m → 0 ≤ D → sub D S → D ≤ S → v ≤ 1000000 → 0 ≤ v → (∀ o, 0 ≤ o → sub o S → o = 0 ∨ D < o → v ≤ jnF L (cst o) (shF L cst n (dfS S o))) → (∃ o, 0 ≤ o ∧ sub o S ∧ v = jnF L (cst o) (shF L cst n (dfS S o))) → G 34 [lr 72, li S, none, li L, li ((n : Int) * 1024), li v, li D] [] M := by
    intro m
    induction m with
    | zero =>
      intro D v h1 h2 _ _ v1 _ lo ex
      have : D = 0 := by omega
      subst this
      apply k_Shares_leastWith_34 hG
      refine ⟨fun _ => ?_, fun z => absurd (Int.le_refl _) z⟩
      rw [← sh_eq hc S0 S1 v1 (fun o o0 o1 => lo o o0 o1 (by omega)) (Or.inr ex)] at h
      exact h
    | succ m ih =>
      intro D v h1 h2 hs h3 v1 v0 lo ex
      apply k_Shares_leastWith_34 hG
      refine ⟨fun z => ?_, fun z => ?_⟩
      · rw [← sh_eq hc S0 S1 v1 (fun o o0 o1 => lo o o0 o1 (by omega)) (Or.inr ex)] at h
        exact h
      · have D1 : D ≤ N := by omega
        have y3 : w32 (D - 1) = D - 1 := w32_m (by omega) (by omega)
        have y4 : 0 ≤ D ∧ D < 1024 := by omega
        have y5 : S < 2147483648 := by omega
        have y6 : D < 2147483648 := by omega
        have dr := dfS_r S0 D
        obtain ⟨y1, y2, dN⟩ := num1 hn S1 N1 dr
        have ed : es_and S (es_xor D (-1)) = dfS S D := ei_dif S0 y5 h2 y6
        rw [ed, y1, h73 D h2 D1, hl _ dr.1 dN, y3]
        clear ed
        refine ⟨y4, y2, s_joined (hc D h2 D1) (sh_r hc n _ dr.1 dN) ?_⟩
        have jr := jn_r (L := L) (hc D h2 D1) (sh_r (L := L) hc n _ dr.1 dN)
        clear dr y1 y2 dN
        have mn1 : min v (jnF L (cst D) (shF L cst n (dfS S D))) ≤ 1000000 := Int.le_trans (Int.min_le_left _ _) v1
        have mn0 : 0 ≤ min v (jnF L (cst D) (shF L cst n (dfS S D))) := Int.le_min.mpr ⟨v0, jr.1⟩
        clear jr
        have lo' : ∀ o, 0 ≤ o → sub o S → o = D ∨ (o = 0 ∨ D < o) → min v (jnF L (cst D) (shF L cst n (dfS S D))) ≤ jnF L (cst o) (shF L cst n (dfS S o)) := fun o o0 o1 o2 => by
          rcases o2 with e | e
          · rw [e]; exact Int.min_le_right _ _
          · exact Int.le_trans (Int.min_le_left _ _) (lo o o0 o1 e)
        have ex' : ∃ o, 0 ≤ o ∧ sub o S ∧ min v (jnF L (cst D) (shF L cst n (dfS S D))) = jnF L (cst o) (shF L cst n (dfS S o)) := by
          rcases Int.le_total v (jnF L (cst D) (shF L cst n (dfS S D))) with q | q
          · obtain ⟨o, o0, o1, o2⟩ := ex
            exact ⟨o, o0, o1, by rw [Int.min_eq_left q]; exact o2⟩
          · exact ⟨D, h2, hs, Int.min_eq_right q⟩
        generalize min v (jnF L (cst D) (shF L cst n (dfS S D))) = v' at mn1 mn0 lo' ex' ⊢
        clear lo ex v1 v0
        obtain ⟨x, hx⟩ := Int.eq_ofNat_of_zero_le h2
        obtain ⟨w, hw⟩ := Int.eq_ofNat_of_zero_le S0
        have ea : es_and (D - 1) S = (((x - 1) &&& w : Nat) : Int) := by
          rw [show D - 1 = ((x - 1 : Nat) : Int) by omega, hw, eb_and' (by omega)]
        have le1 : (x - 1) &&& w ≤ x - 1 := Nat.and_le_left
        have le2 : (x - 1) &&& w ≤ w := Nat.and_le_right
        rw [ea]
        refine ih _ v' (by omega) (by omega) (fun i hi => ?_) (by omega) mn1 mn0 (fun o o0 o1 o2 => lo' o o0 o1 ?_) ex'
        · rw [Int.toNat_natCast, Nat.testBit_and, Bool.and_eq_true] at hi
          rw [hw, Int.toNat_natCast]; exact hi.2
        · by_cases q : o = D
          · exact Or.inl q
          · by_cases q2 : o = 0 ∨ D < o
            · exact Or.inr q2
            · exfalso
              have sn := sub_next x o.toNat w (fun i hi => by have := o1 i hi; rw [hw, Int.toNat_natCast] at this; exact this) (fun i hi => by have := hs i (by rw [hx, Int.toNat_natCast]; exact hi); rw [hw, Int.toNat_natCast] at this; exact this) (by omega)
              omega
  have d0 := dfS_0 S0
  have jr := jn_r (L := L) (hc 0 (by decide) (by omega)) (sh_r (L := L) hc n S S0 S1)
  refine key S.toNat S _ (Nat.le_refl _) S0 (sub.rf S) (Int.le_refl _) jr.2 jr.1 (fun o o0 o1 o2 => ?_) ⟨0, by decide, s0W S, by rw [d0]⟩
  rcases o2 with e | e
  · rw [e, d0]; exact Int.le_refl _
  · exfalso
    have := sub_le o0 o1
    clear jr x1 x2 x3 d0
    omega
theorem s_firstShare (hc : cOK N cst) (N1 : N < 1024) (h73 : ∀ S, 0 ≤ S → S ≤ N → M 73 S = cst S) {n : Nat} (hn : n ≤ 2) (hl : lsOK L cst N n M) {S bd : Int} (S0 : 0 ≤ S) (S1 : S ≤ N) (h : ∀ o, isF L cst n S bd o → Q o M) : es_Call (d + 2) 120 [.inr (.inr 72), .inl S, .inl ((n : Int) + 1), .inl bd, .inl L] M Q := by
  apply m_Shares_firstShare
  intro G hG
  apply k_Shares_firstShare_0 hG
  have e1 : w32 ((n : Int) + 1 - 1) = n := by rw [w32_s (by omega) (by omega)]; omega
  have e2 : w32 ((n : Int) * 1024) = (n : Int) * 1024 := w32_s (by omega) (by omega)
  rw [e1, e2]
  refine es_up (P := fun k => (∀ o', 0 ≤ o' → o' < k → sub o' S → ¬ jnF L (cst o') (shF L cst n (dfS S o')) ≤ bd) → G 12 [lr 72, li S, none, li bd, li L, li ((n : Int) * 1024), li k, none] [] M) (n := S) S0 ?_ ?_ (fun o' a b => absurd b (by omega))
  · intro lo
    apply k_Shares_firstShare_12 hG
    exact ⟨fun _ => h S ⟨⟨S0, Int.le_refl _, sub.rf S⟩, Or.inl rfl, lo⟩, fun z => absurd (Int.le_refl _) z⟩
  · intro k k0 k1 ih lo
    have D1 : k ≤ N := by omega
    have y3 : w32 (k + 1) = k + 1 := w32_1 (by omega) (by omega)
    have y4 : 0 ≤ k ∧ k < 1024 := by omega
    have y5 : S < 2147483648 := by omega
    have y6 : k < 2147483648 := by omega
    have y7 : ¬ S ≤ k := by omega
    have dr := dfS_r S0 k
    obtain ⟨y1, y2, dN⟩ := num1 hn S1 N1 dr
    have sd := sub_dif (a := k) (b := S) k0 y6 S0 y5
    have ed : es_and S (es_xor k (-1)) = dfS S k := ei_dif S0 y5 k0 y6
    have ex : ∀ o', 0 ≤ o' → o' < k + 1 → sub o' S → (sub k S → ¬ jnF L (cst k) (shF L cst n (dfS S k)) ≤ bd) → ¬ jnF L (cst o') (shF L cst n (dfS S o')) ≤ bd := fun o' a b c e => by
      by_cases q : o' = k
      · rw [q] at c ⊢; exact e c
      · exact lo o' a (Int.lt_iff_le_and_ne.mpr ⟨Int.le_of_lt_add_one b, q⟩) c
    apply k_Shares_firstShare_12 hG
    rw [y3, ed, y1, h73 k k0 D1, hl _ dr.1 dN]
    clear ed
    refine ⟨fun z => absurd z y7, fun _ => ⟨fun z => ⟨fun _ => ih (fun o' a b c => ex o' a b c (fun w => absurd (sd.mpr w) z)), fun w => absurd rfl w⟩, fun z => ⟨fun w => absurd w (by decide), fun _ => ⟨y4, y2, s_joined (hc k k0 D1) (sh_r hc n _ dr.1 dN) ⟨fun w => ih (fun o' a b c => ex o' a b c (fun _ => Int.not_le.mpr w)), fun w => h k ⟨⟨k0, Int.le_of_lt k1, sd.mp z⟩, Or.inr (Int.not_lt.mp w), lo⟩⟩⟩⟩⟩⟩
end
