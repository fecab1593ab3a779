/-! SHARES (3): the model shares -/
theorem num3 {n : Nat} {z S N : Int} (hn : n ≤ 4) (S1 : S ≤ N) (N1 : N < 1024) (z0 : 0 ≤ z ∧ z ≤ S) : w32 (w32 ((n : Int) * 1024) + z) = (n : Int) * 1024 + z ∧ (0 ≤ (n : Int) * 1024 + z ∧ (n : Int) * 1024 + z < 5120) ∧ z ≤ N := ⟨by rw [w32_s (k := (n : Int) * 1024) (by omega) (by omega), w32_s (by omega) (by omega)], by omega, by omega⟩
theorem jn_1 {L x : Int} (x0 : 0 ≤ x ∧ x ≤ 1000000) : jnF L x 1000000 = 1000000 := by unfold jnF; split <;> omega
theorem jn_1' {L x : Int} (x0 : 0 ≤ x ∧ x ≤ 1000000) : jnF L 1000000 x = 1000000 := by unfold jnF; split <;> omega
theorem jn_0 {L x : Int} (x0 : 0 ≤ x ∧ x ≤ 1000000) : jnF L x 0 = x := by unfold jnF; split <;> omega
def boF (L so wh : Int) : Int := if L = 0 then wh - so else wh
theorem jn_bd {L so s X wh : Int} (h : jnF L so s = wh) (w1 : wh < 1000000) (hX : s ≤ X) : jnF L so X = wh ↔ X ≤ boF L so wh := by
  unfold jnF boF at *
  split at h
  · rename_i z; rw [if_pos z, if_pos z]; omega
  · rename_i z; rw [if_neg z, if_neg z]; omega
theorem jn_nx {L so c s' wh : Int} (so0 : 0 ≤ so) (c0 : 0 ≤ c) (s0 : 0 ≤ s') (w1 : wh < 1000000) (h : jnF L so (jnF L c s') = wh) : jnF L (jnF L so c) s' = wh ∧ 0 ≤ jnF L so c ∧ (if L = 0 then boF L so wh - c else boF L so wh) = boF L (jnF L so c) wh := by
  unfold jnF boF at *
  by_cases z : L = 0
  · simp only [if_pos z] at *; omega
  · simp only [if_neg z] at *
    exact ⟨by rw [Int.max_assoc]; exact h, Int.le_trans so0 (Int.le_max_left _ _), trivial⟩
theorem jn_ge {L so s wh : Int} (h : jnF L so s = wh) (w1 : wh < 1000000) : s ≤ boF L so wh := by
  unfold jnF boF at *
  by_cases z : L = 0
  · simp only [if_pos z] at *; omega
  · simp only [if_neg z] at *; omega
theorem jn_big {L so s wh : Int} (so0 : 0 ≤ so) (h : jnF L so s = wh) (w1 : wh < 1000000) : s < 1000000 := by
  unfold jnF at h
  split at h <;> omega
/-- what the model knows of a level -/
noncomputable def mlv (L : Int) (cst : Int → Int) : Nat → Int → Int
  | 0 => fun S => if S = 0 then 0 else 1000000
  | n + 1 => fun S => shF L cst n S
theorem mlv_r {L N : Int} {cst : Int → Int} (hc : cOK N cst) : ∀ n S, 0 ≤ S → S ≤ N → 0 ≤ mlv L cst n S ∧ mlv L cst n S ≤ 1000000 := by
  intro n S S0 S1
  cases n with
  | zero => show 0 ≤ (if S = 0 then (0 : Int) else 1000000) ∧ (if S = 0 then (0 : Int) else 1000000) ≤ 1000000; split <;> decide
  | succ n => exact sh_r hc n S S0 S1
theorem mlv_eq {L N E : Int} {cst : Int → Int} (hc : cOK N cst) (hE : E = 0 → cst 0 = 1000000) {n : Nat} {S v : Int} (S0 : 0 ≤ S) (S1 : S ≤ N) (v1 : v ≤ 1000000) (lo : ∀ o, 0 ≤ o → sub o S → (0 < o ∨ ¬ E = 0) → v ≤ jnF L (cst o) (mlv L cst n (dfS S o))) (ex : v = 1000000 ∨ ∃ o, 0 ≤ o ∧ sub o S ∧ (0 < o ∨ ¬ E = 0) ∧ v = jnF L (cst o) (mlv L cst n (dfS S o))) : v = mlv L cst (n + 1) S := by
  have oN : ∀ o, 0 ≤ o → sub o S → o ≤ N := fun o o0 o1 => sub_r o0 S0 S1 o1
  have dN : ∀ o, 0 ≤ dfS S o ∧ dfS S o ≤ N := fun o => ⟨(dfS_r S0 o).1, Int.le_trans (dfS_r S0 o).2 S1⟩
  cases n with
  | zero =>
    show v = cst S
    have cS := hc S S0 S1
    have big : ∀ o, 0 ≤ o → sub o S → dfS S o ≠ 0 → jnF L (cst o) (mlv L cst 0 (dfS S o)) = 1000000 := fun o o0 o1 z => by
      show jnF L (cst o) (if dfS S o = 0 then (0 : Int) else 1000000) = 1000000
      rw [if_neg z]; exact jn_1 (hc o o0 (oN o o0 o1))
    have own : jnF L (cst S) (mlv L cst 0 (dfS S S)) = cst S := by
      show jnF L (cst S) (if dfS S S = 0 then (0 : Int) else 1000000) = cst S
      rw [if_pos (dfS_s S)]; exact jn_0 cS
    by_cases al : 0 < S ∨ ¬ E = 0
    · have a := lo S S0 (sub.rf S) al
      rw [own] at a
      rcases ex with e | ⟨o, o0, o1, o2, e⟩
      · omega
      · by_cases z : dfS S o = 0
        · have : o = S := dfS_z S0 o0 o1 z
          rw [this, own] at e; exact e
        · rw [big o o0 o1 z] at e; omega
    · have e0 : S = 0 := by omega
      have eE : E = 0 := by by_cases q : E = 0; exact q; exact absurd (Or.inr q) al
      rw [e0, hE eE]
      rcases ex with e | ⟨o, o0, o1, o2, e⟩
      · exact e
      · exfalso
        have := sub_le o0 o1
        rcases o2 with w | w
        · omega
        · exact w eE
  | succ n =>
    refine sh_eq hc S0 S1 v1 (fun o o0 o1 => ?_) ?_
    · by_cases al : 0 < o ∨ ¬ E = 0
      · exact lo o o0 o1 al
      · have e0 : o = 0 := by omega
        have eE : E = 0 := by by_cases q : E = 0; exact q; exact absurd (Or.inr q) al
        rw [e0, hE eE, jn_1' (sh_r hc n _ (dN 0).1 (dN 0).2)]
        exact v1
    · rcases ex with e | ⟨o, o0, o1, o2, e⟩
      · exact Or.inl e
      · exact Or.inr ⟨o, o0, o1, e⟩
def mvOK (L : Int) (cst : Int → Int) (N : Int) (n : Nat) (M : es_M) : Prop := ∀ S, 0 ≤ S → S ≤ N → M 135 ((n : Int) * 1024 + S) = mlv L cst n S
section
variable {d : Nat} {Q : Int → es_M → Prop} {T M : es_M} {L N E : Int} {cst : Int → Int}
theorem s_m_joined {x y : Int} (x0 : 0 ≤ x ∧ x ≤ 1000000) (y0 : 0 ≤ y ∧ y ≤ 1000000) (h : Q (jnF L x y) M) : es_Call (d + 1) 269 [.inr (.inr 91), .inl x, .inl y, .inl L] M Q := by
  apply c_Model_joined
  unfold jnF at h
  rw [w32_s (by omega) (by omega), show min 1000000 (max x y) = max x y by omega]
  exact ⟨fun z => by rw [if_pos z] at h; exact h, fun z => by rw [if_neg z] at h; exact h⟩
theorem rep135 {M' : es_M} (hR : RepM T M) (h : ∀ c, c ≠ 135 → M' c = M c) : RepM T M' := by
  intro c j q
  by_cases e : c = 135
  · subst e; cases q
  · rw [h c e]; exact hR _ _ q
theorem s_m_shares (hT : TI T) (hR : RepM T M) (hc : cOK (allF T) cst) (hE : E = 0 → cst 0 = 1000000) (hw : ∀ S, 0 ≤ S → S ≤ allF T → (0 < S ∨ ¬ E = 0) → M 134 S = cst S) {K : Nat} (hK : K ≤ 4) (h : ∀ M', (∀ c, c ≠ 135 → M' c = M c) → (∀ n : Nat, n ≤ K → mvOK L cst (allF T) n M') → Q 0 M') : es_Call (d + 2) 268 [.inr (.inr 91), .inl (K : Nat), .inl L, .inl E] M Q := by
  have ha := hT.all
  have NN : allF T < 1024 := by omega
  have al : ∀ (X : es_M) (Q' : Int → es_M → Prop), (∀ c, c ≠ 135 → X c = M c) → Q' (allF T) X → es_Call (d + 1) 225 [.inr (.inr 91)] X Q' := fun X Q' e q => s_m_all hT (rep135 hR e) q
  generalize allF T = N at *
  apply m_Model_shares
  intro G hG
  apply k_Model_shares_0 hG
  -- levels
  have L1 : ∀ (m : Nat) (n : Nat) (M' : es_M), n + m = K + 1 → 1 ≤ n → (∀ c, c ≠ 135 → M' c = M c) → (∀ i : Nat, i < n → mvOK L cst N i M') → G 40 [lr 91, li (K : Nat), li L, li E, li (n : Nat), none, none, none] [] M' := by
    intro m
    induction m with
    | zero =>
      intro n M' nm n1 f1 f2
      apply k_Model_shares_40 hG
      exact ⟨fun _ => h M' f1 (fun i hi => f2 i (by omega)), fun z => absurd (by omega) z⟩
    | succ m ih =>
      intro n M' nm n1 f1 f2
      obtain ⟨p, rfl⟩ : ∃ p, n = p + 1 := ⟨n - 1, by omega⟩
      have wn : w32 (((p + 1 : Nat) : Int) + 1) = ((p + 1 + 1 : Nat) : Int) := by rw [w32_1 (by omega) (by omega)]; omega
      have wp : w32 (((p + 1 : Nat) : Int) - 1) = (p : Int) := by rw [w32_s (by omega) (by omega)]; omega
      apply k_Model_shares_40 hG
      refine ⟨fun z => absurd z (by omega), fun _ => ?_⟩
      refine es_up (P := fun S => ∀ X : es_M, (∀ c, c ≠ 135 → X c = M c) → (∀ i : Nat, i < p + 1 → mvOK L cst N i X) → (∀ U, 0 ≤ U → U < S → U ≤ N → X 135 (((p + 1 : Nat) : Int) * 1024 + U) = mlv L cst (p + 1) U) → G 49 [lr 91, li (K : Nat), li L, li E, li ((p + 1 : Nat) : Int), li S, none, none] [] X) (n := N + 1) (by omega) ?_ ?_ M' f1 f2 (fun U a b => absurd b (by omega))
      · intro X g1 g2 g3
        apply k_Model_shares_49 hG
        rw [wn]
        refine al X _ g1 ⟨fun _ => ih (p + 1 + 1) X (by omega) (by omega) g1 (fun i hi => ?_), fun z => absurd (by omega) z⟩
        by_cases q : i = p + 1
        · subst q
          intro S S0 S1
          exact g3 S S0 (by omega) S1
        · exact g2 i (by omega)
      · intro S S0 S1 ih2 X g1 g2 g3
        apply k_Model_shares_49 hG
        refine al X _ g1 ⟨fun z => absurd z (by omega), fun _ => ?_⟩
        have SN : S ≤ N := by omega
        have S31 : S < 2147483648 := by omega
        obtain ⟨x1, x2, -⟩ := num3 (n := p + 1) (z := S) (S := S) (N := N) (by omega) SN NN ⟨S0, Int.le_refl _⟩
        have wS : w32 (S + 1) = S + 1 := w32_1 (by omega) (by omega)
        have hw' : ∀ o, 0 ≤ o → o ≤ N → (0 < o ∨ ¬ E = 0) → X 134 o = cst o := fun o a b c => by rw [g1 134 (by decide)]; exact hw o a b c
        -- down from S
        have dn : ∀ (t : Nat) (o v : Int), o + 1 = t → o ≤ S → (0 ≤ v ∧ v ≤ 1000000) → (∀ q, 0 ≤ q → sub q S → o < q → (0 < q ∨ ¬ E = 0) → v ≤ jnF L (cst q) (mlv L cst p (dfS S q))) → (v = 1000000 ∨ ∃ q, 0 ≤ q ∧ sub q S ∧ (0 < q ∨ ¬ E = 0) ∧ v = jnF L (cst q) (mlv L cst p (dfS S q))) → G 67 [lr 91, li (K : Nat), li L, li E, li ((p + 1 : Nat) : Int), li S, li v, li o] [] X := by
          intro t
          induction t with
          | zero =>
            intro o v ho _ v1 lo ex
            have ev := mlv_eq (n := p) hc hE S0 SN v1.2 (fun q q0 q1 q2 => lo q q0 q1 (by omega) q2) ex
            apply k_Model_shares_67 hG
            rw [x1, wS]
            refine ⟨fun _ => ⟨x2, ih2 _ (fun c hc' => by rw [es_upd_o c hc']; exact g1 c hc') (fun i hi U U0 U1 => ?_) (fun U U0 U1 U2 => ?_)⟩, fun z => absurd (by omega) z⟩
            · rw [es_upd_j (by clear ev ex x1; omega)]; exact g2 i hi U U0 U1
            · rw [es_upd_c]
              by_cases q : U = S
              · rw [if_pos (by rw [q]), q, ev]
              · rw [if_neg (by clear ev ex x1; omega)]; exact g3 U U0 (by clear ev ex x1; omega) U2
          | succ t iht =>
            intro o v ho o1 v1 lo ex
            have o0 : 0 ≤ o := by omega
            have o31 : o < 2147483648 := by omega
            have oN : o ≤ N := by omega
            have o1024 : 0 ≤ o ∧ o < 1024 := by omega
            have nlt : ¬ o < 0 := by omega
            have wo : w32 (o + -1) = o - 1 := by rw [show o + -1 = o - 1 by omega]; exact w32_m (by omega) (by omega)
            have ho' : o - 1 + 1 = (t : Int) := by omega
            have o1' : o - 1 ≤ S := by omega
            have p4 : p ≤ 4 := by omega
            have sd := sub_dif (a := o) (b := S) o0 o31 S0 S31
            have stp1 : ∀ q, o - 1 < q → q = o ∨ o < q := fun q hq => by clear ex; omega
            have skip : (sub o S → ¬ (0 < o ∨ ¬ E = 0)) → G 67 [lr 91, li (K : Nat), li L, li E, li ((p + 1 : Nat) : Int), li S, li v, li (o - 1)] [] X := fun no => iht (o - 1) v ho' o1' v1 (fun q q0 q1 q2 q3 => by
              rcases stp1 q q2 with e | e
              · rw [e] at q1 q3; exact absurd q3 (no q1)
              · exact lo q q0 q1 e q3) ex
            have dr := dfS_r S0 o
            obtain ⟨y1, y2, dN⟩ := num3 (n := p) (z := dfS S o) (S := S) (N := N) p4 SN NN dr
            have take : sub o S → (0 < o ∨ ¬ E = 0) → es_Call (d + 1) 269 [.inr (.inr 91), .inl (X 134 o), .inl (X 135 ((p : Int) * 1024 + dfS S o)), .inl L] X (fun y2 M1 => G 67 [lr 91, li (K : Nat), li L, li E, li ((p + 1 : Nat) : Int), li S, li (min v y2), li (o - 1)] [] M1) := fun so ao => by
              rw [hw' o o0 oN ao, g2 p (Nat.lt_succ_self p) _ dr.1 dN]
              have mr := mlv_r (L := L) hc p _ dr.1 dN
              have jr := jn_r (L := L) (hc o o0 oN) mr
              refine s_m_joined (hc o o0 oN) mr (iht (o - 1) _ ho' o1' ⟨Int.le_min.mpr ⟨v1.1, jr.1⟩, Int.le_trans (Int.min_le_left _ _) v1.2⟩ (fun q q0 q1 q2 q3 => ?_) ?_)
              · rcases stp1 q q2 with e | e
                · rw [e]; exact Int.min_le_right _ _
                · exact Int.le_trans (Int.min_le_left _ _) (lo q q0 q1 e q3)
              · rcases Int.le_total v (jnF L (cst o) (mlv L cst p (dfS S o))) with q | q
                · rw [Int.min_eq_left q]; exact ex
                · exact Or.inr ⟨o, o0, so, ao, Int.min_eq_right q⟩
            have ed : es_and S (es_xor o (-1)) = dfS S o := ei_dif S0 S31 o0 o31
            apply k_Model_shares_67 hG
            rw [ed, wp, y1, wo]
            refine ⟨fun z => absurd z nlt, fun _ => ⟨fun z => skip (fun w => absurd (sd.mpr w) z), fun z => ⟨fun w => ⟨o1024, y2, take (sd.mp z) (Or.inl w)⟩, fun w => ⟨fun e => skip (fun _ a => a.elim w (fun b => b e)), fun e => ⟨o1024, y2, take (sd.mp z) (Or.inr e)⟩⟩⟩⟩⟩
        exact dn (S + 1).toNat S 1000000 (by omega) (Int.le_refl _) (by decide) (fun q q0 q1 q2 => by have := sub_le q0 q1; exact absurd q2 (by omega)) (Or.inl rfl)
  -- the first level
  refine es_up (P := fun S => ∀ X : es_M, (∀ c, c ≠ 135 → X c = M c) → (∀ U, 0 ≤ U → U < S → U ≤ N → X 135 U = if U = 0 then 0 else 1000000) → G 3 [lr 91, li (K : Nat), li L, li E, li S, none, none, none] [] X) (n := N + 1) (by omega) ?_ ?_ M (fun _ _ => rfl) (fun U a b => absurd b (by omega))
  · intro X g1 g2
    apply k_Model_shares_3 hG
    refine al X _ g1 ⟨fun _ => L1 K 1 X (by omega) (by decide) g1 (fun i hi S S0 S1 => ?_), fun z => absurd (by omega) z⟩
    have : i = 0 := by omega
    subst this
    rw [show ((0 : Nat) : Int) * 1024 + S = S by omega]
    exact g2 S S0 (by omega) S1
  · intro S S0 S1 ih X g1 g2
    have fin : ∀ v, v = (if S = 0 then (0 : Int) else 1000000) → ((0 ≤ S ∧ S < 5120) ∧ G 3 [lr 91, li (K : Nat), li L, li E, li (S + 1), none, none, none] [] (es_upd X 135 S v)) := fun v hv => ⟨by omega, ih _ (fun c hc' => by rw [es_upd_o c hc']; exact g1 c hc') (fun U U0 U1 U2 => by
      rw [es_upd_c]
      by_cases q : U = S
      · rw [if_pos q, q, hv]
      · rw [if_neg q]; exact g2 U U0 (by omega) U2)⟩
    apply k_Model_shares_3 hG
    rw [w32_1 (by omega) (by omega)]
    exact al X _ g1 ⟨fun z => absurd z (by omega), fun _ => ⟨fun z => fin _ (by rw [if_neg z]), fun z => fin _ (by rw [if_pos z])⟩⟩
end
