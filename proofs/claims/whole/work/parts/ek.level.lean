/-! LEVEL (11): the model pushes -/
def ofP (M M' : es_M) : Prop := ∀ c : Nat, ¬ (114 ≤ c ∧ c ≤ 117) → M' c = M c
def leF (o : Int → Int) : Int := sm (fun x => max 0 (o x)) 12
section
variable {d : Nat} {Q : Int → es_M → Prop} {T M : es_M}
theorem ofP.rep (hR : RepM T M) {M' : es_M} (h : ofP M M') : RepM T M' := by
  intro c j q
  have h1 : ¬ (114 ≤ c ∧ c ≤ 117) := fun z => by
    rcases (show c = 114 ∨ c = 115 ∨ c = 116 ∨ c = 117 by omega) with rfl | rfl | rfl | rfl
    · have : persM 114 j = false := rfl
      rw [this] at q; cases q
    · have : persM 115 j = false := rfl
      rw [this] at q; cases q
    · have : persM 116 j = false := rfl
      rw [this] at q; cases q
    · have : persM 117 j = false := rfl
      rw [this] at q; cases q
  rw [h c h1]; exact hR c j q
/-- a flow with its prices, and what is still over -/
def OVs (T : es_M) (B o f : Int → Int) : Prop := fok (2 * T 1 0).toNat (goes T) f ∧ (∃ pi, prc (2 * T 1 0).toNat (og T) (gl T) (ln T) (goes T) f pi) ∧ ∀ x, 0 ≤ x → x < 12 → o x = B x + dvF (2 * T 1 0).toNat (og T) (gl T) f x
theorem s_m_pushes (hT : TI T) (hR : RepM T M) {B : Int → Int} (hf : OVs T B (M 114) (M 115)) (bd : ∀ p, 0 ≤ p → p < 36 → 0 ≤ M 115 p ∧ M 115 p ≤ 1000) (bo : ∀ x, 0 ≤ x → x < 12 → -1000 ≤ M 114 x ∧ M 114 x ≤ 1000) {y : Int} (y0 : 0 ≤ y) (y1 : y < 12) (hy : 0 < M 114 y)
    (kb : ∀ M', ofP M M' → noF T B → Q 1000000 M')
    (kg : ∀ v M', ofP M M' → OVs T B (M' 114) (M' 115) → coF (2 * T 1 0).toNat (ln T) (M' 115) = coF (2 * T 1 0).toNat (ln T) (M 115) + v → (-85536 ≤ v ∧ v ≤ 85536) → (∀ p, 0 ≤ p → p < 36 → 0 ≤ M' 115 p ∧ M' 115 p ≤ M 115 p + 12) → (∀ x, 0 ≤ x → x < 12 → M 114 x - 1 ≤ M' 114 x ∧ M' 114 x ≤ M 114 x + 1) → leF (M' 114) = leF (M 114) - 1 → Q v M') : es_Call (d + 3) 222 [.inr (.inr 91)] M Q := by
  have hn := hT.n
  have H := hT.gr
  obtain ⟨f1, ⟨pi, f2⟩, f3⟩ := hf
  apply m_Model_pushes
  intro G hG
  apply k_Model_pushes_0 hG
  refine s_m_spreads hT hR f2 (fun M1 tau o8 fx bi => ?_)
  have e114 : M1 114 = M 114 := o8 114 (by decide) (by decide)
  have e115 : M1 115 = M 115 := o8 115 (by decide) (by decide)
  have TR := TRs.of bi fx
  have fd := fx.fix H (by decide) bi
  obtain ⟨pi', p1, p2⟩ := f2.new f1 fd
  have oP1 : ofP M M1 := fun c hc => o8 c (by omega) (by omega)
  refine es_up (P := fun k => ∀ b : Int, ((b = -1 ∧ ∀ x, 0 ≤ x → x < k → ¬ (M 114 x < 0 ∧ M1 116 x < 1000000)) ∨ ((0 ≤ b ∧ b < 12) ∧ M 114 b < 0 ∧ M1 116 b < 1000000)) → G 8 [lr 91, li b, li k, none, none, none] [] M1) (n := 12) (by decide) ?_ ?_ (-1) (Or.inl ⟨rfl, fun x x0 x1 => by omega⟩)
  · intro b hb
    apply k_Model_pushes_8 hG
    refine ⟨fun _ => ⟨fun b0 => ?_, fun b0 => ?_⟩, fun z => absurd (by decide) z⟩
    · rcases hb with ⟨hb, -⟩ | ⟨b12, bn, bf⟩
      · omega
      refine ⟨b12, b12, b12, ?_⟩
      rw [e114]
      have bob := bo b b12.1 b12.2
      rw [w32_1 (by omega) (by omega)]
      have vb : -85536 ≤ M1 116 b ∧ M1 116 b ≤ 85536 := by
        rcases (bi b b12.1 b12.2).2.2 with q | ⟨q1, q2, -⟩
        · omega
        · omega
      have key : ∀ (m : Nat) (c : Int) (M6 : es_M), AGs (2 * T 1 0).toNat (og T) (gl T) (ln T) (goes T) (M 115) (M1 116) (M1 117) tau pi' b (M6 115) c → ctF tau (tau c) ≤ m → m ≤ 11 → (∀ c : Nat, c ≠ 114 → c ≠ 115 → M6 c = M1 c) → (∀ x, M6 114 x = if x = b then M 114 b + 1 else M 114 x) → (∀ p, 0 ≤ p → p < 36 → 0 ≤ M6 115 p ∧ M6 115 p ≤ M 115 p + (11 - m)) → G 93 [lr 91, none, li (M1 116 b), li c, none, none] [] M6 := by
        intro m
        induction m with
        | zero =>
          intro c M6 ag hm m11 g1 g2 g3
          have c12 := ag.2.2.2.2.2.2
          apply k_Model_pushes_93 hG
          have e117 : M6 117 = M1 117 := g1 117 (by decide) (by decide)
          rw [e117]
          rcases TR c c12.1 c12.2 ag.2.2.2.2.2.1 with ⟨q1, q2, q3⟩ | ⟨q1, -, -, -, -, q6⟩
          · refine ⟨c12, fun _ => ⟨c12, c12, ?_⟩, fun z => absurd (by omega) z⟩
            have cb : c ≠ b := fun e => by rw [e] at q2; omega
            have e6 : M6 114 c = M 114 c := by rw [g2, if_neg cb]
            have boc := bo c c12.1 c12.2
            rw [e6, w32_s (by omega) (by omega)]
            obtain ⟨a1, a2, -, a4, a5, -, -⟩ := ag
            have w : ∀ x, es_upd M6 114 c (M 114 c - 1) 114 x = if x = c then M 114 c - 1 else if x = b then M 114 b + 1 else M 114 x := fun x => by rw [es_upd_c, g2]
            refine kg _ _ (fun c' hc => by rw [es_upd_o c' (by omega), g1 c' (by omega) (by omega)]; exact oP1 c' hc) ⟨by rw [es_upd_o 115 (by decide)]; exact a1, ⟨pi', by rw [es_upd_o 115 (by decide)]; exact a2⟩, fun x x0 x1 => ?_⟩ (by rw [es_upd_o 115 (by decide), a5, q3]; omega) vb (fun p p0 p1 => by rw [es_upd_o 115 (by decide)]; have := g3 p p0 p1; omega) (fun x x0 x1 => ?_) ?_
            · rw [w, es_upd_o 115 (by decide), a4 x]
              have := f3 x x0 x1
              unfold dlt
              by_cases z1 : x = c
              · rw [if_pos z1, if_neg (show ¬ b = x by omega), if_pos z1.symm, ← z1]; omega
              · rw [if_neg z1, if_neg (show ¬ c = x by omega)]
                by_cases z2 : x = b
                · rw [if_pos z2, if_pos z2.symm, ← z2]; omega
                · rw [if_neg z2, if_neg (show ¬ b = x by omega)]; omega
            · rw [w]
              split
              · rename_i z; rw [z]; omega
              · split
                · rename_i z; rw [z]; omega
                · omega
            · unfold leF
              have t1 := sm_upd (h := fun x => max 0 (if x = b then M 114 b + 1 else M 114 x)) (h' := fun x => max 0 (es_upd M6 114 c (M 114 c - 1) 114 x)) c12.1 (fun i hi => by rw [w, if_neg hi]) 12 c12.2
              have t2 := sm_upd (h := fun x => max 0 (M 114 x)) (h' := fun x => max 0 (if x = b then M 114 b + 1 else M 114 x)) b12.1 (fun i hi => by rw [if_neg hi]) 12 b12.2
              rw [w, if_pos rfl, if_neg cb] at t1
              rw [if_pos rfl] at t2
              rw [t1, t2]
              omega
          · exfalso
            have ar := arc_r H q1.1 q1.2
            have := ct_lt ar.1.1 ar.1.2 q6
            have := ct_r tau (tau (afr (og T) (gl T) (M1 117 c)))
            omega
        | succ m ih =>
          intro c M6 ag hm m11 g1 g2 g3
          have c12 := ag.2.2.2.2.2.2
          have e117 : M6 117 = M1 117 := g1 117 (by decide) (by decide)
          rcases TR c c12.1 c12.2 ag.2.2.2.2.2.1 with ⟨q1, q2, q3⟩ | ⟨q1, q2, q3, q4, q5, q6⟩
          · have := ih c M6 ag
            -- a source: as above
            apply k_Model_pushes_93 hG
            rw [e117]
            refine ⟨c12, fun _ => ⟨c12, c12, ?_⟩, fun z => absurd (by omega) z⟩
            have cb : c ≠ b := fun e => by rw [e] at q2; omega
            have e6 : M6 114 c = M 114 c := by rw [g2, if_neg cb]
            have boc := bo c c12.1 c12.2
            rw [e6, w32_s (by omega) (by omega)]
            obtain ⟨a1, a2, -, a4, a5, -, -⟩ := ag
            have w : ∀ x, es_upd M6 114 c (M 114 c - 1) 114 x = if x = c then M 114 c - 1 else if x = b then M 114 b + 1 else M 114 x := fun x => by rw [es_upd_c, g2]
            refine kg _ _ (fun c' hc => by rw [es_upd_o c' (by omega), g1 c' (by omega) (by omega)]; exact oP1 c' hc) ⟨by rw [es_upd_o 115 (by decide)]; exact a1, ⟨pi', by rw [es_upd_o 115 (by decide)]; exact a2⟩, fun x x0 x1 => ?_⟩ (by rw [es_upd_o 115 (by decide), a5, q3]; omega) vb (fun p p0 p1 => by rw [es_upd_o 115 (by decide)]; have := g3 p p0 p1; omega) (fun x x0 x1 => ?_) ?_
            · rw [w, es_upd_o 115 (by decide), a4 x]
              have := f3 x x0 x1
              unfold dlt
              by_cases z1 : x = c
              · rw [if_pos z1, if_neg (show ¬ b = x by omega), if_pos z1.symm, ← z1]; omega
              · rw [if_neg z1, if_neg (show ¬ c = x by omega)]
                by_cases z2 : x = b
                · rw [if_pos z2, if_pos z2.symm, ← z2]; omega
                · rw [if_neg z2, if_neg (show ¬ b = x by omega)]; omega
            · rw [w]
              split
              · rename_i z; rw [z]; omega
              · split
                · rename_i z; rw [z]; omega
                · omega
            · unfold leF
              have t1 := sm_upd (h := fun x => max 0 (if x = b then M 114 b + 1 else M 114 x)) (h' := fun x => max 0 (es_upd M6 114 c (M 114 c - 1) 114 x)) c12.1 (fun i hi => by rw [w, if_neg hi]) 12 c12.2
              have t2 := sm_upd (h := fun x => max 0 (M 114 x)) (h' := fun x => max 0 (if x = b then M 114 b + 1 else M 114 x)) b12.1 (fun i hi => by rw [if_neg hi]) 12 b12.2
              rw [w, if_pos rfl, if_neg cb] at t1
              rw [if_pos rfl] at t2
              rw [t1, t2]
              omega
          · have ar := arc_r H q1.1 q1.2
            have lt := ct_lt ar.1.1 ar.1.2 q6
            have pr : 0 ≤ M1 117 c / 2 ∧ M1 117 c / 2 < 36 := by omega
            have pT : M1 117 c / 2 < 2 * T 1 0 := by omega
            have gb := g3 (M1 117 c / 2) pr.1 pr.2
            have bdp := bd (M1 117 c / 2) pr.1 pr.2
            have hR6 : RepM T M6 := ofP.rep hR (fun c hc => by rw [g1 c (by omega) (by omega)]; exact oP1 c hc)
            have go6 : ∀ M7 : es_M, (∀ j, M7 115 j = if j = M1 117 c / 2 then M6 115 (M1 117 c / 2) + (if M1 117 c % 2 = 0 then 1 else -1) else M6 115 j) → (∀ c' : Nat, c' ≠ 115 → M7 c' = M6 c') → G 93 [lr 91, none, li (M1 116 b), li (afr (og T) (gl T) (M1 117 c)), none, none] [] M7 := by
              intro M7 w1 w2
              obtain ⟨ag', -⟩ := ag.step H TR p2 (h' := M7 115) q1.1 (by rw [w1, if_pos rfl]) (fun p hp => by rw [w1, if_neg hp])
              refine ih _ M7 ag' (by omega) (by omega) (fun c' a1 a2 => by rw [w2 c' a2]; exact g1 c' a1 a2) (fun x => by rw [w2 114 (by decide)]; exact g2 x) (fun p p0 p1 => ?_)
              rw [w1]
              have := g3 p p0 p1
              have fz := ag'.1
              by_cases e : p = M1 117 c / 2
              · rw [if_pos e]
                have n0 := (fz (M1 117 c / 2) pr.1 (by omega)).1
                rw [w1, if_pos rfl] at n0
                rw [e]
                split
                · rename_i z0; rw [if_pos z0] at n0; omega
                · rename_i z0; rw [if_neg z0] at n0; omega
              · rw [if_neg e]; omega
            apply k_Model_pushes_93 hG
            rw [e117, ei_rem q1.1 (by omega) (by decide) (by decide), ei_div q1.1 (by omega) (by decide) (by decide), w32_s (k := M6 115 (M1 117 c / 2) + -1) (by omega) (by omega), w32_1 (k := M6 115 (M1 117 c / 2)) (by omega) (by omega)]
            refine ⟨c12, fun z => absurd z (by omega), fun _ => ⟨c12, by decide, c12, by decide, fun ev => ⟨pr, fun _ => ⟨pr, fun _ => s_m_ends hT (hR6.upd rfl) pr.1 pT ?_, fun z => absurd rfl z⟩, fun z => absurd rfl z⟩, fun ev => ⟨pr, fun z => absurd z (by decide), fun _ => ⟨pr, fun z => absurd z (by decide), fun _ => s_m_begins hT (hR6.upd rfl) pr.1 pT ?_⟩⟩⟩⟩
            · have ea : afr (og T) (gl T) (M1 117 c) = gl T (M1 117 c / 2) := by unfold afr; rw [if_neg ev]
              rw [← ea]
              exact go6 _ (fun j => by rw [es_upd_c, if_neg ev]) (fun c' hc => es_upd_o c' hc)
            · have ea : afr (og T) (gl T) (M1 117 c) = og T (M1 117 c / 2) := by unfold afr; rw [if_pos ev]
              rw [← ea]
              exact go6 _ (fun j => by rw [es_upd_c, if_pos ev]) (fun c' hc => es_upd_o c' hc)
      refine key 11 b _ (by rw [es_upd_o 115 (by decide), e115]; exact AGs.start TR f1 p1 b12.1 b12.2 bf) (ct_11 b12.1 b12.2) (Nat.le_refl _) (fun c a1 a2 => es_upd_o c a1) (fun x => by rw [es_upd_c, e114]) (fun p p0 p1 => ?_)
      rw [es_upd_o 115 (by decide), e115]
      have := bd p p0 p1; omega
    · rcases hb with ⟨-, hb⟩ | ⟨b12, -, -⟩
      · refine kb M1 oP1 (fun f' q1 q2 => ?_)
        refine fl_none H f1 fd (B := B) (fun x x0 x1 hx => ?_) (fun x x0 x1 hx => ?_) y0 y1 (by rw [← f3 y y0 y1]; exact hy) q1 q2
        · have := (bi x x0 x1).2.1 (by show 0 < M 114 x; rw [f3 x x0 x1]; exact hx); omega
        · rw [← f3 x x0 x1]
          by_cases z : M 114 x < 0
          · exact absurd ⟨z, hx⟩ (hb x x0 x1)
          · omega
      · omega
  · intro k k0 k1 ih b hb
    apply k_Model_pushes_8 hG
    rw [e114, w32_1 (k := k) (by omega) (by omega)]
    have keep : (¬ (M 114 k < 0 ∧ M1 116 k < 1000000) ∨ 0 ≤ b) → G 8 [lr 91, li b, li (k + 1), none, none, none] [] M1 := by
      intro z
      refine ih b ?_
      rcases hb with ⟨h1, h2⟩ | h
      · refine Or.inl ⟨h1, fun x x0 x1 => ?_⟩
        by_cases e : x = k
        · rw [e]; exact z.resolve_right (by omega)
        · exact h2 x x0 (by omega)
      · exact Or.inr h
    refine ⟨fun z => absurd z (by omega), fun _ => ⟨⟨k0, k1⟩, fun z => keep (Or.inl (by omega)), fun z => ⟨⟨k0, k1⟩, fun z1 => keep (Or.inl (by omega)), fun z1 => ?_⟩⟩⟩
    have take := ih k (Or.inr ⟨⟨k0, k1⟩, by omega, by omega⟩)
    refine ⟨fun _ => take, fun z2 => ?_⟩
    rcases hb with ⟨h1, h2⟩ | ⟨h, -⟩
    · omega
    · exact ⟨⟨k0, k1⟩, h, fun _ => keep (Or.inr h.1), fun _ => take⟩
end
