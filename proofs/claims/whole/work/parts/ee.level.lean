/-! LEVEL (5): the class comes back -/
section
variable {d : Nat} {Q : Int → es_M → Prop} {T M : es_M}
/-- a flow with its prices that balances B -/
def OPF (T : es_M) (B f : Int → Int) : Prop := fok (2 * T 1 0).toNat (goes T) f ∧ (∃ pi, prc (2 * T 1 0).toNat (og T) (gl T) (ln T) (goes T) f pi) ∧ ∀ x, 0 ≤ x → x < 12 → B x + dvF (2 * T 1 0).toNat (og T) (gl T) f x = 0
def noF (T : es_M) (B : Int → Int) : Prop := ∀ f, fok (2 * T 1 0).toNat (goes T) f → (∀ x, 0 ≤ x → x < 12 → B x + dvF (2 * T 1 0).toNat (og T) (gl T) f x = 0) → False
def addB (T : es_M) (B : Int → Int) (P : Int) (x : Int) : Int := B x + (dlt (gl T P) x - dlt (og T P) x)
/-- only the row of passes from bs on, and what the search writes -/
def off9 (bs : Int) (M M' : es_M) : Prop := (∀ c : Nat, c ≠ 80 → c ≠ 81 → c ≠ 82 → M' c = M c) ∧ ∀ j, (j < bs ∨ bs + 36 ≤ j) → M' 80 j = M 80 j
theorem off8.o9 {bs : Int} {M' : es_M} (h : off8 M M') : off9 bs M M' := ⟨fun c _ a b => h c a b, fun j _ => by rw [h 80 (by decide) (by decide)]⟩
theorem off9.rep {bs : Int} {M' : es_M} (hR : RepC T M) (h : off9 bs M M') : RepC T M' := by
  intro c j q
  have h0 : c ≠ 80 := fun z => by subst z; have : persC 80 j = false := rfl; rw [this] at q; cases q
  have h1 : c ≠ 81 := fun z => by subst z; have : persC 81 j = false := rfl; rw [this] at q; cases q
  have h2 : c ≠ 82 := fun z => by subst z; have : persC 82 j = false := rfl; rw [this] at q; cases q
  rw [h.1 c h0 h1 h2]; exact hR c j q
theorem s_comeBack (hT : TI T) (hR : RepC T M) {P bs : Int} {B : Int → Int} (hP : isP T P) (b0 : 0 ≤ bs) (b1 : bs + 36 ≤ 396) (hf : OPF T B (fun p => M 80 (bs + p))) (bd : ∀ p, 0 ≤ p → p < 36 → 0 ≤ M 80 (bs + p) ∧ M 80 (bs + p) ≤ 1000)
    (kb : ∀ M', off9 bs M M' → noF T (addB T B P) → Q 1000000 M')
    (kg : ∀ v M', off9 bs M M' → OPF T (addB T B P) (fun p => M' 80 (bs + p)) → coF (2 * T 1 0).toNat (ln T) (fun p => M' 80 (bs + p)) = coF (2 * T 1 0).toNat (ln T) (fun p => M 80 (bs + p)) + v → (-100000 ≤ v ∧ v ≤ 100000) → (∀ p, 0 ≤ p → p < 36 → 0 ≤ M' 80 (bs + p) ∧ M' 80 (bs + p) ≤ M 80 (bs + p) + 12) → Q v M') : es_Call (d + 4) 145 [.inr (.inr 79), .inl P, .inl bs] M Q := by
  have hn := hT.n
  have H := hT.gr
  obtain ⟨oo, gg, og_gl, -, -⟩ := hT.ps hP.1 hP.2
  have hP36 : 0 ≤ P ∧ P < 36 := ⟨hP.1, by have := hP.2; omega⟩
  obtain ⟨f1, ⟨pi, f2⟩, f3⟩ := hf
  apply m_Level_comeBack
  intro G hG
  apply k_Level_comeBack_0 hG
  refine s_goal hR hP36.1 hP36.2 (s_origin hR hP36.1 hP36.2 (s_search hT hR gg.1 gg.2 b0 b1 (f := fun p => M 80 (bs + p)) (fun p _ _ => rfl) f2 (fun M5 b tau o8 fx bi cb => ⟨oo, fun z => ?_, fun z => ?_⟩)))
  · have TR := TRs.of bi fx
    have one := TR.one H (s := gl T P) (fun x hx => hx) 12 (og T P) oo.1 oo.2 z (by have := ct_11 (tau := tau) oo.1 oo.2; omega)
    obtain ⟨pi', p1, p2⟩ := f2.new f1 (fx.fix H (by decide) bi)
    have vb : -100000 ≤ M5 81 (og T P) ∧ M5 81 (og T P) ≤ 100000 := by
      rcases (bi (og T P) oo.1 oo.2).2.2 with q | ⟨q1, q2, -⟩
      · omega
      · omega
    have key : ∀ (m : Nat) (c i : Int) (M6 : es_M), AGs (2 * T 1 0).toNat (og T) (gl T) (ln T) (goes T) (fun p => M 80 (bs + p)) (M5 81) b tau pi' (og T P) (fun p => M6 80 (bs + p)) c → ctF tau (tau c) ≤ m → 0 ≤ i → i + m ≤ 11 → (∀ c : Nat, c ≠ 80 → M6 c = M5 c) → (∀ j, (j < bs ∨ bs + 36 ≤ j) → M6 80 j = M 80 j) → (∀ p, 0 ≤ p → p < 36 → 0 ≤ M6 80 (bs + p) ∧ M6 80 (bs + p) ≤ M 80 (bs + p) + i) → G 47 [lr 79, none, li bs, li (gl T P), li c, li (M5 81 (og T P)), li i, none] [] M6 := by
      intro m
      induction m with
      | zero =>
        intro c i M6 ag hm i0 im g1 g2 g3
        apply k_Level_comeBack_47 hG
        refine ⟨fun y => absurd y (by omega), fun _ => ⟨fun y => ?_, fun y => ?_⟩⟩
        · subst y
          obtain ⟨a1, a2, -, a4, a5, -, -⟩ := ag
          refine kg _ M6 ⟨fun c c0 c1 c2 => by rw [g1 c c0]; exact o8 c c1 c2, g2⟩ ⟨a1, ⟨pi', a2⟩, fun x x0 x1 => ?_⟩ (by rw [a5, one.2.1]; omega) vb (fun p p0 p1 => by have := g3 p p0 p1; omega)
          rw [a4 x]; unfold addB; have := f3 x x0 x1; omega
        · exfalso
          rcases TR c ag.2.2.2.2.2.2.1 ag.2.2.2.2.2.2.2 ag.2.2.2.2.2.1 with ⟨-, q, -⟩ | ⟨q1, -, -, -, -, q6⟩
          · exact y q
          · have ar := arc_r H q1.1 q1.2
            have := ct_lt ar.1.1 ar.1.2 q6
            have := ct_r tau (tau (afr (og T) (gl T) (b c)))
            omega
      | succ m ih =>
        intro c i M6 ag hm i0 im g1 g2 g3
        apply k_Level_comeBack_47 hG
        have c12 := ag.2.2.2.2.2.2
        refine ⟨fun y => absurd y (by omega), fun _ => ⟨fun y => ?_, fun y => ⟨c12, ?_⟩⟩⟩
        · subst y
          obtain ⟨a1, a2, -, a4, a5, -, -⟩ := ag
          refine kg _ M6 ⟨fun c c0 c1 c2 => by rw [g1 c c0]; exact o8 c c1 c2, g2⟩ ⟨a1, ⟨pi', a2⟩, fun x x0 x1 => ?_⟩ (by rw [a5, one.2.1]; omega) vb (fun p p0 p1 => by have := g3 p p0 p1; omega)
          rw [a4 x]; unfold addB; have := f3 x x0 x1; omega
        · rcases TR c c12.1 c12.2 ag.2.2.2.2.2.1 with ⟨-, q, -⟩ | ⟨q1, q2, q3, q4, q5, q6⟩
          · exact absurd q y
          · have ar := arc_r H q1.1 q1.2
            have lt := ct_lt ar.1.1 ar.1.2 q6
            have e82 : M6 82 c = ckF (b c) := by rw [g1 82 (by decide)]; exact cb c c12.1 c12.2 q1.1
            have hR6 : RepC T M6 := off9.rep (bs := bs) hR ⟨fun c c0 c1 c2 => by rw [g1 c c0]; exact o8 c c1 c2, g2⟩
            have pr : 0 ≤ b c / 2 ∧ b c / 2 < 36 := by omega
            have gb := g3 (b c / 2) pr.1 pr.2
            have bdp := bd (b c / 2) pr.1 pr.2
            have go6 : ∀ M7 : es_M, (∀ j, M7 80 j = if j = bs + b c / 2 then M6 80 (bs + b c / 2) + (if b c % 2 = 0 then 1 else -1) else M6 80 j) → (∀ c' : Nat, c' ≠ 80 → M7 c' = M6 c') → G 47 [lr 79, none, li bs, li (gl T P), li (afr (og T) (gl T) (b c)), li (M5 81 (og T P)), li (i + 1), none] [] M7 := by
              intro M7 w1 w2
              obtain ⟨ag', -⟩ := ag.step H TR p2 (h' := fun p => M7 80 (bs + p)) q1.1 (by show M7 80 (bs + b c / 2) = _; rw [w1, if_pos rfl]) (fun p hp => by show M7 80 (bs + p) = M6 80 (bs + p); rw [w1, if_neg (by omega)])
              refine ih _ (i + 1) M7 ag' (by omega) (by omega) (by omega) (fun c' hc => by rw [w2 c' hc]; exact g1 c' hc) (fun j hj => by rw [w1, if_neg (by omega)]; exact g2 j hj) (fun p p0 p1 => ?_)
              rw [w1]
              have := g3 p p0 p1
              have fz := ag'.1
              by_cases e : bs + p = bs + b c / 2
              · rw [if_pos e]
                have ep : p = b c / 2 := by omega
                have n0 := (fz (b c / 2) pr.1 (by omega)).1
                simp only at n0
                rw [w1, if_pos rfl] at n0
                rw [ep]
                split
                · rename_i z0; rw [if_pos z0] at n0; omega
                · rename_i z0; rw [if_neg z0] at n0; omega
              · rw [if_neg e]; omega
            rw [e82]
            unfold ckF
            by_cases ev : b c % 2 = 0
            · rw [if_pos ev]
              refine ⟨fun z2 => absurd z2 (by omega), fun _ => ?_⟩
              rw [w32_s (k := bs + b c / 2) (by omega) (by omega), w32_1 (k := i) (by omega) (by omega), w32_1 (k := M6 80 (bs + b c / 2)) (by omega) (by omega)]
              refine ⟨by omega, by omega, s_origin (hR6.upd rfl) pr.1 pr.2 ?_⟩
              have ea : afr (og T) (gl T) (b c) = og T (b c / 2) := by unfold afr; rw [if_pos ev]
              rw [← ea]
              exact go6 _ (fun j => by rw [es_upd_c, if_pos ev]) (fun c' hc => es_upd_o c' hc)
            · rw [if_neg ev]
              refine ⟨fun _ => ?_, fun z2 => absurd (by omega) z2⟩
              rw [w32_s (k := bs + (b c / 2 + 36)) (by omega) (by omega), show bs + (b c / 2 + 36) - 36 = bs + b c / 2 by omega, w32_s (k := bs + b c / 2) (by omega) (by omega), show b c / 2 + 36 - 36 = b c / 2 by omega, w32_s (k := b c / 2) (by omega) (by omega), w32_1 (k := i) (by omega) (by omega), w32_s (k := M6 80 (bs + b c / 2) - 1) (by omega) (by omega)]
              refine ⟨by omega, by omega, s_goal (hR6.upd rfl) pr.1 pr.2 ?_⟩
              have ea : afr (og T) (gl T) (b c) = gl T (b c / 2) := by unfold afr; rw [if_neg ev]
              rw [← ea]
              exact go6 _ (fun j => by rw [es_upd_c, if_neg ev]; rfl) (fun c' hc => es_upd_o c' hc)
    have e80 : M5 80 = M 80 := o8 80 (by decide) (by decide)
    refine key 11 (og T P) 0 M5 (by rw [e80]; exact AGs.start TR f1 p1 oo.1 oo.2 z) (ct_11 oo.1 oo.2) (by omega) (by omega) (fun _ _ => rfl) (fun j _ => by rw [e80]) (fun p p0 p1 => ?_)
    rw [e80]
    have := bd p p0 p1; omega
  · refine kb M5 o8.o9 (fun f' q1 q2 => ?_)
    have dv : ∀ x, 0 ≤ x → x < 12 → addB T B P x + dvF (2 * T 1 0).toNat (og T) (gl T) (fun p => M 80 (bs + p)) x = dlt (gl T P) x - dlt (og T P) x := fun x x0 x1 => by unfold addB; have := f3 x x0 x1; omega
    have ds : M5 81 (gl T P) < 1000000 := by have := (bi (gl T P) gg.1 gg.2).2.1 rfl; omega
    refine fl_none H f1 (fx.fix H (by decide) bi) (B := addB T B P) (fun x x0 x1 hx => ?_) (fun x x0 x1 hx => ?_) gg.1 gg.2 ?_ q1 q2
    · rw [dv x x0 x1] at hx
      unfold dlt at hx
      by_cases e : gl T P = x
      · rw [← e]; exact ds
      · rw [if_neg e] at hx; split at hx <;> omega
    · rw [dv x x0 x1]
      unfold dlt
      by_cases e : og T P = x
      · rw [← e] at hx; exact absurd hx z
      · rw [if_neg e]; split <;> omega
    · rw [dv _ gg.1 gg.2]
      unfold dlt
      rw [if_pos rfl, if_neg og_gl]; decide
end
