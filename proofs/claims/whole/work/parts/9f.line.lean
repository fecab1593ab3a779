/-! PAIRS OF CALLS: line (2). The model goes on, its marks set -/
def RepN (T M : es_M) : Prop := ∀ (c : Nat) (j : Int), persM c j = true → c ≠ 109 → M c j = T c j
theorem RepM.n {T M : es_M} (h : RepM T M) : RepN T M := fun c j q _ => h c j q
noncomputable def lnC (T : es_M) (s : Int) : Nat → Int → Int → Int
  | 0 => fun _ c => c
  | i + 1 => fun u c => lnC T s i (wth u (fhF T s u c / 2)) (gl T (poF T (fhF T s u c)))
section
variable {d : Nat} {Q : Int → es_M → Prop} {T M : es_M}
theorem s_m_streetBetween' (hT : TI T) (hR : RepN T M) {a b n : Int} (hn : n = T 1 0) (h : Q (joF T a b) M) : es_Call (d + 1) 183 [.inr (.inr 91), .inl a, .inl b, .inl n] M Q := by
  apply m_Model_streetBetween
  intro G hG
  apply k_Model_streetBetween_0 hG
  subst hn
  have hnn := hT.n
  have key : ∀ (k : Nat) (i : Int), 0 ≤ i → i + k = T 1 0 → (∀ s, 0 ≤ s → s < i → ¬ ((T 2 s = a ∧ T 3 s = b) ∨ (T 2 s = b ∧ T 3 s = a))) → G 3 [lr 91, li a, li b, li (T 1 0), li i] [] M := by
    intro k
    induction k with
    | zero =>
      intro i i0 ik hno
      apply k_Model_streetBetween_3 hG
      refine ⟨fun _ => ?_, fun z => absurd (by omega) z⟩
      by_cases q : joF T a b = -1
      · rw [q] at h; exact h
      · obtain ⟨-, -, a3, a4⟩ := joF_of hT q
        exact absurd a4 (hno _ a3.1 (by omega))
    | succ k ih =>
      intro i i0 ik hno
      apply k_Model_streetBetween_3 hG
      obtain ⟨-, -, -, -, -, a6, a7, -⟩ := hT.st (s := i) i0 (by omega)
      rw [hR 93 _ rfl (by decide), hR 94 _ rfl (by decide), a6, a7, show w32 (i + 1) = i + 1 from by unfold w32; omega]
      have next : ¬ ((T 2 i = a ∧ T 3 i = b) ∨ (T 2 i = b ∧ T 3 i = a)) → G 3 [lr 91, li a, li b, li (T 1 0), li (i + 1)] [] M := by
        intro hi
        refine ih (i + 1) (by omega) (by omega) (fun s s0 s1 => ?_)
        by_cases e : s = i
        · subst e; exact hi
        · exact hno s s0 (by omega)
      have found : ((T 2 i = a ∧ T 3 i = b) ∨ (T 2 i = b ∧ T 3 i = a)) → Q i M := by
        intro hi
        rw [joF_in hT i0 (by omega) hi] at h; exact h
      have hb : (0 ≤ i ∧ i < 36) := by omega
      refine ⟨fun z => absurd z (by omega), fun z => ⟨hb, fun p1 => ⟨hb, fun p2 => next (by omega), fun p2 => ⟨hb, fun p3 => next (by omega), fun p3 => found (by omega)⟩⟩, fun p1 => ⟨hb, fun p2 => found (by omega), fun p2 => ⟨hb, fun p3 => next (by omega), fun p3 => ⟨hb, fun p4 => next (by omega), fun p4 => found (by omega)⟩⟩⟩⟩⟩
  exact key (T 1 0).toNat 0 (by omega) (by omega) (fun s s0 s1 => by omega)
theorem s_m_passBetween' (hT : TI T) (hR : RepN T M) {a b : Int} (h : Q (pbF T a b) M) : es_Call (d + 2) 201 [.inr (.inr 91), .inl a, .inl b] M Q := by
  apply c_Model_passBetween
  have hn := hT.n
  rw [hR 91 3 rfl (by decide), hn.2.2]
  refine s_m_streetBetween' hT hR rfl ⟨fun q => ?_, fun q => ?_⟩
  · obtain ⟨a1, a2, a3, a4⟩ := joF_of hT (a := a) (b := b) (by omega)
    obtain ⟨e1, e2, e3, e4, e5⟩ := even2 (joF T a b)
    obtain ⟨-, -, -, b4, b5, b6, -, b8, b9, -⟩ := hT.st a3.1 a3.2
    rw [show w32 (w32 (2 * joF T a b) + 1) = 2 * joF T a b + 1 from by unfold w32; omega, show w32 (2 * joF T a b) = 2 * joF T a b from by unfold w32; omega, hR 93 _ rfl (by decide), hR 95 _ rfl (by decide), hR 95 _ rfl (by decide), b6, b8, b9]
    unfold pbF at h
    rw [if_neg (by omega)] at h
    have l0 : ln T (2 * joF T a b) = T 4 (joF T a b) := by unfold ln; rw [if_pos e1, e2]
    have l1 : ln T (2 * joF T a b + 1) = T 5 (joF T a b) := by unfold ln; rw [if_neg e3, e4]
    rw [l0, l1] at h
    refine ⟨by omega, fun w => ⟨by omega, fun v => ?_, fun v => ?_⟩, fun w => ⟨by omega, fun v => ?_, fun v => ?_⟩⟩
    · rw [if_neg w, if_pos (by omega)] at h; exact h
    · rw [if_neg w, if_neg (by omega)] at h; exact h
    · omega
    · rw [if_pos w, if_neg (by omega)] at h; exact h
  · unfold pbF at h
    by_cases z : joF T a b = -1
    · rw [if_pos z] at h; exact h
    · have := (joF_of hT z).2.2.1
      omega
theorem s_m_isDoneBy' (hT : TI T) (hR : RepN T M) {v p : Int} (v0 : 0 ≤ v) (v1 : v < T 1 1) (p0 : 0 ≤ p) (p1 : p < 72) (hy : isDone T v p → Q 1 M) (hn : ¬ isDone T v p → Q 0 M) : es_Call (d + 1) 202 [.inr (.inr 91), .inl v, .inl p] M Q := by
  apply c_Model_isDoneBy
  have hv := hT.v
  have hm := hT.mv v0 v1
  rw [ei_div p0 (by omega) (by decide) (by decide), ei_rem p0 (by omega) (by decide) (by decide), hR 106 _ rfl (by decide), hR 107 _ rfl (by decide), hm.1, hm.2, show w32 (p % 2 + 1) = p % 2 + 1 from by unfold w32; omega]
  refine ⟨by omega, by decide, fun z => ⟨es_b0, hn (fun w => z w.1)⟩, fun z => ⟨by omega, fun w => ⟨es_b1, hy ⟨z, Or.inl w⟩⟩, fun w => ⟨by omega, by decide, fun u => ⟨es_b0, hn (fun x => x.2.elim w u)⟩, fun u => ⟨es_b1, hy ⟨z, Or.inr u⟩⟩⟩⟩⟩
end
section
variable {d : Nat} {T : es_M}
abbrev offL (M M' : es_M) (n : Int) : Prop := (∀ c, c ≠ 110 → M' c = M c) ∧ ∀ j, j ≤ n → M' 110 j = M 110 j
theorem s_m_goesOn (hT : TI T) {s : Int} : ∀ (m : Nat) (n u c : Int) (M : es_M) (Q : Int → es_M → Prop), n + m = T 1 1 → 0 ≤ n → 0 ≤ u → u ≤ allF T → (pcN 18 u.toNat : Int) = n → (0 ≤ c ∧ c < 12) → RepN T M → (∀ v, 0 ≤ v → v < T 1 1 → (ebit u v → M 109 v = 1) ∧ (¬ ebit u v → M 109 v = 0)) → M 110 0 = s → M 110 n = c → (home T s u c → ∀ M', offL M M' n → (∀ i : Nat, i ≤ m → M' 110 (n + i) = lnC T s i u c) → Q 1 M') → (¬ home T s u c → ∀ M', offL M M' n → Q 0 M') → es_Call (d + m + 3) 200 [.inr (.inr 91), .inl n] M Q := by
  have hv := hT.v
  have hn' := hT.n
  intro m
  induction m with
  | zero =>
    intro n u c M Q nm n0 u0 u1 pcu c0 hR fl t0 tn hy hn
    have en : n = T 1 1 := by omega
    have eu : u = allF T := (pc_eq hT u0 u1).mpr (by rw [pcu, en])
    apply m_Model_goesOn
    intro G hG
    apply k_Model_goesOn_0 hG
    rw [hR 91 23 rfl (by decide), hv.2.2, tn, t0]
    refine ⟨by omega, fun z => absurd en z, fun _ => ⟨by decide, fun z => ⟨es_b0, hn (fun w => z ?_) M ⟨fun _ _ => rfl, fun _ _ => rfl⟩⟩, fun z => ⟨es_b1, hy ?_ M ⟨fun _ _ => rfl, fun _ _ => rfl⟩ (fun i hi => ?_)⟩⟩⟩
    · rw [eu, home_all hT] at w; exact w
    · rw [eu, home_all hT]; exact z
    · have : i = 0 := by omega
      subst this
      rw [show n + ((0 : Nat) : Int) = n by omega, tn]; rfl
  | succ m ih =>
    intro n u c M Q nm n0 u0 u1 pcu c0 hR fl t0 tn hy hn
    have ne : n ≠ T 1 1 := by omega
    have nu : u ≠ allF T := fun z => ne ((pc_eq hT u0 u1).mp z ▸ pcu.symm)
    have u2 : u < 1024 := by have := hT.all; omega
    have n12 : 0 ≤ n ∧ n < 12 := by omega
    have wn : w32 (n + 1) = n + 1 := w32_1 (by omega) (by omega)
    have hs := home_s (T := T) (s := s) (u := u) (c := c) nu
    apply m_Model_goesOn
    intro G hG
    apply k_Model_goesOn_0 hG
    rw [hR 91 23 rfl (by decide), hv.2.2, tn]
    refine ⟨n12, fun _ => ?_, fun z => absurd z ne⟩
    refine es_up (P := fun c' => ∀ M', offL M M' n → (∀ k, lead T s u k ∧ og T (poF T k) = c → c' ≤ gl T (poF T k)) → G 33 [lr 91, li n, li c, li c', none, none, none] [] M') (n := 12) (by decide) ?_ ?_ M ⟨fun _ _ => rfl, fun _ _ => rfl⟩ (fun k hk => by
      have kp := poF_r hT hk.1.1.1 hk.1.1.2
      exact (gl_r hT ⟨kp.1, kp.2.1⟩).1.1)
    · intro M' f1 f2
      apply k_Model_goesOn_33 hG
      refine ⟨fun _ => ⟨es_b0, hn (fun w => ?_) M' f1⟩, fun z => absurd (Int.le_refl _) z⟩
      obtain ⟨k, hk⟩ := hs.mp w
      have a := f2 k hk
      have kp := poF_r hT hk.1.1.1 hk.1.1.2
      have := (gl_r hT ⟨kp.1, kp.2.1⟩).1.2
      omega
    · intro c' c'0 c'1 ih1 M' f1 f2
      have rN : ∀ N : es_M, offL M N n → RepN T N := fun N e x j q w => by rw [e.1 x (by rintro rfl; cases q)]; exact hR x j q w
      apply k_Model_goesOn_33 hG
      refine ⟨fun z => absurd z (by omega), fun _ => s_m_passBetween' hT (rN M' f1) ?_⟩
      have w1 : w32 (c' + 1) = c' + 1 := w32_1 (by omega) (by omega)
      have next : ∀ N : es_M, offL M N n → (∀ k, lead T s u k ∧ og T (poF T k) = c → gl T (poF T k) ≠ c') → G 33 [lr 91, li n, li c, li (c' + 1), none, none, none] [] N := fun N e no => ih1 N e (fun k hk => by have := f2 k hk; have := no k hk; omega)
      -- a code that leads on to c' is the pass's own
      have own : ∀ k, lead T s u k ∧ og T (poF T k) = c → gl T (poF T k) = c' → poF T k = pbF T c c' ∧ T 13 (pbF T c c') = k / 2 := fun k hk e => by
        have a := lead_pb hT hk.1
        rw [hk.2, e] at a
        exact ⟨a.symm, by rw [a]; exact canDo_13 hk.1.2.1⟩
      refine es_up (P := fun v => ∀ N : es_M, offL M N n → (∀ k, lead T s u k ∧ og T (poF T k) = c → gl T (poF T k) = c' → v ≤ k / 2) → G 50 [lr 91, li n, li c, li c', li (pbF T c c'), li v, none] [] N) (n := T 1 1) hv.1 ?_ ?_ M' f1 (fun k hk _ => by have := hk.1.1.1; omega)
      · intro N e1 e2
        apply k_Model_goesOn_50 hG
        rw [(rN N e1) 91 23 rfl (by decide), hv.2.2, w1]
        refine ⟨fun _ => next N e1 (fun k hk e => ?_), fun z => absurd (Int.le_refl _) z⟩
        have := e2 k hk e
        have := hk.1.1.2
        omega
      · intro v v0 v1 ih2 N e1 e2
        have wv : w32 (v + 1) = v + 1 := w32_1 (by omega) (by omega)
        have v10 : 0 ≤ v ∧ v < 10 := by omega
        have fN : N 109 = M 109 := e1.1 109 (by decide)
        have fv := fl v v0 v1
        have skip : ∀ N' : es_M, offL M N' n → (∀ k, lead T s u k ∧ og T (poF T k) = c → gl T (poF T k) = c' → k / 2 ≠ v) → G 50 [lr 91, li n, li c, li c', li (pbF T c c'), li (v + 1), none] [] N' := fun N' e no => ih2 N' e (fun k hk w => by have := e2 k hk w; have := no k hk w; omega)
        apply k_Model_goesOn_50 hG
        rw [(rN N e1) 91 23 rfl (by decide), hv.2.2, w1, wv, wn, fN]
        refine ⟨fun z => absurd z (by omega), fun _ => ⟨fun z => next N e1 (fun k hk e => ?_), fun z => ⟨v10, fun y => skip N e1 (fun k hk e w => ?_), fun y => ?_⟩⟩⟩
        · have := (own k hk e).1
          have kp := poF_r hT hk.1.1.1 hk.1.1.2
          omega
        · have nb := hk.1.2.2.1
          rw [w] at nb
          exact y (fv.2 nb)
        · have nb : ¬ ebit u v := fun w => by have := fv.1 w; omega
          have pb := pbF_of hT (a := c) (b := c') (by omega)
          have hp : isP T (pbF T c c') := pb.1
          refine s_m_isDoneBy' hT (rN N e1) v0 v1 hp.1 (by have := hp.2; omega) (fun dn => es_f1 ⟨v10, es_b1, by omega, ?_⟩) (fun dn => es_f0 (skip N e1 (fun k hk e w => dn ?_)))
          · have d13 : T 13 (pbF T c c') = v := hT.dn2 v0 v1 hp.1 dn
            -- the code
            have hK : ∃ k, isK T k ∧ canDo T k ∧ poF T k = pbF T c c' ∧ k / 2 = v := by
              refine ⟨2 * v + pbF T c c' % 2, ⟨by omega, by omega⟩, ?_, ?_, by omega⟩
              · unfold canDo
                rw [show (2 * v + pbF T c c' % 2) / 2 = v by omega, show (2 * v + pbF T c c' % 2) % 2 = pbF T c c' % 2 by omega, dn.1, show 2 * (pbF T c c' / 2) + pbF T c c' % 2 = pbF T c c' by omega]
                exact ⟨d13, by have := pb.2.2.2; omega⟩
              · unfold poF
                rw [show (2 * v + pbF T c c' % 2) / 2 = v by omega, show (2 * v + pbF T c c' % 2) % 2 = pbF T c c' % 2 by omega, dn.1]
                omega
            obtain ⟨k, k1, k2, k3, k4⟩ := hK
            have og_k : og T (poF T k) = c := by rw [k3]; exact pb.2.1
            have gl_k : gl T (poF T k) = c' := by rw [k3]; exact pb.2.2.1
            have nbk : ¬ ebit u (k / 2) := by rw [k4]; exact nb
            have wa := wth_all (D := u) (v := v) hT u0 u1 v0 v1
            have pw := pc_wth v0 v10.2 nb
            have pw2 : (pcN 18 (wth u v).toNat : Int) = n + 1 := by
              clear wa u1 u2
              omega
            refine ih (n + 1) (wth u v) c' _ _ (by omega) (by omega) wth_nn wa pw2 ⟨c'0, c'1⟩ ?_ (fun w w0 w1 => ?_) ?_ es_upd_s (fun hh M3 a1 a2 => ?_) (fun hh M3 a1 => ?_)
            · intro x j q w
              rw [es_upd_o x (by rintro rfl; cases q), es_upd_o x w]
              exact rN N e1 x j q w
            · rw [es_upd_n (by decide), es_upd_c, fN]
              have fw := fl w w0 w1
              unfold ebit
              rw [wth_b]
              by_cases q : w = v
              · rw [if_pos q]
                exact ⟨fun _ => rfl, fun z => absurd (by rw [q]; simp) z⟩
              · rw [if_neg q]
                have : decide (v.toNat = w.toNat) = false := decide_eq_false (by omega)
                rw [this, Bool.or_false]
                exact fw
            · rw [es_upd_j (by omega), es_upd_n (by decide), e1.2 0 n0]; exact t0
            · have back : offL M (es_upd M3 109 v 0) n := by
                refine ⟨fun x hx => ?_, fun j hj => ?_⟩
                · by_cases q : x = 109
                  · subst q
                    funext j
                    rw [es_upd_c]
                    by_cases w : j = v
                    · rw [if_pos w, w]; exact (fv.2 nb).symm
                    · rw [if_neg w, a1.1 109 (by decide), es_upd_n (by decide), es_upd_j w, fN]
                  · rw [es_upd_o x q, a1.1 x hx, es_upd_o x hx, es_upd_o x q]; exact e1.1 x hx
                · rw [es_upd_n (by decide), a1.2 j (by omega), es_upd_j (by omega), es_upd_n (by decide)]; exact e1.2 j hj
              have ld : lead T s u k := ⟨k1, k2, nbk, by rw [k4, gl_k]; exact hh⟩
              have fh : isFh T s u c k := ⟨⟨ld, og_k⟩, fun j hj => by rw [gl_k]; exact f2 j hj⟩
              have ef := fhF_eq hT fh
              refine ⟨v10, es_b0, fun z => absurd z (by decide), fun _ => ⟨es_b1, hy (hs.mpr ⟨k, ld, og_k⟩) _ back (fun i hi => ?_)⟩⟩
              rw [es_upd_n (by decide)]
              cases i with
              | zero => rw [show n + ((0 : Nat) : Int) = n by omega, a1.2 n (by omega), es_upd_j (by omega), es_upd_n (by decide), e1.2 n (Int.le_refl _), tn]; rfl
              | succ i =>
                rw [show n + ((i + 1 : Nat) : Int) = n + 1 + (i : Nat) by omega, a2 i (by omega)]
                show _ = lnC T s i (wth u (fhF T s u c / 2)) (gl T (poF T (fhF T s u c)))
                rw [ef, k4, gl_k]
            · have back : offL M (es_upd M3 109 v 0) n := by
                refine ⟨fun x hx => ?_, fun j hj => ?_⟩
                · by_cases q : x = 109
                  · subst q
                    funext j
                    rw [es_upd_c]
                    by_cases w : j = v
                    · rw [if_pos w, w]; exact (fv.2 nb).symm
                    · rw [if_neg w, a1.1 109 (by decide), es_upd_n (by decide), es_upd_j w, fN]
                  · rw [es_upd_o x q, a1.1 x hx, es_upd_o x hx, es_upd_o x q]; exact e1.1 x hx
                · rw [es_upd_n (by decide), a1.2 j (by omega), es_upd_j (by omega), es_upd_n (by decide)]; exact e1.2 j hj
              refine ⟨v10, es_b0, fun _ => skip _ back (fun k' hk' e w => hh ?_), fun z => absurd rfl z⟩
              have := hk'.1.2.2.2
              rw [w, e] at this
              exact this
          · have o := own k hk e
            rw [← o.1]
            have kp := poF_r hT hk.1.1.1 hk.1.1.2
            rcases hT.dn kp.1 kp.2.2.1 with z' | ⟨-, -, z'⟩
            · rw [canDo_13 hk.1.2.1] at z'
              omega
            · rw [canDo_13 hk.1.2.1, w] at z'
              exact z'
end
