/-! PAIRS OF CALLS: soonest (4). The class settles -/
theorem smN_full {f : Int → Int} : ∀ n : Nat, (∀ k, 0 ≤ k → k < (n : Int) → f k ≤ 1) → smN f n ≤ n ∧ (smN f n = n → ∀ k, 0 ≤ k → k < (n : Int) → f k = 1) := by
  intro n
  induction n with
  | zero => intro _; exact ⟨Int.le_refl _, fun _ k k0 k1 => absurd k1 (by omega)⟩
  | succ n ih =>
    intro h
    have i := ih (fun k k0 k1 => h k k0 (by omega))
    have l := h n (by omega) (by omega)
    have e : smN f (n + 1) = smN f n + f n := rfl
    refine ⟨by omega, fun z k k0 k1 => ?_⟩
    by_cases w : k = n
    · subst w; omega
    · exact i.2 (by omega) k k0 (by omega)
theorem smN_z : ∀ n : Nat, smN (fun _ => 0) n = 0
  | 0 => rfl
  | n + 1 => by show smN (fun _ => 0) n + 0 = 0; rw [smN_z n]; rfl
theorem lb_bit0 {x v : Int} {P : Int → Prop} (h : lb x P) (v0 : 0 ≤ v) (v1 : v < 36) : es_lcmp (es_land (es_lshr x v) 1) 0 = 0 ↔ ¬ P v := by
  have b := lb_bit h v0 v1
  obtain ⟨a, ha⟩ := Int.eq_ofNat_of_zero_le h.1.1
  obtain ⟨k, hk⟩ := Int.eq_ofNat_of_zero_le v0
  have a1 := h.1.2
  have e : es_land (es_lshr x v) 1 = 0 ∨ es_land (es_lshr x v) 1 = 1 := by
    rw [ha, hk, el_shr (by omega) (by omega)]
    have := el_and (a := a / 2 ^ k) (b := 1) (Nat.lt_of_le_of_lt (Nat.div_le_self _ _) (by omega))
    rw [show ((1 : Nat) : Int) = 1 from rfl] at this
    rw [this, Nat.and_one_is_mod]
    omega
  rw [← b]
  rcases e with e | e <;> rw [e] <;> decide
section
variable {d : Nat} {Q : Int → es_M → Prop} {T M : es_M}
/-- closed behind D, from a pass -/
def clsd (T : es_M) (a D p : Int) (M : es_M) : Prop := ∀ q, tst T a p q → sltF T D q M ≤ seF T q (M 89 p + tb T p q)
theorem s_settle (hT : TI T) (hR : RepC T M) (hN : nextsOK T M) {a m D : Int} (m0 : 0 ≤ m ∧ m < 1440) (D0 : 0 ≤ D) (D1 : D ≤ allF T) (ok : okR T a m D M) (h : ∀ M', offZ M M' → decR M M' → okR T a m D M' → (∀ p, isP T p → M' 89 p < 1000000 → clsd T a D p M') → Q 0 M') : es_Call (d + 5) 165 [.inr (.inr 88), .inl D] M Q := by
  have hn := hT.n
  apply m_Clock_settle
  intro G hG
  apply k_Clock_settle_0 hG
  have main : ∀ (n : Nat) (r x : Int) (f : Int → Int) (M' : es_M), 36 - r ≤ n → 0 ≤ r → r ≤ 36 → (∀ p, f p = 0 ∨ f p = 1) → smN f 36 = r → lb x (fun p => f p = 1) → offZ M M' → decR M M' → okR T a m D M' → (∀ p, f p = 1 → (isP T p ∧ M' 89 p < 1000000) ∧ clsd T a D p M' ∧ ∀ u, isP T u → f u = 0 → M' 89 p ≤ M' 89 u) → G 5 [lr 88, li D, ll x, none, li r, none, none, none] [] M' := by
    intro n
    induction n with
    | zero =>
      intro r x f M' hr r0 r1 f01 fs hx f1 f2 f3 f4
      apply k_Clock_settle_5 hG
      refine ⟨fun _ => h M' f1 f2 f3 (fun p hp _ => ?_), fun z => absurd (by omega) z⟩
      have full := (smN_full (f := f) 36 (fun k _ _ => by rcases f01 k with w | w <;> rw [w] <;> decide)).2 (by rw [fs]; omega) p hp.1 (by have := hp.2; omega)
      exact (f4 p full).2.1
    | succ n ih =>
      intro r x f M' hr r0 r1 f01 fs hx f1 f2 f3 f4
      have hR' := repZ hR f1
      have hN' : nextsOK T M' := by
        have := hN
        unfold nextsOK at this ⊢
        rw [f1 62 (by decide) (by decide), f1 63 (by decide) (by decide)]
        exact this
      apply k_Clock_settle_5 hG
      refine ⟨fun z => h M' f1 f2 f3 (fun p hp _ => ?_), fun z => ?_⟩
      · have full := (smN_full (f := f) 36 (fun k _ _ => by rcases f01 k with w | w <;> rw [w] <;> decide)).2 (by rw [fs]; omega) p hp.1 (by have := hp.2; omega)
        exact (f4 p full).2.1
      refine es_up (P := fun k => ∀ b, ((b = -1 ∧ ∀ u, isP T u → u < k → f u = 0 → 1000000 ≤ M' 89 u) ∨ ((isP T b ∧ f b = 0 ∧ M' 89 b < 1000000) ∧ ∀ u, isP T u → u < k → f u = 0 → M' 89 b ≤ M' 89 u)) → G 18 [lr 88, li D, ll x, none, li r, li b, li k, none] [] M') (n := 2 * T 1 0) (by omega) ?_ ?_ (-1) (Or.inl ⟨rfl, fun u hu z => absurd hu.1 (by omega)⟩)
      · intro b hb
        apply k_Clock_settle_18 hG
        rw [hR' 1 0 rfl, w32_s (by omega) (by omega)]
        refine ⟨fun _ => ⟨fun nb => ?_, fun eb => h M' f1 f2 f3 (fun p hp lt => ?_)⟩, fun z => absurd (Int.le_refl _) z⟩
        · rcases hb with ⟨z, -⟩ | ⟨⟨b1, b2, b3⟩, b4⟩
          · exact absurd z nb
          have q0 := b1.1
          have q1 := b1.2
          rw [w32_1 (k := r) (by omega) (by omega)]
          refine s_goOnFrom hT hR' hN' m0 b1 D0 D1 f3 b3 (fun M5 g1 g2 g3 g4 g5 g6 => ?_)
          have same : ∀ s, f s = 1 → M5 89 s = M' 89 s := fun s hs => by
            rcases g6 s with w | w
            · exact w
            · have l1 := (f4 s hs).2.2 b b1 b2
              have l2 := g2.1 s
              omega
          obtain ⟨g, eg⟩ : ∃ g : Int → Int, g = fun i => if i = b then 1 else f i := ⟨_, rfl⟩
          have gb : g b = 1 := by rw [eg]; exact if_pos rfl
          have go : ∀ i, i ≠ b → g i = f i := fun i hi => by rw [eg]; exact if_neg hi
          clear eg
          refine ih (r + 1) _ g M5 (by omega) (by omega) (by omega) (fun p => ?_) ?_ ((lb_or hx (lb_1 q0 (by omega))).iff (fun p => ?_)) (fun c x1 x2 => by rw [g1 c x1 x2]; exact f1 c x1 x2) (f2.tr g2) g3 (fun p hp => ?_)
          · by_cases e : p = b
            · rw [e, gb]; exact Or.inr rfl
            · rw [go p e]; exact f01 p
          · rw [smN_u q0 go 36, fs, if_pos (by omega), gb, b2]; omega
          · by_cases e : (p : Int) = b
            · exact ⟨fun _ => by rw [e]; exact gb, fun _ => Or.inr e⟩
            · rw [go _ e]; exact ⟨fun w => w.elim id (fun y => absurd y e), Or.inl⟩
          · by_cases e : p = b
            · subst e
              refine ⟨⟨b1, by rw [g4]; exact b3⟩, fun q hq => by rw [g4]; exact g5 q hq, fun u hu fu => ?_⟩
              have ub : u ≠ p := fun w => by rw [w, gb] at fu; omega
              rw [go u ub] at fu
              rw [g4]
              rcases g6 u with w | w
              · rw [w]; exact b4 u hu hu.2 fu
              · omega
            · rw [go p e] at hp
              have old := f4 p hp
              refine ⟨⟨old.1.1, by rw [same p hp]; exact old.1.2⟩, fun q hq => ?_, fun u hu fu => ?_⟩
              · rw [same p hp]; exact Int.le_trans (slt_dec g2) (old.2.1 q hq)
              · have ub : u ≠ b := fun w => by rw [w, gb] at fu; omega
                rw [go u ub] at fu
                rw [same p hp]
                rcases g6 u with w | w
                · rw [w]; exact old.2.2 u hu fu
                · have := old.2.2 b b1 b2; omega
        · rcases hb with ⟨-, z⟩ | ⟨⟨b1, -⟩, -⟩
          · rcases f01 p with w | w
            · have := z p hp hp.2 w; omega
            · exact (f4 p w).2.1
          · have := b1.1; omega
      · intro k k0 k1 ihk b hb
        have hk : isP T k := ⟨k0, k1⟩
        have bit := lb_bit0 hx k0 (by omega)
        apply k_Clock_settle_18 hG
        rw [hR' 1 0 rfl, w32_s (by omega) (by omega), w32_1 (k := k) (by omega) (by omega)]
        have stay : (f k = 0 → 1000000 ≤ M' 89 k ∨ (¬ b = -1 ∧ M' 89 b ≤ M' 89 k)) → G 18 [lr 88, li D, ll x, none, li r, li b, li (k + 1), none] [] M' := fun z => ihk b (by
          rcases hb with ⟨w1, w2⟩ | ⟨⟨b1, b2, b3⟩, w2⟩
          · refine Or.inl ⟨w1, fun u hu uk fu => ?_⟩
            by_cases e : u = k
            · subst e; rcases z fu with y | y
              · exact y
              · exact absurd w1 y.1
            · exact w2 u hu (by omega) fu
          · refine Or.inr ⟨⟨b1, b2, b3⟩, fun u hu uk fu => ?_⟩
            by_cases e : u = k
            · subst e; rcases z fu with y | y
              · omega
              · exact y.2
            · exact w2 u hu (by omega) fu)
        have take : f k = 0 → M' 89 k < 1000000 → (b = -1 ∨ M' 89 k < M' 89 b) → G 18 [lr 88, li D, ll x, none, li r, li k, li (k + 1), none] [] M' := fun z z2 z3 => ihk k (Or.inr ⟨⟨hk, z, z2⟩, fun u hu uk fu => by
          by_cases e : u = k
          · subst e; exact Int.le_refl _
          · rcases hb with ⟨w1, w2⟩ | ⟨⟨b1, b2, b3⟩, w2⟩
            · have := w2 u hu (by omega) fu; omega
            · have := w2 u hu (by omega) fu
              have := b1.1
              omega⟩)
        refine ⟨fun z => absurd z (by omega), fun _ => ⟨fun z => es_t0 (stay (fun w => ?_)), fun z => ⟨by omega, fun y => es_t0 (stay (fun _ => Or.inl y)), fun y => es_t1 ⟨fun w => take ?_ (by omega) (Or.inl w), fun w => ⟨by omega, ?_, fun v => stay (fun _ => Or.inr ⟨w, v⟩), fun v => take ?_ (by omega) (Or.inr (by omega))⟩⟩⟩⟩⟩
        · exact absurd (bit.mpr (by omega)) z
        · have := bit.mp z; rcases f01 k with q | q
          · exact q
          · exact absurd q this
        · rcases hb with ⟨w1, w2⟩ | ⟨⟨b1, b2, b3⟩, w2⟩
          · exact absurd w1 w
          · have := b1.1; have := b1.2; omega
        · have := bit.mp z; rcases f01 k with q | q
          · exact q
          · exact absurd q this
  exact main 36 0 0 (fun _ => 0) M (by decide) (by decide) (by decide) (fun _ => Or.inl rfl) (smN_z 36) (lb_0 (fun p => by decide)) (fun _ _ _ => rfl) decR.rf ok (fun p hp => absurd hp (by decide))
end
