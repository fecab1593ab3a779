/-! PAIRS OF CALLS: line. Lines home -/
def hml (T : es_M) (s : Int) : Int → Int → List Int → Prop
  | u, c, [] => u = allF T ∧ c = s
  | u, c, k :: l => (isK T k ∧ canDo T k ∧ ¬ ebit u (k / 2) ∧ og T (poF T k) = c) ∧ hml T s (wth u (k / 2)) (gl T (poF T k)) l
def home (T : es_M) (s u c : Int) : Prop := ∃ l, hml T s u c l
def lead (T : es_M) (s u k : Int) : Prop := isK T k ∧ canDo T k ∧ ¬ ebit u (k / 2) ∧ home T s (wth u (k / 2)) (gl T (poF T k))
theorem lead_all {T : es_M} (hT : TI T) {s k : Int} : ¬ lead T s (allF T) k := fun h => h.2.2.1 (ebit_all hT (by have := h.1.1; omega) (by have := h.1.2; omega))
theorem home_all {T : es_M} (hT : TI T) {s c : Int} : home T s (allF T) c ↔ c = s := by
  constructor
  · rintro ⟨l, hl⟩
    cases l with
    | nil => exact hl.2
    | cons k l => exact absurd (ebit_all hT (by have := hl.1.1.1; omega) (by have := hl.1.1.2; omega)) hl.1.2.2.1
  · intro h; exact ⟨[], rfl, h⟩
theorem home_s {T : es_M} {s u c : Int} (hu : u ≠ allF T) : home T s u c ↔ ∃ k, lead T s u k ∧ og T (poF T k) = c := by
  constructor
  · rintro ⟨l, hl⟩
    cases l with
    | nil => exact absurd hl.1 hu
    | cons k l => exact ⟨k, ⟨hl.1.1, hl.1.2.1, hl.1.2.2.1, l, hl.2⟩, hl.1.2.2.2⟩
  · rintro ⟨k, ⟨h1, h2, h3, l, hl⟩, h4⟩
    exact ⟨k :: l, ⟨h1, h2, h3, h4⟩, hl⟩
theorem poF_inj {T : es_M} {k j : Int} (hk : canDo T k) (hj : canDo T j) (e : poF T k = poF T j) : k = j := by
  have a := canDo_13 hk
  have b := canDo_13 hj
  rw [e, b] at a
  have : poF T k % 2 = poF T j % 2 := by rw [e]
  unfold poF at this
  omega
def isFh (T : es_M) (s u c k : Int) : Prop := (lead T s u k ∧ og T (poF T k) = c) ∧ ∀ j, lead T s u j ∧ og T (poF T j) = c → gl T (poF T k) ≤ gl T (poF T j)
theorem lead_pb {T : es_M} (hT : TI T) {s u k : Int} (h : lead T s u k) : pbF T (og T (poF T k)) (gl T (poF T k)) = poF T k := by
  have kp := poF_r hT h.1.1 h.1.2
  exact pbF_in hT kp.1 kp.2.1 rfl rfl h.2.1.2
theorem isFh_u {T : es_M} (hT : TI T) {s u c k j : Int} (h : isFh T s u c k) (h' : isFh T s u c j) : k = j := by
  have a := h.2 j h'.1
  have b := h'.2 k h.1
  have x := lead_pb hT h.1.1
  have y := lead_pb hT h'.1.1
  rw [h.1.2] at x
  rw [h'.1.2, show gl T (poF T j) = gl T (poF T k) by omega, x] at y
  exact poF_inj h.1.1.2.1 h'.1.1.2.1 y
noncomputable def fhF (T : es_M) (s u c : Int) : Int := Classical.epsilon (fun k => isFh T s u c k)
theorem fhF_eq {T : es_M} (hT : TI T) {s u c k : Int} (h : isFh T s u c k) : fhF T s u c = k := isFh_u hT (Classical.epsilon_spec ⟨k, h⟩) h
noncomputable def lnR (T : es_M) (s : Int) : Nat → Int → Int → RW → RW
  | 0 => fun _ _ r => r
  | n + 1 => fun u c r => lnR T s n (wth u (fhF T s u c / 2)) (gl T (poF T (fhF T s u c))) (apd r (gl T (poF T (fhF T s u c))))
/-! how many are gone -/
theorem pc_wth {u v : Int} (v0 : 0 ≤ v) (v1 : v < 10) (h : ¬ ebit u v) : pcN 18 (wth u v).toNat = pcN 18 u.toNat + 1 := by
  have b : (wth u v).toNat.testBit v.toNat = true := wth_in
  have c := pcN_clear (wth u v).toNat v.toNat b 18
  rw [if_pos (by omega)] at c
  have e : es_dif (wth u v).toNat (2 ^ v.toNat) = u.toNat := by
    apply Nat.eq_of_testBit_eq
    intro i
    rw [es_dif_bit, wth_b, Nat.testBit_two_pow]
    by_cases q : v.toNat = i
    · have : u.toNat.testBit i = false := by rw [← q]; cases z : u.toNat.testBit v.toNat; rfl; exact absurd z h
      simp [q, this]
    · simp [q]
  rw [e] at c
  exact c.symm
theorem pc_all {T : es_M} (hT : TI T) : (pcN 18 (allF T).toNat : Int) = T 1 1 := by
  have hv := hT.v
  have key : ∀ m : Nat, m ≤ 18 → pcN m (allF T).toNat = if m ≤ (T 1 1).toNat then m else (T 1 1).toNat := by
    intro m
    induction m with
    | zero => intro _; rw [if_pos (by omega)]; rfl
    | succ m ih =>
      intro hm
      show pcN m (allF T).toNat + (if (allF T).toNat.testBit m then 1 else 0) = _
      rw [ih (by omega), all_bit hT]
      by_cases q : m < (T 1 1).toNat
      · rw [if_pos (by omega), if_pos (by simpa using q), if_pos (by omega)]
      · rw [if_neg (show ¬ (decide (m < (T 1 1).toNat) = true) by simpa using q), if_neg (show ¬ m + 1 ≤ (T 1 1).toNat by omega)]
        by_cases q2 : m ≤ (T 1 1).toNat
        · rw [if_pos q2]; omega
        · rw [if_neg q2]; omega
  rw [key 18 (Nat.le_refl _)]
  split <;> omega
theorem pc_eq {T : es_M} (hT : TI T) {u : Int} (u0 : 0 ≤ u) (u1 : u ≤ allF T) : u = allF T ↔ (pcN 18 u.toNat : Int) = T 1 1 := by
  constructor
  · intro h; rw [h]; exact pc_all hT
  · intro h
    have s := (sub_all hT u0).mpr u1
    have ha := hT.all
    refine sub.eq u0 ha.1 s (fun i hi => ?_)
    cases q : u.toNat.testBit i
    · exfalso
      have i18 : i < 18 := by
        rw [all_bit hT, decide_eq_true_eq] at hi
        have := hT.v
        omega
      have := (pcN_mono (a := u.toNat) (b := (allF T).toNat) 18 (fun j _ hj => s j hj)).2 ⟨i, i18, q, hi⟩
      have pa := pc_all hT
      omega
    · rfl
/-- the class's rows of corners -/
def hwOK (T : es_M) (s U : Int) (M : es_M) : Prop := ∀ u, U ≤ u → 0 ≤ u → u ≤ allF T → (0 ≤ M 78 u ∧ M 78 u < 4096) ∧ ∀ c, 0 ≤ c → c < 12 → (ebit (M 78 u) c ↔ home T s u c)
section
variable {d : Nat} {Q : Int → es_M → Prop} {T M : es_M}
theorem s_leadsHome (hT : TI T) (hR : RepC T M) {s u k : Int} (u0 : 0 ≤ u) (u1 : u ≤ allF T) (hW : hwOK T s (u + 1) M) (hk : isK T k) (hy : lead T s u k → Q 1 M) (hn : ¬ lead T s u k → Q 0 M) : es_Call (d + 3) 128 [.inr (.inr 75), .inl k, .inl u] M Q := by
  have hv := hT.v
  have ha := hT.all
  have k0 := hk.1
  have k1 := hk.2
  have u2 : u < 1024 := by omega
  clear ha
  have kp := poF_r hT k0 k1
  have hp : isP T (poF T k) := ⟨kp.1, kp.2.1⟩
  have gr := (gl_r hT hp).1
  have v10 : 0 ≤ k / 2 ∧ k / 2 < 10 := by omega
  have v11 : k / 2 < T 1 1 := by omega
  have sh : es_shr k 1 = k / 2 := ei_shr1 k0 (by omega)
  have so : es_or u (es_shl 1 (k / 2)) = wth u (k / 2) := ei_or1 u0 (by omega) v10.1 (by omega)
  have wr := wth_r u0 u2 v10.1 v10.2
  have wa := wth_all (D := u) (v := k / 2) hT u0 u1 v10.1 v11
  apply c_Bounds_leadsHome
  rw [sh, so]
  refine s_has u0 (Int.lt_trans u2 (by decide)) v10.1 (Int.lt_trans v10.2 (by decide)) (fun b => es_f1 ⟨es_b0, hn (fun l => l.2.2.1 b)⟩) (fun b => es_f0 (s_canDo hT hR k0 k1 (fun hc => es_t1 ⟨wr, s_passOf hT hR k0 k1 (s_goal hR kp.1 kp.2.2.1 ?_)⟩) (fun hc => es_t0 ⟨es_b0, hn (fun l => hc l.2.1)⟩)))
  obtain ⟨m1, m2⟩ := hW (wth u (k / 2)) (Int.add_one_le_of_lt (wth_gt u0 b)) wr.1 wa
  have m3 := m2 _ gr.1 gr.2
  exact s_has m1.1 (Int.lt_trans m1.2 (by decide)) gr.1 (Int.lt_trans gr.2 (by decide)) (fun q => es_t1 ⟨es_b1, hy ⟨hk, hc, b, m3.mp q⟩⟩) (fun q => es_t0 ⟨es_b0, hn (fun l => q (m3.mpr l.2.2.2))⟩)
theorem s_homewardFrom (hT : TI T) (hR : RepC T M) {s u : Int} (u0 : 0 ≤ u) (u1 : u ≤ allF T) (hW : hwOK T s (u + 1) M) (h : ∀ b, (0 ≤ b ∧ b < 4096) → (∀ c, 0 ≤ c → c < 12 → (ebit b c ↔ ∃ k, lead T s u k ∧ og T (poF T k) = c)) → Q b M) : es_Call (d + 4) 127 [.inr (.inr 75), .inl u] M Q := by
  have hv := hT.v
  apply m_Bounds_homewardFrom
  intro G hG
  apply k_Bounds_homewardFrom_0 hG
  refine es_up (P := fun n => ∀ b, (0 ≤ b ∧ b < 4096) → (∀ c, 0 ≤ c → c < 12 → (ebit b c ↔ ∃ k, k < n ∧ lead T s u k ∧ og T (poF T k) = c)) → G 4 [lr 75, li u, li b, li n] [] M) (n := 2 * T 1 1) (by omega) ?_ ?_ 0 (by decide) (fun c c0 c1 => ?_)
  · intro b b1 b2
    apply k_Bounds_homewardFrom_4 hG
    rw [hR 1 1 rfl, w32_s (by omega) (by omega)]
    refine ⟨fun _ => h b b1 (fun c c0 c1 => (b2 c c0 c1).trans ⟨fun ⟨k, _, x⟩ => ⟨k, x⟩, fun ⟨k, x⟩ => ⟨k, x.1.1.2, x⟩⟩), fun z => absurd (Int.le_refl _) z⟩
  · intro n n0 n1 ih b b1 b2
    have hk : isK T n := ⟨n0, n1⟩
    have kp := poF_r hT n0 n1
    have hp : isP T (poF T n) := ⟨kp.1, kp.2.1⟩
    have gr := (gl_r hT hp).2
    apply k_Bounds_homewardFrom_4 hG
    rw [hR 1 1 rfl, w32_s (k := 2 * T 1 1) (by omega) (by omega), w32_1 (k := n) (by omega) (by omega)]
    refine ⟨fun z => absurd z (by omega), fun _ => s_leadsHome hT hR u0 u1 hW hk (fun l => es_t1 (s_passOf hT hR n0 n1 (s_origin hR kp.1 kp.2.2.1 ?_))) (fun l => es_t0 (ih b b1 (fun c c0 c1 => (b2 c c0 c1).trans ⟨fun ⟨k, x1, x2⟩ => ⟨k, by omega, x2⟩, fun ⟨k, x1, x2⟩ => ⟨k, ?_, x2⟩⟩)))⟩
    · have o1 : es_or b (es_shl 1 (og T (poF T n))) = wth b (og T (poF T n)) := ei_or1 b1.1 (by omega) gr.1 (by omega)
      rw [o1]
      refine ih _ ⟨wth_nn, ?_⟩ (fun c c0 c1 => ?_)
      · unfold wth
        have := Nat.or_lt_two_pow (n := 12) (x := b.toNat) (y := 2 ^ (og T (poF T n)).toNat) (by omega) (Nat.pow_lt_pow_right (by decide) (by omega))
        omega
      · unfold ebit
        rw [wth_b, Bool.or_eq_true, decide_eq_true_eq]
        have b3 := b2 c c0 c1
        unfold ebit at b3
        rw [b3]
        constructor
        · rintro (⟨k, x1, x2⟩ | x)
          · exact ⟨k, by omega, x2⟩
          · exact ⟨n, by omega, l, by omega⟩
        · rintro ⟨k, x1, x2, x3⟩
          by_cases e : k = n
          · right; rw [← x3, e]
          · left; exact ⟨k, by omega, x2, x3⟩
    · by_cases e : k = n
      · subst e; exact absurd x2.1 l
      · omega
  · constructor
    · intro z; unfold ebit at z; rw [show (0 : Int).toNat = 0 from rfl, Nat.zero_testBit] at z; cases z
    · rintro ⟨k, x1, x2, -⟩; have := x2.1.1; omega
theorem s_firstHomeward (hT : TI T) (hR : RepC T M) {s u c : Int} (u0 : 0 ≤ u) (u1 : u ≤ allF T) (hW : hwOK T s (u + 1) M) (hex : ∃ k, lead T s u k ∧ og T (poF T k) = c) (h : ∀ k, isFh T s u c k → Q k M) : es_Call (d + 4) 130 [.inr (.inr 75), .inl c, .inl u] M Q := by
  have hv := hT.v
  apply m_Bounds_firstHomeward
  intro G hG
  apply k_Bounds_firstHomeward_0 hG
  refine es_up (P := fun n => ∀ f le, ((f = -1 ∧ le = 12 ∧ ∀ k, lead T s u k ∧ og T (poF T k) = c → n ≤ k) ∨ ((lead T s u f ∧ og T (poF T f) = c) ∧ le = gl T (poF T f) ∧ ∀ k, lead T s u k ∧ og T (poF T k) = c → k < n → le ≤ gl T (poF T k))) → G 9 [lr 75, li c, li u, li f, li le, li n, none] [] M) (n := 2 * T 1 1) (by omega) ?_ ?_ (-1) 12 (Or.inl ⟨rfl, rfl, fun k hk => hk.1.1.1⟩)
  · intro f le hf
    apply k_Bounds_firstHomeward_9 hG
    rw [hR 1 1 rfl, w32_s (by omega) (by omega)]
    refine ⟨fun _ => h f ?_, fun z => absurd (Int.le_refl _) z⟩
    rcases hf with ⟨-, -, z⟩ | ⟨z1, z2, z3⟩
    · obtain ⟨k, hk⟩ := hex
      have := z k hk
      have := hk.1.1.2
      omega
    · exact ⟨z1, fun j hj => by rw [← z2]; exact z3 j hj hj.1.1.2⟩
  · intro n n0 n1 ih f le hf
    have hk : isK T n := ⟨n0, n1⟩
    have kp := poF_r hT n0 n1
    have hp : isP T (poF T n) := ⟨kp.1, kp.2.1⟩
    have gr := (gl_r hT hp).1
    have keep : ((lead T s u n ∧ og T (poF T n) = c) → le ≤ gl T (poF T n) ∧ f ≠ -1) → G 9 [lr 75, li c, li u, li f, li le, li (n + 1), none] [] M := by
      intro no
      refine ih f le ?_
      rcases hf with ⟨z0, z1, z⟩ | ⟨z1, z2, z3⟩
      · refine Or.inl ⟨z0, z1, fun k hk' => ?_⟩
        have := z k hk'
        by_cases e : k = n
        · subst e; exact absurd z0 (no hk').2
        · omega
      · refine Or.inr ⟨z1, z2, fun k hk' h1 => ?_⟩
        by_cases e : k = n
        · subst e; exact (no hk').1
        · exact z3 k hk' (by omega)
    apply k_Bounds_firstHomeward_9 hG
    rw [hR 1 1 rfl, w32_s (k := 2 * T 1 1) (by omega) (by omega), w32_1 (k := n) (by omega) (by omega)]
    refine ⟨fun z => absurd z (by omega), fun _ => s_passOf hT hR n0 n1 (s_origin hR kp.1 kp.2.2.1 ⟨fun z => keep (fun w => absurd w.2 z), fun z => s_goal hR kp.1 kp.2.2.1 ⟨fun w => keep (fun _ => ⟨w, ?_⟩), fun w => s_leadsHome hT hR u0 u1 hW hk (fun l => es_t1 (s_goal hR kp.1 kp.2.2.1 (ih n _ (Or.inr ⟨⟨l, z⟩, rfl, fun k hk' h1 => ?_⟩)))) (fun l => es_t0 (keep (fun w' => absurd w'.1 l)))⟩⟩)⟩
    · intro e
      rcases hf with ⟨z0, z1, -⟩ | ⟨z1, -, -⟩
      · omega
      · have := z1.1.1.1; omega
    · by_cases e : k = n
      · subst e; exact Int.le_refl _
      · rcases hf with ⟨z0, z1, z3⟩ | ⟨z1, z2, z3⟩
        · have := z3 k hk'; omega
        · have := z3 k hk' (by omega); omega
end
