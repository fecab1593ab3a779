/-! TOURS (2): the class's entries -/
theorem wcost_ln {T : es_M} (hT : TI T) {c : Int} : ∀ (l : List Int) (p : Int), isS T p → l ≠ [] → wok T c p l → ln T (wlast p l) ≤ wcost T c p l
  | [], _, _, h, _ => absurd rfl h
  | q :: l, p, hp, _, h => by
    have hq := h.1.1
    have s := stp_r hT (c := c) hp hq
    have hs := h.1.2
    by_cases e : l = []
    · subst e
      have t := tb_r hT hp hq
      show ln T q ≤ stp T c p q + 0
      omega
    · have i := wcost_ln hT l q (Or.inr hq) e h.2
      show ln T (wlast q l) ≤ stp T c p q + wcost T c q l
      omega
noncomputable def enN (T : es_M) (a q : Int) : Nat → Int
  | 0 => 1000000
  | k + 1 => if og T k = a ∧ goes T k then min (enN T a q k) (ln T k + wyF T k q) else enN T a q k
theorem enN_s {T : es_M} {a q k : Int} (k0 : 0 ≤ k) : enN T a q (k + 1).toNat = if og T k = a ∧ goes T k then min (enN T a q k.toNat) (ln T k + wyF T k q) else enN T a q k.toNat := by
  rw [toN1 k0]
  show (if og T (k.toNat : Nat) = a ∧ goes T (k.toNat : Nat) then min (enN T a q k.toNat) (ln T (k.toNat : Nat) + wyF T (k.toNat : Nat) q) else enN T a q k.toNat) = _
  rw [toNI k0]
theorem enN_sp {T : es_M} {a q : Int} : ∀ n : Nat, enN T a q n ≤ 1000000 ∧ (∀ k : Nat, k < n → og T k = a ∧ goes T k → enN T a q n ≤ ln T k + wyF T k q) ∧ (enN T a q n = 1000000 ∨ ∃ k : Nat, k < n ∧ (og T k = a ∧ goes T k) ∧ enN T a q n = ln T k + wyF T k q) := by
  intro n
  induction n with
  | zero => exact ⟨Int.le_refl _, fun k hk => absurd hk (by omega), Or.inl rfl⟩
  | succ n ih =>
    obtain ⟨i1, i2, i3⟩ := ih
    by_cases e : og T n = a ∧ goes T n
    · have e2 : enN T a q (n + 1) = min (enN T a q n) (ln T n + wyF T n q) := if_pos e
      rw [e2]
      refine ⟨by omega, fun k hk hg => ?_, ?_⟩
      · by_cases z : k = n
        · subst z; omega
        · have := i2 k (by omega) hg; omega
      · by_cases z : enN T a q n ≤ ln T n + wyF T n q
        · rcases i3 with h | ⟨k, k1, k2, k3⟩
          · exact Or.inl (by omega)
          · exact Or.inr ⟨k, by omega, k2, by omega⟩
        · exact Or.inr ⟨n, by omega, e, by omega⟩
    · have e2 : enN T a q (n + 1) = enN T a q n := if_neg e
      rw [e2]
      refine ⟨i1, fun k hk hg => ?_, ?_⟩
      · by_cases z : k = n
        · subst z; exact absurd hg e
        · exact i2 k (by omega) hg
      · rcases i3 with h | ⟨k, k1, k2, k3⟩
        · exact Or.inl h
        · exact Or.inr ⟨k, by omega, k2, k3⟩
theorem stp36 {T : es_M} {a q : Int} (ho : og T q = a) (hg : goes T q) : stp T a 36 q = ln T q := by rw [stp_36 ho, if_pos hg]
theorem ds_at {T : es_M} (hT : TI T) {a q : Int} (hq : isP T q) (hg : goes T q) (ho : og T q = a) : dsF T a 36 q = ln T q := by
  have lr := ln_r hT hq
  have g1 := hg.1
  refine (ds_min hT (Or.inl rfl)).uniq ⟨by omega, ?_, fun _ => ⟨[q], by simp, ⟨⟨hq, by rw [stp36 ho hg]; omega⟩, True.intro⟩, rfl, by show stp T a 36 q + 0 = _; rw [stp36 ho hg]; omega⟩⟩
  rintro x ⟨l, l1, l2, l3, l4⟩
  have := wcost_ln hT l 36 (Or.inl rfl) l1 l2
  rw [l3, l4] at this
  exact this
theorem ds_by {T : es_M} (hT : TI T) {a q : Int} (hq : isP T q) (ho : og T q ≠ a) : dsF T a 36 q = enN T a q (2 * T 1 0).toNat := by
  have hn := hT.n
  obtain ⟨i1, i2, i3⟩ := enN_sp (T := T) (a := a) (q := q) (2 * T 1 0).toNat
  refine (ds_min hT (Or.inl rfl)).uniq ⟨i1, ?_, fun z => ?_⟩
  · rintro x ⟨l, l1, l2, l3, l4⟩
    cases l with
    | nil => exact absurd rfl l1
    | cons f l =>
      have hf := l2.1.1
      have s := stp_r hT (c := a) (p := 36) (Or.inl rfl) hf
      have hs := l2.1.2
      rcases s with s | ⟨-, s2, s3, -⟩
      · omega
      · have so : og T f = a := s3
        have hl : l ≠ [] := by
          rintro rfl
          have : f = q := l3
          rw [this] at so; exact ho so
        have low := wyF_low hT l f hf hl (wok_c hT l f hf l2.2)
        have lw : wlast f l = q := l3
        rw [lw, wcost_c hT (c := a) (c' := 0) l f hf l2.2] at low
        have := i2 f.toNat (by have := hf.1; have := hf.2; omega) (by rw [toNI hf.1]; exact ⟨so, s2⟩)
        rw [toNI hf.1] at this
        rw [← l4]
        show _ ≤ stp T a 36 f + wcost T a f l
        rw [stp36 so s2]
        omega
  · rcases i3 with h | ⟨k, k1, k2, k3⟩
    · omega
    · have hk : isP T k := ⟨by omega, by omega⟩
      have lr := ln_r hT hk
      have g1 := k2.2.1
      have wr := wyF_r hT hk hq
      obtain ⟨l, l1, l2, l3, l4⟩ := (wyF_min hT hk hq).2.2 (by omega)
      refine ⟨k :: l, by simp, ⟨⟨hk, by rw [stp36 k2.1 k2.2]; omega⟩, wok_c hT l k hk l2⟩, l3, ?_⟩
      show stp T a 36 k + wcost T a k l = _
      rw [stp36 k2.1 k2.2, wcost_c hT (c := 0) (c' := a) l k hk l2, l4, k3]
section
variable {d : Nat} {Q : Int → es_M → Prop} {T M : es_M}
theorem s_leastEntry (hT : TI T) (hR : RepC T M) {a q : Int} (hL : ∀ p q, isP T p → isP T q → M 61 (p * 36 + q) = wyF T p q) (hq : isP T q) (hg : goes T q) (h : Q (dsF T a 36 q) M) : es_Call (d + 3) 113 [.inr (.inr 67), .inl a, .inl q] M Q := by
  have hn := hT.n
  have q36 : q < 36 := by have := hq.2; omega
  apply m_Walks_leastEntry
  intro G hG
  apply k_Walks_leastEntry_0 hG
  refine ⟨fun _ => s_origin hR hq.1 q36 ⟨fun z => ?_, fun z => s_length hR hq.1 q36 (by rw [← ds_at hT hq hg z]; exact h)⟩, fun z => absurd z (by have := hq.1; omega)⟩
  rw [ds_by hT hq z] at h
  have er : ∀ k : Nat, (k : Int) ≤ 2 * T 1 0 → 0 ≤ enN T a q k ∧ enN T a q k ≤ 1000000 := by
    intro k hk
    obtain ⟨i1, i2, i3⟩ := enN_sp (T := T) (a := a) (q := q) k
    rcases i3 with w | ⟨j, j1, j2, j3⟩
    · omega
    · have hj : isP T j := ⟨by omega, by omega⟩
      have := ln_r hT hj
      have := j2.2.1
      have := wyF_r hT hj hq
      omega
  refine es_up (P := fun k => G 35 [lr 67, li a, li q, li (enN T a q k.toNat), li k] [] M) (n := 2 * T 1 0) (by omega) ?_ ?_
  · apply k_Walks_leastEntry_35 hG
    rw [hR 1 0 rfl, w32_s (by omega) (by omega)]
    exact ⟨fun _ => h, fun w => absurd (Int.le_refl _) w⟩
  · intro k k0 k1 ih
    have hk : isP T k := ⟨k0, k1⟩
    have e1 := er k.toNat (by omega)
    rw [enN_s k0] at ih
    apply k_Walks_leastEntry_35 hG
    rw [hR 1 0 rfl, w32_s (k := 2 * T 1 0) (by omega) (by omega), w32_1 (k := k) (by omega) (by omega)]
    refine ⟨fun w => absurd w (by omega), fun _ => s_origin hR k0 (by omega) ⟨fun w => by rw [if_neg (fun y => w y.1)] at ih; exact ih, fun w => s_goes hT hR k0 (by omega) (fun g => es_t1 (s_length hR k0 (by omega) (s_least hT hL hk hq ?_))) (fun g => es_t0 (by rw [if_neg (fun y => g y.2)] at ih; exact ih))⟩⟩
    rw [if_pos ⟨w, g⟩] at ih
    have := ln_r hT hk
    have := g.1
    have := wyF_r hT hk hq
    rw [w32_s (k := ln T k + wyF T k q) (by omega) (by omega)]
    exact ih
end
