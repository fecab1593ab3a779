/-! CONTRACTS OF SMALL METHODS: passes between corners, services done, steps -/
theorem ei_free {a b c : Int} (a0 : 0 ≤ a) (a1 : a < 2147483648) (b0 : 0 ≤ b) (b1 : b < 2147483648) (c0 : 0 ≤ c) (c1 : c < 2147483648) : es_and (es_and a b) (es_xor c (-1)) = 0 ↔ es_dif (a.toNat &&& b.toNat) c.toNat = 0 := by
  obtain ⟨x, rfl⟩ := Int.eq_ofNat_of_zero_le a0
  obtain ⟨y, rfl⟩ := Int.eq_ofNat_of_zero_le b0
  obtain ⟨z, rfl⟩ := Int.eq_ofNat_of_zero_le c0
  rw [eb_and (by omega), eb_dif (Nat.lt_of_le_of_lt Nat.and_le_left (by omega)) (by omega)]
  simp only [Int.toNat_natCast]
  omega
theorem ei_or {a b : Int} (a0 : 0 ≤ a) (a1 : a < 2147483648) (b0 : 0 ≤ b) (b1 : b < 2147483648) : es_or a b = ((a.toNat ||| b.toNat : Nat) : Int) := by
  obtain ⟨x, rfl⟩ := Int.eq_ofNat_of_zero_le a0
  obtain ⟨y, rfl⟩ := Int.eq_ofNat_of_zero_le b0
  exact eb_or (by omega) (by omega)
theorem pow31 {k : Int} (h0 : 0 ≤ k) (h1 : k < 31) : (0 : Int) < 2 ^ k.toNat ∧ (2 : Int) ^ k.toNat < 2147483648 ∧ ((2 : Int) ^ k.toNat).toNat = 2 ^ k.toNat := by
  have h : (2 : Nat) ^ k.toNat < 2 ^ 31 := Nat.pow_lt_pow_right (by decide) (by omega)
  have h2 : 0 < (2 : Nat) ^ k.toNat := Nat.two_pow_pos _
  have e : ((2 ^ k.toNat : Nat) : Int) = 2 ^ k.toNat := by simp
  omega
theorem ei_or1 {a v : Int} (a0 : 0 ≤ a) (a1 : a < 2147483648) (v0 : 0 ≤ v) (v1 : v < 31) : es_or a (es_shl 1 v) = ((a.toNat ||| 2 ^ v.toNat : Nat) : Int) := by
  have h := pow31 v0 v1
  rw [ei_shl v0 v1, ei_or a0 a1 (by omega) (by omega), h.2.2]
theorem ei_or0 {a : Int} (a0 : 0 ≤ a) (a1 : a < 2147483648) : es_or a 0 = a := by
  rw [ei_or a0 a1 (by omega) (by omega)]
  simp; omega
/-- what holds of a service's turn: all ahead of it in the aim are done -/
abbrev free (T : es_M) (v aim done : Int) : Prop := es_dif ((T 12 v).toNat &&& aim.toNat) done.toNat = 0
def dnF (T : es_M) (p done aim : Int) : Int := if ¬ T 13 p = -1 ∧ ebit aim (T 13 p) ∧ free T (T 13 p) aim done then ((done.toNat ||| 2 ^ (T 13 p).toNat : Nat) : Int) else done
theorem or_lt1024 {a b : Nat} (ha : a < 1024) (hb : b < 1024) : a ||| b < 1024 := Nat.or_lt_two_pow (n := 10) ha hb
theorem pow1024 {v : Int} (h : v < 10) : 2 ^ v.toNat < 1024 := Nat.pow_lt_pow_right (n := 10) (by decide) (by omega)
theorem dnF_r {T : es_M} (hT : TI T) {p done aim : Int} (p0 : 0 ≤ p) (p1 : p < 36) (d0 : 0 ≤ done) (d1 : done < 1024) : 0 ≤ dnF T p done aim ∧ dnF T p done aim < 1024 := by
  have hv := hT.v
  unfold dnF
  split
  · rename_i h
    rcases hT.dn p0 p1 with e | ⟨e, -, -⟩
    · exact absurd e h.1
    · have := or_lt1024 (a := done.toNat) (b := 2 ^ (T 13 p).toNat) (by omega) (pow1024 (by omega))
      omega
  · exact ⟨d0, d1⟩
/-- the pass from a corner to a corner -/
def pbF (T : es_M) (a b : Int) : Int := if joF T a b = -1 then -1 else if T 2 (joF T a b) = a then (if ln T (2 * joF T a b) = -1 then -1 else 2 * joF T a b) else (if ln T (2 * joF T a b + 1) = -1 then -1 else 2 * joF T a b + 1)
theorem joF_of {T : es_M} (hT : TI T) {a b : Int} (h : ¬ joF T a b = -1) : (0 ≤ a ∧ a < 12) ∧ (0 ≤ b ∧ b < 12) ∧ (0 ≤ joF T a b ∧ joF T a b < T 1 0) ∧ ((T 2 (joF T a b) = a ∧ T 3 (joF T a b) = b) ∨ (T 2 (joF T a b) = b ∧ T 3 (joF T a b) = a)) := by
  unfold joF at h ⊢
  by_cases q : 0 ≤ a ∧ a < 12 ∧ 0 ≤ b ∧ b < 12
  · rw [if_pos q] at h ⊢
    rcases hT.jt q.1 q.2.1 q.2.2.1 q.2.2.2 with z | z
    · exact absurd z h
    · exact ⟨by omega, by omega, z⟩
  · rw [if_neg q] at h; exact absurd rfl h
theorem joF_in {T : es_M} (hT : TI T) {a b s : Int} (h0 : 0 ≤ s) (h1 : s < T 1 0) (h : (T 2 s = a ∧ T 3 s = b) ∨ (T 2 s = b ∧ T 3 s = a)) : joF T a b = s := by
  obtain ⟨a1, a2, -⟩ := hT.st h0 h1
  obtain ⟨b1, b2⟩ := hT.js h0 h1
  unfold joF
  rw [if_pos (by omega)]
  rcases h with ⟨rfl, rfl⟩ | ⟨rfl, rfl⟩
  · exact b1
  · exact b2
theorem even2 (s : Int) : (2 * s) % 2 = 0 ∧ (2 * s) / 2 = s ∧ ¬ (2 * s + 1) % 2 = 0 ∧ (2 * s + 1) / 2 = s ∧ (2 * s + 1) % 2 = 1 := by omega
theorem pbF_of {T : es_M} (hT : TI T) {a b : Int} (h : ¬ pbF T a b = -1) : (0 ≤ pbF T a b ∧ pbF T a b < 2 * T 1 0) ∧ og T (pbF T a b) = a ∧ gl T (pbF T a b) = b ∧ 1 ≤ ln T (pbF T a b) := by
  have h' := h
  unfold pbF at h' ⊢
  by_cases q : joF T a b = -1
  · rw [if_pos q] at h'; exact absurd rfl h'
  · rw [if_neg q] at h' ⊢
    obtain ⟨a1, a2, a3, a4⟩ := joF_of hT q
    have hs := hT.st a3.1 a3.2
    obtain ⟨e1, e2, e3, e4, e5⟩ := even2 (joF T a b)
    by_cases w : T 2 (joF T a b) = a
    · rw [if_pos w] at h' ⊢
      by_cases v : ln T (2 * joF T a b) = -1
      · rw [if_pos v] at h'; exact absurd rfl h'
      · rw [if_neg v]
        have hb : T 3 (joF T a b) = b := by
          rcases a4 with z | z
          · exact z.2
          · exact absurd (by omega) hs.2.2.1
        have hl := (hT.ps (p := 2 * joF T a b) (by omega) (by omega)).2.2.2.1
        refine ⟨by omega, ?_, ?_, by omega⟩
        · unfold og; rw [if_pos e1, e2, w]
        · unfold gl; rw [if_pos e1, e2, hb]
    · rw [if_neg w] at h' ⊢
      by_cases v : ln T (2 * joF T a b + 1) = -1
      · rw [if_pos v] at h'; exact absurd rfl h'
      · rw [if_neg v]
        have hb : T 2 (joF T a b) = b ∧ T 3 (joF T a b) = a := by
          rcases a4 with z | z
          · exact absurd z.1 w
          · exact z
        have hl := (hT.ps (p := 2 * joF T a b + 1) (by omega) (by omega)).2.2.2.1
        refine ⟨by omega, ?_, ?_, by omega⟩
        · unfold og; rw [if_neg e3, e4, hb.2]
        · unfold gl; rw [if_neg e3, e4, hb.1]
theorem pbF_in {T : es_M} (hT : TI T) {a b p : Int} (h0 : 0 ≤ p) (h1 : p < 2 * T 1 0) (ha : og T p = a) (hb : gl T p = b) (hl : ¬ ln T p = -1) : pbF T a b = p := by
  have hs := hT.st (s := p / 2) (by omega) (by omega)
  unfold og at ha
  unfold gl at hb
  by_cases e : p % 2 = 0
  · rw [if_pos e] at ha hb
    have hj : joF T a b = p / 2 := joF_in hT (by omega) (by omega) (Or.inl ⟨ha, hb⟩)
    unfold pbF
    rw [hj, if_neg (by omega), if_pos ha, show 2 * (p / 2) = p by omega, if_neg hl]
  · rw [if_neg e] at ha hb
    have hj : joF T a b = p / 2 := joF_in hT (by omega) (by omega) (Or.inr ⟨hb, ha⟩)
    unfold pbF
    rw [hj, if_neg (by omega), if_neg (fun z => hs.2.2.1 (by omega)), show 2 * (p / 2) + 1 = p by omega, if_neg hl]
section
variable {d : Nat} {Q : Int → es_M → Prop} {T M : es_M}
theorem s_passBetween (hT : TI T) (hR : RepC T M) {a b : Int} (h : Q (pbF T a b) M) : es_Call (d + 3) 66 [.inr (.inr 1), .inl a, .inl b] M Q := by
  apply c_Town_passBetween
  have hn := hT.n
  refine s_joining hR ⟨fun q => ?_, fun q => ?_⟩
  · obtain ⟨a1, a2, a3, a4⟩ := joF_of hT q
    rw [show w32 (w32 (2 * joF T a b) + 1) = 2 * joF T a b + 1 from by unfold w32; omega, show w32 (2 * joF T a b) = 2 * joF T a b from by unfold w32; omega, hR 2 _ rfl]
    unfold pbF at h
    rw [if_neg q] at h
    refine ⟨by omega, fun w => s_length hR (by omega) (by omega) ⟨fun v => ?_, fun v => ?_⟩, fun w => s_length hR (by omega) (by omega) ⟨fun v => ?_, fun v => ?_⟩⟩
    · rw [if_neg w, if_neg v] at h; exact h
    · rw [if_neg w, if_pos v] at h; exact h
    · rw [if_pos w, if_neg v] at h; exact h
    · rw [if_pos w, if_pos v] at h; exact h
  · unfold pbF at h
    rw [if_pos q] at h; exact h
theorem s_m_streetBetween (hT : TI T) (hR : RepM T M) {a b n : Int} (hn : n = T 1 0) (h : Q (joF T a b) M) : es_Call (d + 1) 183 [.inr (.inr 91), .inl a, .inl b, .inl n] M Q := by
  apply m_Model_streetBetween
  intro G hG
  apply k_Model_streetBetween_0 hG
  subst hn
  have hnn := hT.n
  have key : ∀ (k : Nat) (i : Int), 0 ≤ i → i + k = T 1 0 → (∀ s, 0 ≤ s → s < i → ¬ ((T 2 s = a ∧ T 3 s = b) ∨ (T 2 s = b ∧ T 3 s = a))) → G 3 [lr 91, li a, li b, li (T 1 0), li i] [] M := by
    intro k
    induction k with
    | zero =>
      intro i i0 ik hno
      apply k_Model_streetBetween_3 hG
      refine ⟨fun _ => ?_, fun z => absurd (by omega) z⟩
      by_cases q : joF T a b = -1
      · rw [q] at h; exact h
      · obtain ⟨-, -, a3, a4⟩ := joF_of hT q
        exact absurd a4 (hno _ a3.1 (by omega))
    | succ k ih =>
      intro i i0 ik hno
      apply k_Model_streetBetween_3 hG
      obtain ⟨-, -, -, -, -, a6, a7, -⟩ := hT.st (s := i) i0 (by omega)
      rw [hR 93 _ rfl, hR 94 _ rfl, a6, a7, show w32 (i + 1) = i + 1 from by unfold w32; omega]
      have next : ¬ ((T 2 i = a ∧ T 3 i = b) ∨ (T 2 i = b ∧ T 3 i = a)) → G 3 [lr 91, li a, li b, li (T 1 0), li (i + 1)] [] M := by
        intro hi
        refine ih (i + 1) (by omega) (by omega) (fun s s0 s1 => ?_)
        by_cases e : s = i
        · subst e; exact hi
        · exact hno s s0 (by omega)
      have found : ((T 2 i = a ∧ T 3 i = b) ∨ (T 2 i = b ∧ T 3 i = a)) → Q i M := by
        intro hi
        rw [joF_in hT i0 (by omega) hi] at h; exact h
      have hb : (0 ≤ i ∧ i < 36) := by omega
      refine ⟨fun z => absurd z (by omega), fun z => ⟨hb, fun p1 => ⟨hb, fun p2 => next (by omega), fun p2 => ⟨hb, fun p3 => next (by omega), fun p3 => found (by omega)⟩⟩, fun p1 => ⟨hb, fun p2 => found (by omega), fun p2 => ⟨hb, fun p3 => next (by omega), fun p3 => ⟨hb, fun p4 => next (by omega), fun p4 => found (by omega)⟩⟩⟩⟩⟩
  exact key (T 1 0).toNat 0 (by omega) (by omega) (fun s s0 s1 => by omega)
theorem s_m_passBetween (hT : TI T) (hR : RepM T M) {a b : Int} (h : Q (pbF T a b) M) : es_Call (d + 2) 201 [.inr (.inr 91), .inl a, .inl b] M Q := by
  apply c_Model_passBetween
  have hn := hT.n
  rw [hR 91 3 rfl, hn.2.2]
  refine s_m_streetBetween hT hR rfl ⟨fun q => ?_, fun q => ?_⟩
  · obtain ⟨a1, a2, a3, a4⟩ := joF_of hT (a := a) (b := b) (by omega)
    obtain ⟨e1, e2, e3, e4, e5⟩ := even2 (joF T a b)
    obtain ⟨-, -, -, b4, b5, b6, -, b8, b9, -⟩ := hT.st a3.1 a3.2
    rw [show w32 (w32 (2 * joF T a b) + 1) = 2 * joF T a b + 1 from by unfold w32; omega, show w32 (2 * joF T a b) = 2 * joF T a b from by unfold w32; omega, hR 93 _ rfl, hR 95 _ rfl, hR 95 _ rfl, b6, b8, b9]
    unfold pbF at h
    rw [if_neg (by omega)] at h
    have l0 : ln T (2 * joF T a b) = T 4 (joF T a b) := by unfold ln; rw [if_pos e1, e2]
    have l1 : ln T (2 * joF T a b + 1) = T 5 (joF T a b) := by unfold ln; rw [if_neg e3, e4]
    rw [l0, l1] at h
    refine ⟨by omega, fun w => ⟨by omega, fun v => ?_, fun v => ?_⟩, fun w => ⟨by omega, fun v => ?_, fun v => ?_⟩⟩
    · rw [if_neg w, if_pos (by omega)] at h; exact h
    · rw [if_neg w, if_neg (by omega)] at h; exact h
    · omega
    · rw [if_pos w, if_neg (by omega)] at h; exact h
  · unfold pbF at h
    by_cases z : joF T a b = -1
    · rw [if_pos z] at h; exact h
    · have := (joF_of hT z).2.2.1
      omega
theorem s_doneWith (hT : TI T) (hR : RepC T M) {p done aim : Int} (p0 : 0 ≤ p) (p1 : p < 36) (d0 : 0 ≤ done) (d1 : done < 1024) (a0 : 0 ≤ aim) (a1 : aim < 1024) (h : Q (dnF T p done aim) M) : es_Call (d + 2) 65 [.inr (.inr 1), .inl p, .inl done, .inl aim] M Q := by
  apply c_Town_doneWith
  have hv := hT.v
  have hr := hT.dn p0 p1
  unfold dnF at h
  rw [hR 13 _ rfl]
  refine ⟨by omega, fun z => ?_, fun z => ?_⟩
  · rw [if_neg (fun w => w.1 z)] at h; exact h
  · obtain ⟨r1, -, -⟩ := hr.resolve_left z
    have hah := hT.ah (v := T 13 p) r1.1 (by omega)
    have hp : (2 : Int) ^ (T 1 1).toNat ≤ 2 ^ 10 := pow_le (by omega)
    refine s_has a0 (by omega) r1.1 (by omega) (fun w => es_t1 ?_) (fun w => es_t0 ?_)
    · rw [hR 12 _ rfl, ei_free hah.2.1 (by omega) a0 (by omega) d0 (by omega), ei_or1 d0 (by omega) r1.1 (by omega)]
      refine ⟨by omega, fun v => ?_, fun v => ?_⟩
      · rw [if_pos ⟨z, w, v⟩] at h; exact h
      · rw [if_neg (fun u => v u.2.2)] at h; exact h
    · rw [if_neg (fun u => w u.2.1)] at h; exact h
theorem s_m_isDoneBy (hT : TI T) (hR : RepM T M) {v p : Int} (v0 : 0 ≤ v) (v1 : v < T 1 1) (p0 : 0 ≤ p) (p1 : p < 72) (hy : isDone T v p → Q 1 M) (hn : ¬ isDone T v p → Q 0 M) : es_Call (d + 1) 202 [.inr (.inr 91), .inl v, .inl p] M Q := by
  apply c_Model_isDoneBy
  have hv := hT.v
  have hm := hT.mv v0 v1
  rw [ei_div p0 (by omega) (by decide) (by decide), ei_rem p0 (by omega) (by decide) (by decide), hR 106 _ rfl, hR 107 _ rfl, hm.1, hm.2, show w32 (p % 2 + 1) = p % 2 + 1 from by unfold w32; omega]
  refine ⟨by omega, by decide, fun z => ⟨es_b0, hn (fun w => z w.1)⟩, fun z => ⟨by omega, fun w => ⟨es_b1, hy ⟨z, Or.inl w⟩⟩, fun w => ⟨by omega, by decide, fun u => ⟨es_b0, hn (fun x => x.2.elim w u)⟩, fun u => ⟨es_b1, hy ⟨z, Or.inr u⟩⟩⟩⟩⟩
theorem s_m_doneBehind (hT : TI T) (hR : RepM T M) {p done aim : Int} (p0 : 0 ≤ p) (p1 : p < 36) (d0 : 0 ≤ done) (d1 : done < 1024) (a0 : 0 ≤ aim) (a1 : aim < 1024) (h : Q (dnF T p done aim) M) : es_Call (d + 2) 232 [.inr (.inr 91), .inl p, .inl done, .inl aim] M Q := by
  apply m_Model_doneBehind
  intro G hG
  apply k_Model_doneBehind_0 hG
  have hv := hT.v
  have hr := hT.dn p0 p1
  have key : ∀ (k : Nat) (i t : Int), 0 ≤ i → i + k = T 1 1 → t = (if (¬ T 13 p = -1 ∧ ebit aim (T 13 p) ∧ free T (T 13 p) aim done) ∧ T 13 p < i then ((done.toNat ||| 2 ^ (T 13 p).toNat : Nat) : Int) else done) → G 6 [lr 91, li p, li done, li aim, li t, li i, none] [] M := by
    intro k
    induction k with
    | zero =>
      intro i t i0 ik ht
      apply k_Model_doneBehind_6 hG
      rw [hR 91 23 rfl, hv.2.2]
      refine ⟨fun _ => ?_, fun z => absurd (by omega) z⟩
      rw [ht]
      unfold dnF at h
      by_cases q : ¬ T 13 p = -1 ∧ ebit aim (T 13 p) ∧ free T (T 13 p) aim done
      · have := hr.resolve_left q.1
        rw [if_pos q] at h
        rw [if_pos ⟨q, by omega⟩]; exact h
      · rw [if_neg q] at h
        rw [if_neg (fun w => q w.1)]; exact h
    | succ k ih =>
      intro i t i0 ik ht
      apply k_Model_doneBehind_6 hG
      have hah := hT.ah (v := i) i0 (by omega)
      have hp : (2 : Int) ^ (T 1 1).toNat ≤ 2 ^ 10 := pow_le (by omega)
      have ht0 : 0 ≤ t ∧ t < 1024 := by
        rw [ht]; split
        · have := hr.resolve_left (by rename_i q; exact q.1.1)
          have := or_lt1024 (a := done.toNat) (b := 2 ^ (T 13 p).toNat) (by omega) (pow1024 (by omega))
          omega
        · exact ⟨d0, d1⟩
      rw [hR 91 23 rfl, hv.2.2, hR 108 _ rfl, hah.1, ei_free hah.2.1 (by omega) a0 (by omega) d0 (by omega), ei_or0 ht0.1 (by omega), ei_or1 ht0.1 (by omega) i0 (by omega), show w32 (i + 1) = i + 1 from by unfold w32; omega]
      have skip : ¬ (ebit aim i ∧ free T i aim done ∧ isDone T i p) → G 6 [lr 91, li p, li done, li aim, li t, li (i + 1), none] [] M := by
        intro hno
        refine ih (i + 1) t (by omega) (by omega) ?_
        rw [ht]
        by_cases q : ¬ T 13 p = -1 ∧ ebit aim (T 13 p) ∧ free T (T 13 p) aim done
        · have hd := hr.resolve_left q.1
          have hne : ¬ T 13 p = i := fun e => hno (by rw [← e]; exact ⟨q.2.1, q.2.2, hd.2.2⟩)
          by_cases w : T 13 p < i
          · rw [if_pos ⟨q, w⟩, if_pos ⟨q, by omega⟩]
          · rw [if_neg (fun u => w u.2), if_neg (fun u => w (by omega))]
        · rw [if_neg (fun u => q u.1), if_neg (fun u => q u.1)]
      have take : ebit aim i → free T i aim done → isDone T i p → G 6 [lr 91, li p, li done, li aim, li ((t.toNat ||| 2 ^ i.toNat : Nat) : Int), li (i + 1), none] [] M := by
        intro h1 h2 h3
        refine ih (i + 1) _ (by omega) (by omega) ?_
        have e := hT.dn2 i0 (by omega) p0 h3
        rw [e] at ht ⊢
        rw [if_neg (fun u => by omega)] at ht
        rw [if_pos ⟨⟨by omega, h1, h2⟩, by omega⟩, ht]
      refine ⟨fun z => absurd z (by omega), fun z => ⟨by omega, fun w => ?_, fun w => ?_⟩⟩
      · exact s_m_has a0 (by omega) i0 (by omega) (fun x => es_t1 (es_t0 (skip (fun u => w u.2.1)))) (fun x => es_t0 (skip (fun u => x u.1)))
      · exact s_m_has a0 (by omega) i0 (by omega) (fun x => es_t1 (es_t1 (s_m_isDoneBy hT hR i0 (by omega) p0 (by omega) (fun y => es_t1 (take x w y)) (fun y => es_t0 (skip (fun u => y u.2.2)))))) (fun x => es_t0 (skip (fun u => x u.1)))
  exact key (T 1 1).toNat 0 done (by omega) (by omega) (by rw [if_neg (fun u => by have := hr.resolve_left u.1.1; omega)])
end
