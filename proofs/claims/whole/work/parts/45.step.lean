/-! CONTRACTS OF SMALL METHODS: codes, doers, steps from pass to pass -/
/-- the pass of a code -/
def poF (T : es_M) (k : Int) : Int := 2 * T 10 (k / 2) + k % 2
theorem poF_r {T : es_M} (hT : TI T) {k : Int} (h0 : 0 ≤ k) (h1 : k < 2 * T 1 1) : 0 ≤ poF T k ∧ poF T k < 2 * T 1 0 ∧ poF T k < 36 ∧ poF T k / 2 = T 10 (k / 2) ∧ poF T k % 2 = k % 2 := by
  have hn := hT.n
  have hs := hT.sr (v := k / 2) (by omega) (by omega)
  unfold poF
  omega
/-- where a walk stands: behind a pass, or (36) at the corner c -/
def cr (T : es_M) (c p : Int) : Int := if p = 36 then c else gl T p
def tb (T : es_M) (p q : Int) : Int := if p = 36 then 0 else tmF T (og T p) (og T q) (gl T q)
def stp (T : es_M) (c p q : Int) : Int := if goes T q ∧ og T q = cr T c p ∧ ¬ tb T p q = -1 then tb T p q + ln T q else 1000000
/-- the passes of a town, and 36 -/
def isP (T : es_M) (p : Int) : Prop := 0 ≤ p ∧ p < 2 * T 1 0
theorem tb_r {T : es_M} (hT : TI T) {p q : Int} (hp : p = 36 ∨ isP T p) (hq : isP T q) : -1 ≤ tb T p q ∧ tb T p q ≤ 99 := by
  obtain ⟨a1, a2, -⟩ := hT.ps hq.1 hq.2
  unfold tb
  split
  · omega
  · rename_i e
    have hp := hp.resolve_left e
    obtain ⟨b1, b2, -⟩ := hT.ps hp.1 hp.2
    exact hT.tm b1 a1 a2
theorem stp_r {T : es_M} (hT : TI T) {c p q : Int} (hp : p = 36 ∨ isP T p) (hq : isP T q) : stp T c p q = 1000000 ∨ ((1 ≤ stp T c p q ∧ stp T c p q ≤ 198) ∧ goes T q ∧ og T q = cr T c p ∧ ¬ tb T p q = -1 ∧ stp T c p q = tb T p q + ln T q) := by
  unfold stp
  split
  · rename_i h
    right
    obtain ⟨a1, a2, a3, a4, -⟩ := hT.ps hq.1 hq.2
    have h1 := h.1.1
    have h2 := tb_r hT hp hq
    refine ⟨by omega, h.1, h.2.1, h.2.2, rfl⟩
  · exact Or.inl rfl
section
variable {d : Nat} {Q : Int → es_M → Prop} {T M : es_M}
theorem s_passOf (hT : TI T) (hR : RepC T M) {k : Int} (h0 : 0 ≤ k) (h1 : k < 2 * T 1 1) (h : Q (poF T k) M) : es_Call (d + 1) 60 [.inr (.inr 1), .inl k] M Q := by
  apply c_Town_passOf
  have hv := hT.v
  have hn := hT.n
  have hs := hT.sr (v := k / 2) (by omega) (by omega)
  rw [ei_shr1 h0 (by omega), ei_and1 h0 (by omega), hR 10 _ rfl, show w32 (w32 (2 * T 10 (k / 2)) + k % 2) = poF T k from by unfold poF; unfold w32; omega]
  exact ⟨by omega, h⟩
theorem s_canDo (hT : TI T) (hR : RepC T M) {k : Int} (h0 : 0 ≤ k) (h1 : k < 2 * T 1 1) (hy : canDo T k → Q 1 M) (hn : ¬ canDo T k → Q 0 M) : es_Call (d + 2) 59 [.inr (.inr 1), .inl k] M Q := by
  apply c_Town_canDo
  have hv := hT.v
  obtain ⟨p0, p1, p2, -, -⟩ := poF_r hT h0 h1
  refine s_passOf hT hR h0 h1 ?_
  rw [ei_shr1 h0 (by omega), hR 13 _ rfl]
  refine ⟨by omega, fun z => ⟨es_b0, hn (fun w => z w.1)⟩, fun z => s_length hR p0 p2 ⟨fun w => ⟨es_b0, hn (fun u => u.2 w)⟩, fun w => ⟨es_b1, hy ⟨z, w⟩⟩⟩⟩
theorem s_doer (hT : TI T) (hR : RepC T M) {k : Int} (h0 : 0 ≤ k) (h1 : k < 2 * T 1 1) (hy : canDo T k → goes T (poF T k) → Q (poF T k) M) (hn : ¬ (canDo T k ∧ goes T (poF T k)) → Q (-1) M) : es_Call (d + 3) 90 [.inr (.inr 60), .inl k] M Q := by
  apply c_Ways_doer
  obtain ⟨p0, p1, p2, -, -⟩ := poF_r hT h0 h1
  refine s_passOf hT hR h0 h1 ?_
  exact s_canDo hT hR h0 h1 (fun a => es_t1 (s_goes hT hR p0 p2 (fun b => es_t1 (hy a b)) (fun b => es_t0 (hn (fun u => b u.2))))) (fun a => es_t0 (hn (fun u => a u.1)))
theorem s_turnBetween (hT : TI T) (hR : RepC T M) {p q : Int} (hp : isP T p) (hq : isP T q) (h : Q (tmF T (og T p) (gl T p) (gl T q)) M) : es_Call (d + 2) 95 [.inr (.inr 60), .inl p, .inl q] M Q := by
  apply c_Ways_turnBetween
  have hn := hT.n
  obtain ⟨a1, a2, -⟩ := hT.ps hp.1 hp.2
  obtain ⟨b1, b2, -⟩ := hT.ps hq.1 hq.2
  have e1 := hp.1; have e2 := hp.2; have e3 := hq.1; have e4 := hq.2
  refine s_origin hR e1 (by omega) (s_goal hR e1 (by omega) (s_goal hR e3 (by omega) ?_))
  rw [hR 14 5 rfl]
  exact s_turnMinutes hR a1 a2 b2 rfl h
theorem s_step (hT : TI T) (hR : RepC T M) {c p q : Int} (hp : isP T p) (hq : isP T q) (h : Q (stp T c p q) M) : es_Call (d + 3) 94 [.inr (.inr 60), .inl p, .inl q] M Q := by
  apply c_Ways_stepMinutes
  have hn := hT.n
  have e1 := hp.1; have e2 := hp.2; have e3 := hq.1; have e4 := hq.2
  obtain ⟨a1, a2, -⟩ := hT.ps hp.1 hp.2
  obtain ⟨b1, b2, -, b4, -⟩ := hT.ps hq.1 hq.2
  have ht := hT.tm a1 a2 b2
  have e36 : ¬ p = 36 := by omega
  unfold stp cr tb at h
  rw [if_neg e36, if_neg e36] at h
  refine s_goes hT hR e3 (by omega) (fun g => es_f1 ⟨fun _ => ?_, fun z => absurd z (by omega)⟩) (fun g => es_f0 ?_)
  · refine s_goal hR e1 (by omega) (s_origin hR e3 (by omega) ⟨fun z => ?_, fun z => ?_⟩)
    · refine s_turnBetween hT hR hp hq ⟨fun w => s_length hR e3 (by omega) ?_, fun w => ?_⟩
      · rw [show w32 (tmF T (og T p) (gl T p) (gl T q) + ln T q) = tmF T (og T p) (gl T p) (gl T q) + ln T q from by unfold w32; omega]
        rw [z] at w ⊢
        rw [if_pos ⟨g, z.symm, w⟩] at h; exact h
      · rw [z] at w
        rw [if_neg (fun u => u.2.2 w)] at h; exact h
    · rw [if_neg (fun u => z u.2.1.symm)] at h; exact h
  · rw [if_neg (fun u => g u.1)] at h; exact h
theorem s_step0 (hT : TI T) (hR : RepC T M) {q : Int} (hq : isP T q) (h : Q (if goes T q then ln T q else 1000000) M) : es_Call (d + 3) 94 [.inr (.inr 60), .inl (-1), .inl q] M Q := by
  apply c_Ways_stepMinutes
  have hn := hT.n
  have e3 := hq.1; have e4 := hq.2
  refine s_goes hT hR e3 (by omega) (fun g => es_f1 ⟨fun z => absurd rfl z, fun _ => s_length hR e3 (by omega) ?_⟩) (fun g => es_f0 ?_)
  · rw [if_pos g] at h; exact h
  · rw [if_neg g] at h; exact h
theorem stp_36 {T : es_M} {c q : Int} (h : og T q = c) : stp T c 36 q = if goes T q then ln T q else 1000000 := by
  unfold stp cr tb
  rw [if_pos rfl, if_pos rfl]
  by_cases g : goes T q
  · rw [if_pos ⟨g, h, by decide⟩, if_pos g]; omega
  · rw [if_neg (fun u => g u.1), if_neg g]
theorem s_m_corner (hT : TI T) (hR : RepM T M) {c p : Int} (hp : p = 36 ∨ isP T p) (h : Q (cr T c p) M) : es_Call (d + 2) 228 [.inr (.inr 91), .inl p, .inl c] M Q := by
  apply c_Model_corner_1
  unfold cr at h
  refine ⟨fun z => ?_, fun z => ?_⟩
  · rw [if_neg z] at h
    have hp := hp.resolve_left z
    exact s_m_ends hT hR hp.1 hp.2 h
  · rw [if_pos z] at h; exact h
theorem s_m_turnBetween (hT : TI T) (hR : RepM T M) {p q : Int} (hp : p = 36 ∨ isP T p) (hq : isP T q) (h : Q (tb T p q) M) : es_Call (d + 3) 231 [.inr (.inr 91), .inl p, .inl q] M Q := by
  apply c_Model_turnBetween
  unfold tb at h
  refine ⟨fun z => ?_, fun z => ?_⟩
  · rw [if_neg z] at h
    have hp := hp.resolve_left z
    obtain ⟨a1, a2, -⟩ := hT.ps hp.1 hp.2
    obtain ⟨b1, b2, -⟩ := hT.ps hq.1 hq.2
    exact s_m_begins hT hR hp.1 hp.2 (s_m_begins hT hR hq.1 hq.2 (s_m_ends hT hR hq.1 hq.2 (s_m_turnOf hT hR a1 b1 b2 h)))
  · rw [if_pos z] at h; exact h
theorem s_m_step (hT : TI T) (hR : RepM T M) {c p q : Int} (hp : p = 36 ∨ isP T p) (hq : isP T q) (h : Q (stp T c p q) M) : es_Call (d + 4) 230 [.inr (.inr 91), .inl p, .inl q, .inl c] M Q := by
  apply c_Model_stepMinutes
  have hn := hT.n
  have e3 := hq.1; have e4 := hq.2
  obtain ⟨b1, b2, -, b4, b5⟩ := hT.ps hq.1 hq.2
  have hr := tb_r hT hp hq
  unfold stp at h
  refine s_m_isPass hT hR e3 e4 (fun g => es_t1 ?_) (fun g => es_t0 ?_)
  · refine s_m_begins hT hR e3 e4 (s_m_corner hT hR hp ⟨fun z => ?_, fun z => ?_⟩)
    · refine s_m_turnBetween hT hR hp hq ⟨fun w => ?_, fun w => ?_⟩
      · rw [hR 95 _ rfl, b5]
        rw [if_pos ⟨g, z, by omega⟩] at h
        have : w32 (tb T p q + ln T q) = tb T p q + ln T q := by unfold w32; omega
        rw [this]
        exact ⟨by omega, h⟩
      · rw [if_neg (fun u => u.2.2 (by omega))] at h; exact h
    · rw [if_neg (fun u => z u.2.1)] at h; exact h
  · rw [if_neg (fun u => g u.1)] at h; exact h
theorem s_m_isState (hT : TI T) (hR : RepM T M) {p : Int} (p0 : 0 ≤ p) (p1 : p ≤ 36) (hy : p = 36 ∨ (isP T p ∧ goes T p) → Q 1 M) (hn : ¬ (p = 36 ∨ (isP T p ∧ goes T p)) → Q 0 M) : es_Call (d + 2) 227 [.inr (.inr 91), .inl p] M Q := by
  apply c_Model_isState
  have hnn := hT.n
  rw [hR 91 3 rfl, hnn.2.2, show w32 (2 * T 1 0) = 2 * T 1 0 from by unfold w32; omega]
  refine ⟨fun z => ⟨es_b1, hy (Or.inl z)⟩, fun z => ⟨fun w => ⟨es_b0, hn (fun u => u.elim z (fun v => by have := v.1.2; omega))⟩, fun w => s_m_isPass hT hR p0 (by omega) (fun g => es_t1 ⟨es_b1, hy (Or.inr ⟨⟨p0, by omega⟩, g⟩)⟩) (fun g => es_t0 ⟨es_b0, hn (fun u => u.elim z (fun v => g v.2))⟩)⟩⟩
end
