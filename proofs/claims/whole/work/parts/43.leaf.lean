/-! CONTRACTS OF THE SMALL METHODS, over a town -/
theorem es_t1 {A B : Prop} (h : B) : ((1 : Int) = 0 → A) ∧ (¬ (1 : Int) = 0 → B) := ⟨fun z => absurd z (by decide), fun _ => h⟩
theorem es_t0 {A B : Prop} (h : A) : ((0 : Int) = 0 → A) ∧ (¬ (0 : Int) = 0 → B) := ⟨fun _ => h, fun z => absurd rfl z⟩
theorem es_f1 {A B : Prop} (h : A) : (¬ (1 : Int) = 0 → A) ∧ ((1 : Int) = 0 → B) := ⟨fun _ => h, fun z => absurd z (by decide)⟩
theorem es_f0 {A B : Prop} (h : B) : (¬ (0 : Int) = 0 → A) ∧ ((0 : Int) = 0 → B) := ⟨fun z => absurd rfl z, fun _ => h⟩
theorem es_b0 : (0 : Int) = 0 ∨ (0 : Int) = 1 := Or.inl rfl
theorem es_b1 : (1 : Int) = 0 ∨ (1 : Int) = 1 := Or.inr rfl
theorem es_lc1 {a b : Int} : es_lcmp a b < 0 ↔ a < b := by unfold es_lcmp; split; constructor <;> intro h <;> omega; split <;> constructor <;> intro h <;> omega
theorem es_lc2 {a b : Int} : 0 < es_lcmp a b ↔ b < a := by unfold es_lcmp; split; constructor <;> intro h <;> omega; split <;> constructor <;> intro h <;> omega
section
variable {d : Nat} {Q : Int → es_M → Prop} {T M : es_M}
theorem s_isCorner {a : Int} (h1 : 0 ≤ a → a < 12 → Q 1 M) (h0 : ¬ (0 ≤ a ∧ a < 12) → Q 0 M) : es_Call (d + 1) 3 [.inl a] M Q := by
  apply c_EveryStreet_isCorner
  refine ⟨fun z => ⟨es_b0, h0 (by omega)⟩, fun z => ⟨fun w => ⟨es_b0, h0 (by omega)⟩, fun w => ⟨es_b1, h1 (by omega) (by omega)⟩⟩⟩
theorem s_isMinute {a : Int} (h1 : 0 ≤ a → a < 1440 → Q 1 M) (h0 : ¬ (0 ≤ a ∧ a < 1440) → Q 0 M) : es_Call (d + 1) 32 [.inl a] M Q := by
  apply c_EveryStreet_isMinute
  refine ⟨fun z => ⟨es_b0, h0 (by omega)⟩, fun z => ⟨fun w => ⟨es_b0, h0 (by omega)⟩, fun w => ⟨es_b1, h1 (by omega) (by omega)⟩⟩⟩
theorem s_has {b i : Int} (b0 : 0 ≤ b) (b1 : b < 2147483648) (i0 : 0 ≤ i) (i1 : i < 32) (h1 : ebit b i → Q 1 M) (h0 : ¬ ebit b i → Q 0 M) : es_Call (d + 1) 6 [.inl b, .inl i] M Q := by
  apply c_EveryStreet_has
  rw [ei_has b0 b1 i0 i1]
  exact ⟨fun z => ⟨es_b0, h0 z⟩, fun z => ⟨es_b1, h1 z⟩⟩
theorem s_m_has {b i : Int} (b0 : 0 ≤ b) (b1 : b < 2147483648) (i0 : 0 ≤ i) (i1 : i < 32) (h1 : ebit b i → Q 1 M) (h0 : ¬ ebit b i → Q 0 M) : es_Call (d + 1) 197 [.inl b, .inl i] M Q := by
  apply c_Model_has
  rw [ei_has b0 b1 i0 i1]
  exact ⟨fun z => ⟨es_b0, h0 z⟩, fun z => ⟨es_b1, h1 z⟩⟩
theorem s_m_in {a lo hi : Int} (h1 : lo ≤ a → a ≤ hi → Q 1 M) (h0 : ¬ (lo ≤ a ∧ a ≤ hi) → Q 0 M) : es_Call (d + 1) 172 [.inr (.inl a), .inr (.inl lo), .inr (.inl hi)] M Q := by
  apply c_Model_in
  rw [es_lc1, es_lc2]
  refine ⟨fun z => ⟨es_b0, h0 (by omega)⟩, fun z => ⟨fun w => ⟨es_b0, h0 (by omega)⟩, fun w => ⟨es_b1, h1 (by omega) (by omega)⟩⟩⟩
theorem s_m_truth {a : Int} (h1 : a ≠ 0 → Q 1 M) (h0 : a = 0 → Q 0 M) : es_Call (d + 1) 176 [.inl a] M Q := c_Model_truth ⟨h0, h1⟩
theorem s_m_isCorner {a : Int} (h1 : 0 ≤ a → a < 12 → Q 1 M) (h0 : ¬ (0 ≤ a ∧ a < 12) → Q 0 M) : es_Call (d + 2) 191 [.inl a] M Q :=
  c_Model_isCorner (s_m_in (fun a b => ⟨es_b1, h1 a (by omega)⟩) (fun z => ⟨es_b0, h0 (by omega)⟩))
theorem s_isStreet (hR : RepC T M) {s : Int} (h1 : 0 ≤ s → s < T 1 0 → Q 1 M) (h0 : ¬ (0 ≤ s ∧ s < T 1 0) → Q 0 M) : es_Call (d + 1) 54 [.inr (.inr 1), .inl s] M Q := by
  apply c_Town_isStreet
  rw [hR 1 0 rfl]
  refine ⟨fun z => ⟨es_b0, h0 (by omega)⟩, fun z => ⟨fun w => ⟨es_b0, h0 (by omega)⟩, fun w => ⟨es_b1, h1 (by omega) (by omega)⟩⟩⟩
theorem s_isService (hR : RepC T M) {s : Int} (h1 : 0 ≤ s → s < T 1 1 → Q 1 M) (h0 : ¬ (0 ≤ s ∧ s < T 1 1) → Q 0 M) : es_Call (d + 1) 56 [.inr (.inr 1), .inl s] M Q := by
  apply c_Town_isService
  rw [hR 1 1 rfl]
  refine ⟨fun z => ⟨es_b0, h0 (by omega)⟩, fun z => ⟨fun w => ⟨es_b0, h0 (by omega)⟩, fun w => ⟨es_b1, h1 (by omega) (by omega)⟩⟩⟩
theorem s_m_isStreet (hT : TI T) (hR : RepM T M) {s : Int} (h1 : 0 ≤ s → s < T 1 0 → Q 1 M) (h0 : ¬ (0 ≤ s ∧ s < T 1 0) → Q 0 M) : es_Call (d + 2) 186 [.inr (.inr 91), .inl s] M Q := by
  apply c_Model_isStreet
  have hn := hT.n
  rw [hR 91 3 rfl, hn.2.2, show w32 (T 1 0 - 1) = T 1 0 - 1 from by unfold w32; omega]
  exact s_m_in (fun a b => ⟨es_b1, h1 a (by omega)⟩) (fun z => ⟨es_b0, h0 (by omega)⟩)
theorem s_m_isService (hT : TI T) (hR : RepM T M) {s : Int} (h1 : 0 ≤ s → s < T 1 1 → Q 1 M) (h0 : ¬ (0 ≤ s ∧ s < T 1 1) → Q 0 M) : es_Call (d + 2) 194 [.inr (.inr 91), .inl s] M Q := by
  apply c_Model_isService
  have hn := hT.v
  rw [hR 91 23 rfl, hn.2.2, show w32 (T 1 1 - 1) = T 1 1 - 1 from by unfold w32; omega]
  exact s_m_in (fun a b => ⟨es_b1, h1 a (by omega)⟩) (fun z => ⟨es_b0, h0 (by omega)⟩)
/-- all services as bits -/
def allF (T : es_M) : Int := 2 ^ (T 1 1).toNat - 1
theorem pow_le {k n : Nat} (h : k ≤ n) : (2 : Int) ^ k ≤ 2 ^ n := by
  have := Nat.pow_le_pow_right (show 0 < 2 by decide) h
  exact_mod_cast this
theorem TI.all {T : es_M} (h : TI T) : 0 ≤ allF T ∧ allF T ≤ 1023 := by
  have hv := h.v
  have h1 : (2 : Int) ^ (T 1 1).toNat ≤ 2 ^ 10 := pow_le (by omega)
  have h2 : (2 : Int) ^ 0 ≤ 2 ^ (T 1 1).toNat := pow_le (by omega)
  unfold allF
  constructor <;> omega
theorem s_allServices (hT : TI T) (hR : RepC T M) (h : Q (allF T) M) : es_Call (d + 1) 58 [.inr (.inr 1)] M Q := by
  apply c_Town_allServices
  have hv := hT.v
  have ha := hT.all
  rw [hR 1 1 rfl, ei_shl hv.1 (by omega), show w32 (2 ^ (T 1 1).toNat - 1) = allF T from by unfold allF at ha ⊢; unfold w32; omega]
  exact h
theorem s_m_all (hT : TI T) (hR : RepM T M) (h : Q (allF T) M) : es_Call (d + 1) 225 [.inr (.inr 91)] M Q := by
  apply c_Model_all
  have hv := hT.v
  have ha := hT.all
  rw [hR 91 23 rfl, hv.2.2, ei_shl hv.1 (by omega), show w32 (2 ^ (T 1 1).toNat - 1) = allF T from by unfold allF at ha ⊢; unfold w32; omega]
  exact h
/-- the street between two corners -/
def joF (T : es_M) (a b : Int) : Int := if 0 ≤ a ∧ a < 12 ∧ 0 ≤ b ∧ b < 12 then T 8 (a * 12 + b) else -1
theorem s_joining (hR : RepC T M) {a b : Int} (h : Q (joF T a b) M) : es_Call (d + 2) 50 [.inr (.inr 1), .inl a, .inl b] M Q := by
  apply c_Town_joining
  unfold joF at h
  refine s_isCorner (fun a0 a1 => es_t1 (s_isCorner (fun b0 b1 => es_t1 ?_) (fun z => es_t0 ?_))) (fun z => es_t0 ?_)
  · rw [show w32 (w32 (a * 12) + b) = a * 12 + b from by unfold w32; omega, hR 8 _ rfl]
    rw [if_pos (by omega)] at h
    exact ⟨by omega, h⟩
  · rw [if_neg (by omega)] at h; exact h
  · rw [if_neg (by omega)] at h; exact h
theorem s_origin (hR : RepC T M) {p : Int} (h0 : 0 ≤ p) (h1 : p < 36) (h : Q (og T p) M) : es_Call (d + 1) 63 [.inr (.inr 1), .inl p] M Q := by
  apply c_Town_origin
  rw [ei_and1 h0 (by omega), ei_shr1 h0 (by omega), hR 2 _ rfl, hR 3 _ rfl]
  unfold og at h
  refine ⟨fun z => ⟨by omega, ?_⟩, fun z => ⟨by omega, ?_⟩⟩
  · rw [if_neg z] at h; exact h
  · rw [if_pos z] at h; exact h
theorem s_goal (hR : RepC T M) {p : Int} (h0 : 0 ≤ p) (h1 : p < 36) (h : Q (gl T p) M) : es_Call (d + 1) 62 [.inr (.inr 1), .inl p] M Q := by
  apply c_Town_goal
  rw [ei_and1 h0 (by omega), ei_shr1 h0 (by omega), hR 2 _ rfl, hR 3 _ rfl]
  unfold gl at h
  refine ⟨fun z => ⟨by omega, ?_⟩, fun z => ⟨by omega, ?_⟩⟩
  · rw [if_neg z] at h; exact h
  · rw [if_pos z] at h; exact h
theorem s_length (hR : RepC T M) {p : Int} (h0 : 0 ≤ p) (h1 : p < 36) (h : Q (ln T p) M) : es_Call (d + 1) 61 [.inr (.inr 1), .inl p] M Q := by
  apply c_Town_length
  rw [ei_and1 h0 (by omega), ei_shr1 h0 (by omega), hR 4 _ rfl, hR 5 _ rfl]
  unfold ln at h
  refine ⟨fun z => ⟨by omega, ?_⟩, fun z => ⟨by omega, ?_⟩⟩
  · rw [if_neg z] at h; exact h
  · rw [if_pos z] at h; exact h
theorem s_lesser (hR : RepC T M) {s : Int} (h0 : 0 ≤ s) (h1 : s < 18) (h : Q (lesF T s) M) : es_Call (d + 1) 64 [.inr (.inr 1), .inl s] M Q := by
  apply c_Town_lesser
  rw [hR 4 _ rfl, hR 5 _ rfl]
  unfold lesF at h
  refine ⟨⟨h0, h1⟩, fun z => ⟨⟨h0, h1⟩, ⟨h0, h1⟩, ?_⟩, fun z => ⟨⟨h0, h1⟩, ?_⟩⟩
  · rw [if_neg z] at h; exact h
  · rw [if_pos z] at h; exact h
theorem s_m_lesser (hT : TI T) (hR : RepM T M) {s : Int} (h0 : 0 ≤ s) (h1 : s < T 1 0) (h : Q (lesF T s) M) : es_Call (d + 1) 207 [.inr (.inr 91), .inl s] M Q := by
  apply c_Model_lesser
  have hn := hT.n
  obtain ⟨-, -, -, a4, a5, -, -, a8, a9, -⟩ := hT.st h0 h1
  rw [show w32 (w32 (2 * s) + 1) = 2 * s + 1 from by unfold w32; omega, show w32 (2 * s) = 2 * s from by unfold w32; omega, hR 95 _ rfl, hR 95 _ rfl, a8, a9]
  unfold lesF at h
  refine ⟨by omega, by omega, fun z => ?_, fun z => ?_⟩
  · rw [if_pos (by omega)] at h; exact h
  · rw [if_neg (by omega)] at h; exact h
theorem s_m_begins (hT : TI T) (hR : RepM T M) {p : Int} (h0 : 0 ≤ p) (h1 : p < 2 * T 1 0) (h : Q (og T p) M) : es_Call (d + 1) 221 [.inr (.inr 91), .inl p] M Q := by
  apply c_Model_begins
  have hn := hT.n
  obtain ⟨-, -, -, -, -, a6, a7, -⟩ := hT.st (s := p / 2) (by omega) (by omega)
  rw [ei_rem h0 (by omega) (by decide) (by decide), ei_div h0 (by omega) (by decide) (by decide), hR 93 _ rfl, hR 94 _ rfl, a6, a7]
  unfold og at h
  refine ⟨by decide, fun z => ⟨by decide, by omega, ?_⟩, fun z => ⟨by decide, by omega, ?_⟩⟩
  · rw [if_neg z] at h; exact h
  · rw [if_pos z] at h; exact h
theorem s_m_ends (hT : TI T) (hR : RepM T M) {p : Int} (h0 : 0 ≤ p) (h1 : p < 2 * T 1 0) (h : Q (gl T p) M) : es_Call (d + 1) 220 [.inr (.inr 91), .inl p] M Q := by
  apply c_Model_ends
  have hn := hT.n
  obtain ⟨-, -, -, -, -, a6, a7, -⟩ := hT.st (s := p / 2) (by omega) (by omega)
  rw [ei_rem h0 (by omega) (by decide) (by decide), ei_div h0 (by omega) (by decide) (by decide), hR 93 _ rfl, hR 94 _ rfl, a6, a7]
  unfold gl at h
  refine ⟨by decide, fun z => ⟨by decide, by omega, ?_⟩, fun z => ⟨by decide, by omega, ?_⟩⟩
  · rw [if_neg z] at h; exact h
  · rw [if_pos z] at h; exact h
/-- a pass that can be gone now -/
abbrev goes (T : es_M) (p : Int) : Prop := ¬ ln T p = -1 ∧ ¬ ebit (T 14 4) (p / 2)
theorem TI.sh {T : es_M} (h : TI T) : (0 ≤ T 14 4 ∧ T 14 4 < 262144) ∧ ∀ s, 0 ≤ s → s < 18 → (ebit (T 14 4) s → T 98 s = 1 ∧ s < T 1 0) ∧ (¬ ebit (T 14 4) s → T 98 s = 0) := h.S.2.1
theorem TI.bk {T : es_M} (h : TI T) : 0 ≤ T 14 5 ∧ T 14 5 ≤ 99 ∧ T 91 13 = T 14 5 := by have := h.S.1.2.2.2; exact this
theorem s_goes (hT : TI T) (hR : RepC T M) {p : Int} (h0 : 0 ≤ p) (h1 : p < 36) (hy : goes T p → Q 1 M) (hn : ¬ goes T p → Q 0 M) : es_Call (d + 2) 91 [.inr (.inr 60), .inl p] M Q := by
  apply c_Ways_goes
  refine s_length hR h0 h1 ⟨fun z => ⟨es_b0, hn (fun w => w.1 z)⟩, fun z => ?_⟩
  have hs := hT.sh
  rw [ei_shr1 h0 (by omega), hR 14 4 rfl]
  exact s_has hs.1.1 (by omega) (by omega) (by omega) (fun w => es_f1 ⟨es_b0, hn (fun v => v.2 w)⟩) (fun w => es_f0 ⟨es_b1, hy ⟨z, w⟩⟩)
theorem s_m_isPass (hT : TI T) (hR : RepM T M) {p : Int} (h0 : 0 ≤ p) (h1 : p < 2 * T 1 0) (hy : goes T p → Q 1 M) (hn : ¬ goes T p → Q 0 M) : es_Call (d + 1) 219 [.inr (.inr 91), .inl p] M Q := by
  apply c_Model_isPass
  have hs := hT.n
  obtain ⟨-, -, -, a4, a5⟩ := hT.ps h0 h1
  obtain ⟨b1, b2⟩ := hT.sh.2 (p / 2) (by omega) (by omega)
  rw [ei_div h0 (by omega) (by decide) (by decide), hR 95 _ rfl, hR 98 _ rfl, a5]
  refine ⟨by omega, fun z => ⟨es_b0, hn (fun w => w.1 (by omega))⟩, fun z => ⟨by decide, by omega, fun w => ⟨es_b0, hn (fun v => w (b2 v.2))⟩, fun w => ⟨es_b1, hy ⟨by omega, fun v => ?_⟩⟩⟩⟩
  have := (b1 v).1
  omega
/-- minutes of a turn, -1 if it is barred -/
def tmF (T : es_M) (a b c : Int) : Int := if T 9 ((a * 12 + b) * 12 + c) = -2 then (if a = c then T 14 5 else 0) else T 9 ((a * 12 + b) * 12 + c)
theorem TI.tm {T : es_M} (h : TI T) {a b c : Int} (ha : 0 ≤ a ∧ a < 12) (hb : 0 ≤ b ∧ b < 12) (hc : 0 ≤ c ∧ c < 12) : -1 ≤ tmF T a b c ∧ tmF T a b c ≤ 99 := by
  have h1 := h.tn (k := (a * 12 + b) * 12 + c) (by omega) (by omega)
  have h2 := h.bk
  unfold tmF
  split
  · split <;> omega
  · omega
theorem s_turnMinutes (hR : RepC T M) {a b c bm : Int} (ha : 0 ≤ a ∧ a < 12) (hb : 0 ≤ b ∧ b < 12) (hc : 0 ≤ c ∧ c < 12) (hbm : bm = T 14 5) (h : Q (tmF T a b c) M) : es_Call (d + 1) 55 [.inr (.inr 1), .inl a, .inl b, .inl c, .inl bm] M Q := by
  apply c_Town_turnMinutes
  rw [show w32 (w32 (w32 (w32 (a * 12) + b) * 12) + c) = (a * 12 + b) * 12 + c from by unfold w32; omega, hR 9 _ rfl]
  unfold tmF at h
  subst hbm
  refine ⟨by omega, fun z => ⟨fun w => ?_, fun w => ?_⟩, fun z => ⟨fun w => ?_, fun w => ?_⟩⟩
  · rw [if_neg z] at h; exact h
  · rw [if_neg z, w] at h; exact h
  · rw [if_pos z, if_neg w] at h; exact h
  · rw [if_pos z, if_pos w] at h; exact h
theorem s_m_turnOf (hT : TI T) (hR : RepM T M) {a b c : Int} (ha : 0 ≤ a ∧ a < 12) (hb : 0 ≤ b ∧ b < 12) (hc : 0 ≤ c ∧ c < 12) (h : Q (tmF T a b c) M) : es_Call (d + 2) 192 [.inr (.inr 91), .inl a, .inl b, .inl c] M Q := by
  apply c_Model_turnOf
  apply c_Model_turnAt
  rw [show w32 (w32 (w32 (w32 (a * 12) + b) * 12) + c) = (a * 12 + b) * 12 + c from by unfold w32; omega, hR 101 _ rfl, hR 91 13 rfl, hT.bk.2.2]
  have h1 := hT.tn (k := (a * 12 + b) * 12 + c) (by omega) (by omega)
  unfold tmF at h
  refine ⟨by omega, fun z => ⟨fun w => ⟨fun v => ?_, fun v => ?_⟩, fun w => ?_⟩, fun z => ?_⟩
  · rw [if_pos (by omega), if_neg v] at h; exact h
  · rw [if_pos (by omega), if_pos v] at h; exact h
  · rw [if_neg (by omega), show T 9 ((a * 12 + b) * 12 + c) = -1 by omega] at h; exact h
  · rw [if_neg (by omega), show T 9 ((a * 12 + b) * 12 + c) = T 101 ((a * 12 + b) * 12 + c) by omega] at h; exact h
end
