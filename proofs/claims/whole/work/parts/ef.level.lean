/-! LEVEL (6): what a choice of directions costs; the first of the best -/
section
variable {T : es_M}
/-- services have passes (-1: none yet): what is over at a corner, what they cost -/
def Bsv (T : es_M) (a : Int → Int) (x : Int) : Int := sm (fun s => if a s = -1 then 0 else dlt (gl T (a s)) x - dlt (og T (a s)) x) (T 1 1).toNat
def Csv (T : es_M) (a : Int → Int) : Int := sm (fun s => if a s = -1 then 0 else ln T (a s)) (T 1 1).toNat
def FEs (T : es_M) (a : Int → Int) (x : Int) : Prop := ∃ f, fok (2 * T 1 0).toNat (goes T) f ∧ (∀ y, 0 ≤ y → y < 12 → Bsv T a y + dvF (2 * T 1 0).toNat (og T) (gl T) f y = 0) ∧ Csv T a + coF (2 * T 1 0).toNat (ln T) f = x
theorem OPF.fe {a f : Int → Int} (h : OPF T (Bsv T a) f) : FEs T a (Csv T a + coF (2 * T 1 0).toNat (ln T) f) := ⟨f, h.1, h.2.2, rfl⟩
theorem OPF.min (hT : TI T) {a f : Int → Int} (h : OPF T (Bsv T a) f) {x : Int} (hx : FEs T a x) : Csv T a + coF (2 * T 1 0).toNat (ln T) f ≤ x := by
  obtain ⟨h1, ⟨pi, h2⟩, h3⟩ := h
  obtain ⟨f', q1, q2, q3⟩ := hx
  have := fl_least hT.gr h1 h2 q1 (fun x x0 x1 => by have := h3 x x0 x1; have := q2 x x0 x1; omega)
  omega
theorem Bsv_c {a a' : Int → Int} (e : ∀ s, 0 ≤ s → s < T 1 1 → a' s = a s) (x : Int) : Bsv T a' x = Bsv T a x := sm_congr _ (fun i i0 i1 => by rw [e i i0 (by omega)])
theorem Csv_c {a a' : Int → Int} (e : ∀ s, 0 ≤ s → s < T 1 1 → a' s = a s) : Csv T a' = Csv T a := sm_congr _ (fun i i0 i1 => by rw [e i i0 (by omega)])
theorem FEs_c {a a' : Int → Int} (e : ∀ s, 0 ≤ s → s < T 1 1 → a' s = a s) {x : Int} (h : FEs T a x) : FEs T a' x := by
  obtain ⟨f, h1, h2, h3⟩ := h
  exact ⟨f, h1, fun y y0 y1 => by rw [Bsv_c e]; exact h2 y y0 y1, by rw [Csv_c e]; exact h3⟩
theorem Bsv_u {a a' : Int → Int} {s P : Int} (s0 : 0 ≤ s) (s1 : s < T 1 1) (ha : a s = -1) (hP : P ≠ -1) (e1 : a' s = P) (e2 : ∀ t, t ≠ s → a' t = a t) (x : Int) : Bsv T a' x = addB T (Bsv T a) P x := by
  unfold Bsv addB
  rw [sm_upd (h := fun s => if a s = -1 then 0 else dlt (gl T (a s)) x - dlt (og T (a s)) x) s0 (fun i hi => by rw [e2 i hi]) _ (by omega), e1, if_neg hP, if_pos ha]
  rw [Int.sub_zero]
theorem Csv_u {a a' : Int → Int} {s P : Int} (s0 : 0 ≤ s) (s1 : s < T 1 1) (ha : a s = -1) (hP : P ≠ -1) (e1 : a' s = P) (e2 : ∀ t, t ≠ s → a' t = a t) : Csv T a' = Csv T a + ln T P := by
  unfold Csv
  rw [sm_upd (h := fun s => if a s = -1 then 0 else ln T (a s)) s0 (fun i hi => by rw [e2 i hi]) _ (by omega), e1, if_neg hP, if_pos ha]
  omega
/-- with a service less, its pass can be gone beside -/
theorem FEs_less {a a' : Int → Int} {s : Int} (hT : TI T) (s0 : 0 ≤ s) (s1 : s < T 1 1) (ha : a s = -1) (hP : isP T (a' s)) (hg : goes T (a' s)) (e2 : ∀ t, t ≠ s → a' t = a t) {x : Int} (h : FEs T a' x) : FEs T a x := by
  obtain ⟨f, h1, h2, h3⟩ := h
  have hn := hT.n
  have hP' : a' s ≠ -1 := by have := hP.1; omega
  have p1 : a' s < ((2 * T 1 0).toNat : Int) := by have := hP.2; omega
  have w1 : (fun p => if p = a' s then f p + 1 else f p) (a' s) = f (a' s) + 1 := if_pos rfl
  have w2 : ∀ p, p ≠ a' s → (fun p => if p = a' s then f p + 1 else f p) p = f p := fun p hp => if_neg hp
  refine ⟨fun p => if p = a' s then f p + 1 else f p, fun p p0 q => ?_, fun y y0 y1 => ?_, ?_⟩
  · by_cases e : p = a' s
    · have x := h1 p p0 q
      subst e
      rw [w1]; exact ⟨by omega, fun _ => hg⟩
    · rw [w2 p e]; exact h1 p p0 q
  · rw [dv_upd hP.1 p1 w2 y, if_pos rfl, show f (a' s) + 1 - f (a' s) = 1 by omega, Int.one_mul]
    have x := h2 y y0 y1
    rw [Bsv_u s0 s1 ha hP' rfl e2 y] at x
    unfold addB at x
    omega
  · rw [co_upd hP.1 p1 w2, if_pos rfl, show f (a' s) + 1 - f (a' s) = 1 by omega, Int.one_mul]
    rw [Csv_u s0 s1 ha hP' rfl e2] at h3
    omega
theorem FEs_ext {a a' : Int → Int} (hT : TI T) (h1 : ∀ s, 0 ≤ s → s < T 1 1 → a s = -1 ∨ a' s = a s) (h2 : ∀ s, 0 ≤ s → s < T 1 1 → isP T (a' s) ∧ goes T (a' s)) {x : Int} (h : FEs T a' x) : FEs T a x := by
  have hv := hT.v
  have key : ∀ j : Nat, (j : Int) ≤ T 1 1 → FEs T (fun s => if s < (j : Int) then a s else a' s) x := by
    intro j
    induction j with
    | zero => intro _; exact FEs_c (fun s s0 s1 => if_neg (by omega)) h
    | succ j ih =>
      intro hj
      have x := ih (by omega)
      rcases h1 j (by omega) (by omega) with e | e
      · refine FEs_less (s := j) (a' := fun s => if s < (j : Int) then a s else a' s) hT (by omega) (by omega) (by rw [if_pos (by omega)]; exact e) ?_ ?_ (fun t ht => ?_) x
        · rw [if_neg (by omega)]; exact (h2 j (by omega) (by omega)).1
        · rw [if_neg (by omega)]; exact (h2 j (by omega) (by omega)).2
        · by_cases z : t < (j : Int)
          · rw [if_pos z, if_pos (by omega)]
          · rw [if_neg z, if_neg (by omega)]
      · refine FEs_c (fun s s0 s1 => ?_) x
        by_cases z : s = (j : Int)
        · rw [z, if_pos (by omega), if_neg (by omega), e]
        · by_cases y : s < (j : Int)
          · rw [if_pos y, if_pos (by omega)]
          · rw [if_neg y, if_neg (by omega)]
  have y := key (T 1 1).toNat (by omega)
  exact FEs_c (fun s s0 s1 => by rw [if_pos (by omega)]) y
/-- directions: 0 or 1 of each service -/
def dOw (T : es_M) (s r : Int) : Prop := canDo T (2 * s + r) ∧ goes T (poF T (2 * s + r))
def okW (T : es_M) (w : Int → Int) : Prop := ∀ s, 0 ≤ s → s < T 1 1 → (w s = 0 ∨ w s = 1) ∧ dOw T s (w s)
def awF (T : es_M) (w : Int → Int) (s : Int) : Int := poF T (2 * s + w s)
def ACs (T : es_M) (w : Int → Int) (x : Int) : Prop := okW T w ∧ FEs T (awF T w) x
def smW (T : es_M) (w w' : Int → Int) : Prop := ∀ s, 0 ≤ s → s < T 1 1 → w s = w' s
def lxq (T : es_M) (q w w' : Int → Int) : Prop := ∃ j, 0 ≤ j ∧ j < T 1 1 ∧ w (q j) = 0 ∧ w' (q j) = 1 ∧ ∀ i, 0 ≤ i → i < j → w (q i) = w' (q i)
def ENC (T : es_M) (b : Int) (w : Int → Int) : Prop := (0 ≤ b ∧ b < 1024) ∧ ∀ s, 0 ≤ s → s < T 1 1 → (ebit b s → w s = 1) ∧ (¬ ebit b s → w s = 0)
def RESp (T : es_M) (q : Int → Int) (P : (Int → Int) → Prop) (L b L' b' : Int) : Prop :=
  (L' = L ∧ b' = b ∧ ∀ w x, P w → ACs T w x → L ≤ x) ∨ (L' < L ∧ ∃ w0, P w0 ∧ ACs T w0 L' ∧ ENC T b' w0 ∧ ∀ w x, P w → ACs T w x → L' ≤ x ∧ (x = L' → smW T w0 w ∨ lxq T q w0 w))
theorem RESp.two {q : Int → Int} {P P0 P1 : (Int → Int) → Prop} {L b L1 b1 L2 b2 : Int} (h0 : RESp T q P0 L b L1 b1) (h1 : RESp T q P1 L1 b1 L2 b2) (s0 : ∀ w, P0 w → P w) (s1 : ∀ w, P1 w → P w) (s : ∀ w, okW T w → P w → P0 w ∨ P1 w) (lx : ∀ w w', P0 w → P1 w' → lxq T q w w') : RESp T q P L b L2 b2 := by
  rcases h0 with ⟨rfl, rfl, a⟩ | ⟨a1, w0, a2, a3, a4, a5⟩
  · rcases h1 with ⟨rfl, rfl, c⟩ | ⟨c1, w1, c2, c3, c4, c5⟩
    · exact Or.inl ⟨rfl, rfl, fun w x hw ac => (s w ac.1 hw).elim (fun z => a w x z ac) (fun z => c w x z ac)⟩
    · refine Or.inr ⟨c1, w1, s1 _ c2, c3, c4, fun w x hw ac => (s w ac.1 hw).elim (fun z => ?_) (fun z => c5 w x z ac)⟩
      have := a w x z ac
      exact ⟨by omega, fun e => by omega⟩
  · rcases h1 with ⟨rfl, rfl, c⟩ | ⟨c1, w1, c2, c3, c4, c5⟩
    · refine Or.inr ⟨a1, w0, s0 _ a2, a3, a4, fun w x hw ac => (s w ac.1 hw).elim (fun z => a5 w x z ac) (fun z => ⟨c w x z ac, fun _ => Or.inr (lx w0 w a2 z)⟩)⟩
    · refine Or.inr ⟨by omega, w1, s1 _ c2, c3, c4, fun w x hw ac => (s w ac.1 hw).elim (fun z => ?_) (fun z => c5 w x z ac)⟩
      have := (a5 w x z ac).1
      exact ⟨by omega, fun e => by omega⟩
theorem RESp.none {q : Int → Int} {P : (Int → Int) → Prop} {L b : Int} (h : ∀ w x, P w → ACs T w x → L ≤ x) : RESp T q P L b L b := Or.inl ⟨rfl, rfl, h⟩
end
