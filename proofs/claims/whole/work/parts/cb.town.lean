/-! THE TOWN'S TEXT (2): the class's streets, items and the whole of a text -/
def DR (l : List It) (D : Int → Int) : Prop := ∀ (i : Nat) (it : It), l[i]? = some it → D (7 * i) = it.1 ∧ D (7 * i + 1) = it.2.1 ∧ D (7 * i + 2) = it.2.2.1 ∧ D (7 * i + 3) = it.2.2.2.1 ∧ D (7 * i + 4) = it.2.2.2.2.1 ∧ (it.1 = 0 → D (7 * i + 5) = it.2.2.2.2.2.1 ∧ D (7 * i + 6) = it.2.2.2.2.2.2)
/-- the street of an item joins two corners -/
def jnI (a b : Int) (it : It) : Prop := it.1 = 0 ∧ (it.2.1 = a ∧ it.2.2.1 = b ∨ it.2.1 = b ∧ it.2.2.1 = a)
def tjF (T : es_M) (l : List It) (a b : Int) : Bool := !decide (T 8 (a * 12 + b) = -1) || l.any fun it => decide (it.1 = 0 ∧ (it.2.1 = a ∧ it.2.2.1 = b ∨ it.2.1 = b ∧ it.2.2.1 = a))
theorem jn_t {T : es_M} {l : List It} {a b : Int} : tjF T l a b = true ↔ ¬ T 8 (a * 12 + b) = -1 ∨ ∃ it, it ∈ l ∧ jnI a b it := by
  unfold tjF jnI
  rw [Bool.or_eq_true, List.any_eq_true]
  simp only [Bool.not_eq_true', decide_eq_false_iff_not, decide_eq_true_eq]
theorem jn_f {T : es_M} {l : List It} {a b : Int} : tjF T l a b = false ↔ T 8 (a * 12 + b) = -1 ∧ ∀ it, it ∈ l → ¬ jnI a b it := by
  rw [← Bool.not_eq_true, jn_t]
  constructor
  · intro h
    refine ⟨?_, fun it hi hj => h (Or.inr ⟨it, hi, hj⟩)⟩
    by_cases z : T 8 (a * 12 + b) = -1
    · exact z
    · exact absurd (Or.inl z) h
  · rintro ⟨h1, h2⟩ (h | ⟨it, hi, hj⟩)
    · exact h h1
    · exact h2 it hi hj
theorem es_n2 {A B : Prop} (h : A) : (¬ (2 : Int) = 0 → A) ∧ ((2 : Int) = 0 → B) := ⟨fun _ => h, fun z => absurd z (by decide)⟩
theorem es_t2 {A B : Prop} (h : B) : ((2 : Int) = 0 → A) ∧ (¬ (2 : Int) = 0 → B) := ⟨fun z => absurd z (by decide), fun _ => h⟩
section
variable {d : Nat} {M : es_M} {Q : Int → es_M → Prop} {t : Int → Int} {L p : Int}
theorem s_second (h : RX t L p M) {l : List It} (hn : M 55 3 = l.length) (hn1 : l.length < 15) (hl : DR l (M 57)) {a : Int} (a0 : 0 ≤ a) (a1 : a < 12) (k1 : 0 ≤ cnF t L a p → tjF M l a (cnF t L a p) = false → ∀ M', RX t L (p + 1) M' → EqX M M' → Q (cnF t L a p) M') (k0 : cnF t L a p = -1 ∨ tjF M l a (cnF t L a p) = true → Q (-1) M) : es_Call (d + 3) 84 [.inr (.inr 55), .inr (.inr 1), .inl a] M Q := by
  apply m_Reader_readSecond
  intro G hG
  apply k_Reader_readSecond_0 hG
  have p0 := h.2.2.2.1
  have r := tl_rng h.2.2.2.2 p0.1
  refine s_look h ?_
  rw [w32_s (by omega) (by omega)]
  have cz : ¬ (0 ≤ tlF t L p - 97 ∧ tlF t L p - 97 < 12) → cnF t L a p = -1 := fun z => by unfold cnF; rw [if_neg (fun y => z (by omega))]
  refine s_isCorner (fun b0 b1 => es_t1 ?_) (fun z => es_t0 (k0 (Or.inl (cz z))))
  have ce : cnF t L a p = if tlF t L p - 97 = a then -1 else tlF t L p - 97 := by
    unfold cnF
    by_cases e : tlF t L p - 97 = a
    · rw [if_neg (fun y => y.2 e), if_pos e]
    · rw [if_pos ⟨by omega, e⟩, if_neg e]
  generalize hb : tlF t L p - 97 = b at *
  by_cases eab : b = a
  · rw [if_pos eab] at ce
    have kk := k0 (Or.inl ce)
    -- whatever is found, the end is the same
    refine s_joining (RepC.rf M) ⟨fun _ => ?_, fun _ => kk⟩
    have key : ∀ (r : Nat) (i : Nat), i + r = l.length → G 30 [lr 55, none, li a, li b, li (i : Int), none, none] [] M := by
      intro r
      induction r with
      | zero =>
        intro i hi
        apply k_Reader_readSecond_30 hG
        refine ⟨fun _ => ?_, fun z => absurd (by omega) z⟩
        exact s_corner h (fun y => by omega) (fun _ => kk)
      | succ r ih =>
        intro i hi
        have nx := ih (i + 1) (by omega)
        apply k_Reader_readSecond_30 hG
        refine ⟨fun z => absurd z (by omega), fun _ => ?_⟩
        rw [w32_s (k := (i : Int) * 7) (by omega) (by omega), w32_s (k := (i : Int) * 7 + 1) (by omega) (by omega), w32_s (k := (i : Int) * 7 + 2) (by omega) (by omega), w32_1 (by omega) (by omega), show (i : Int) + 1 = ((i + 1 : Nat) : Int) by omega]
        exact ⟨by omega, fun x => ⟨by omega, fun y => ⟨by omega, fun _ => nx, fun _ => es_t0 nx⟩, fun y => ⟨by omega, fun x2 => ⟨by omega, fun _ => nx, fun _ => es_t0 nx⟩, fun x2 => ⟨by omega, fun _ => nx, fun _ => es_t1 kk⟩⟩⟩, fun x => ⟨by omega, fun y => ⟨by omega, fun _ => nx, fun _ => es_t1 kk⟩, fun y => ⟨by omega, fun z => ⟨by omega, fun _ => nx, fun _ => es_t0 nx⟩, fun z => ⟨by omega, fun x2 => ⟨by omega, fun _ => nx, fun _ => es_t0 nx⟩, fun x2 => ⟨by omega, fun _ => nx, fun _ => es_t1 kk⟩⟩⟩⟩⟩
    exact key l.length 0 (by omega)
  · rw [if_neg eab] at ce
    refine s_joining (RepC.rf M) ?_
    unfold joF
    rw [if_pos ⟨a0, a1, b0, b1⟩]
    rw [ce] at k1 k0
    refine ⟨fun e8 => ?_, fun e8 => k0 (Or.inr (jn_t.mpr (Or.inl e8)))⟩
    have key : ∀ (r : Nat) (i : Nat), i + r = l.length → (∀ j it, j < i → l[j]? = some it → ¬ jnI a b it) → G 30 [lr 55, none, li a, li b, li (i : Int), none, none] [] M := by
      intro r
      induction r with
      | zero =>
        intro i hi no
        apply k_Reader_readSecond_30 hG
        refine ⟨fun _ => ?_, fun z => absurd (by omega) z⟩
        refine s_corner h (fun y M' x1 x2 => ?_) (fun y => by omega)
        rw [ce]
        refine k1 b0 (jn_f.mpr ⟨e8, fun it hit => ?_⟩) M' x1 x2
        obtain ⟨j, hj⟩ := List.getElem?_of_mem hit
        have lt := (List.getElem?_eq_some_iff.mp hj).1
        exact no j it (by omega) hj
      | succ r ih =>
        intro i hi no
        have lt : i < l.length := by omega
        have hit : l[i]? = some l[i] := List.getElem?_eq_getElem lt
        obtain ⟨f0, f1, f2, -⟩ := hl i _ hit
        generalize l[i] = it at *
        have nx : ¬ jnI a b it → G 30 [lr 55, none, li a, li b, li ((i + 1 : Nat) : Int), none, none] [] M := fun hno => ih (i + 1) (by omega) (fun j it' hj hj' => by
          by_cases e : j = i
          · subst e; rw [hit] at hj'; cases hj'; exact hno
          · exact no j it' (by omega) hj')
        have fl : jnI a b it → Q (-1) M := fun hy => k0 (Or.inr (jn_t.mpr (Or.inr ⟨it, List.mem_of_getElem? hit, hy⟩)))
        apply k_Reader_readSecond_30 hG
        refine ⟨fun z => absurd z (by omega), fun _ => ?_⟩
        rw [w32_s (k := (i : Int) * 7) (by omega) (by omega), w32_s (k := (i : Int) * 7 + 1) (by omega) (by omega), w32_s (k := (i : Int) * 7 + 2) (by omega) (by omega), w32_1 (by omega) (by omega), show (i : Int) + 1 = ((i + 1 : Nat) : Int) by omega, show (i : Int) * 7 = 7 * i by omega, f0, f1, f2]
        unfold jnI at nx fl
        exact ⟨by omega, fun x => ⟨by omega, fun y => ⟨by omega, fun _ => nx (by omega), fun _ => es_t0 (nx (by omega))⟩, fun y => ⟨by omega, fun x2 => ⟨by omega, fun _ => nx (by omega), fun _ => es_t0 (nx (by omega))⟩, fun x2 => ⟨by omega, fun k => nx (by omega), fun k => es_t1 (fl (by omega))⟩⟩⟩, fun x => ⟨by omega, fun y => ⟨by omega, fun k => nx (by omega), fun k => es_t1 (fl (by omega))⟩, fun y => ⟨by omega, fun z => ⟨by omega, fun _ => nx (by omega), fun _ => es_t0 (nx (by omega))⟩, fun z => ⟨by omega, fun x2 => ⟨by omega, fun _ => nx (by omega), fun _ => es_t0 (nx (by omega))⟩, fun x2 => ⟨by omega, fun k => nx (by omega), fun k => es_t1 (fl (by omega))⟩⟩⟩⟩⟩
    exact key l.length 0 (by omega) (fun j it hj => absurd hj (by omega))
theorem s_readService {M0 : es_M} (h : RX t L p M) {ow a b f r x y i : Int} (hi : M 55 3 = i) (i0 : 0 ≤ i) (i1 : i < 15) (e : DX M0 M i (0, a, b, f, r, x, y)) (k : ItQ (st3 t L ow a b f r p) t L M0 i Q) : es_Call (d + 3) 85 [.inr (.inr 55), .inl ow] M Q := by
  apply m_Reader_readService
  intro G hG
  apply k_Reader_readService_0 hG
  have fin : ∀ (kd w q : Int) (M1 : es_M), RX t L q M1 → EqX M M1 → (∀ M', RX t L q M' → DX M0 M' i (0, a, b, f, r, kd, w) → Q 1 M') → G 92 [lr 55, none, li kd, li w, none] [] M1 := by
    intro kd w q M1 h1 e1 k1
    apply k_Reader_readService_92 hG
    have hi1 : M1 55 3 = i := (e1 55 3 (fun z => absurd z.2 (by decide))).trans hi
    rw [es_upd_n (c := 57) (by decide), hi1, w32_s (k := i * 7) (by omega) (by omega), w32_s (k := i * 7 + 5) (by omega) (by omega), w32_s (k := i * 7 + 6) (by omega) (by omega), show i * 7 = 7 * i by omega]
    refine ⟨by omega, by omega, es_b1, k1 _ ?_ ?_⟩
    · obtain ⟨z1, z2, z3, z4, z5⟩ := h1
      exact ⟨by rw [es_upd_o 56 (by decide), es_upd_o 56 (by decide)]; exact z1, by rw [es_upd_n (by decide), es_upd_n (by decide)]; exact z2, by rw [es_upd_n (by decide), es_upd_n (by decide)]; exact z3, z4, z5⟩
    · have m57 : ∀ j, M1 57 j = M 57 j := fun j => e1 57 j (fun z => absurd z.1 (by decide))
      obtain ⟨g1, g2, g3, g4, g5, g6, g7, -⟩ := e
      refine ⟨fun c j q1 q2 => ?_, fun j hj => ?_, ?_, ?_, ?_, ?_, ?_, fun _ => ⟨?_, ?_⟩⟩
      · rw [es_upd_n q2, es_upd_n q2, e1 c j q1, g1 c j q1 q2]
      · rw [es_upd_c, if_neg (by omega), es_upd_c, if_neg (by omega), m57, g2 j hj]
      · rw [es_upd_c, if_neg (by omega), es_upd_c, if_neg (by omega), m57, g3]
      · rw [es_upd_c, if_neg (by omega), es_upd_c, if_neg (by omega), m57, g4]
      · rw [es_upd_c, if_neg (by omega), es_upd_c, if_neg (by omega), m57, g5]
      · rw [es_upd_c, if_neg (by omega), es_upd_c, if_neg (by omega), m57, g6]
      · rw [es_upd_c, if_neg (by omega), es_upd_c, if_neg (by omega), m57, g7]
      · rw [es_upd_c, if_neg (by omega), es_upd_s]
      · rw [es_upd_s]
  have bad : ∀ (q : Int) (M1 : es_M), RX t L q M1 → EqX M M1 → (∀ M', RX t L q M' → FX M0 M' → Q 0 M') → G 77 [none, none, none, none, none] [] M1 := fun q M1 h1 e1 k1 => k_Reader_readService_77 hG ⟨es_b0, k1 M1 h1 (e.1.tr e1.f)⟩
  have dol : ∀ (kd : Int) (M1 : es_M), RX t L (p + 1) M1 → EqX M M1 → ItQ (if tlF t L (p + 1) = 36 then (if 49 ≤ tlF t L (p + 2) ∧ tlF t L (p + 2) ≤ 57 then .inr (p + 3, (0, a, b, f, r, kd, tlF t L (p + 2) - 48)) else .inl (p + 2)) else .inr (p + 1, (0, a, b, f, r, kd, 1))) t L M0 i Q →
      es_Call (d + 2) 77 [.inr (.inr 55), .inl 36] M1 (fun y6 M5 => ((y6 = 0 → G 92 [lr 55, none, li kd, li 1, none] [] M5) ∧ (¬ y6 = 0 → es_Call (d + 2) 78 [.inr (.inr 55)] M5 (fun y8 M7 => (((w32 (y8 - 48)) < 1 → G 77 [none, none, none, none, none] [] M7) ∧ (¬ (w32 (y8 - 48)) < 1 → (((w32 (y8 - 48)) ≤ 9 → G 92 [lr 55, none, li kd, li (w32 (y8 - 48)), none] [] (es_upd M7 55 4 (w32 ((M7 55 4) + 1)))) ∧ (¬ (w32 (y8 - 48)) ≤ 9 → G 77 [none, none, none, none, none] [] M7)))))))) := by
    intro kd M1 h1 e1 k1
    refine s_skip h1 (by decide) (fun q1 ql M2 h2 e2 => es_t1 ?_) (fun q1 => es_t0 ?_)
    · rw [if_pos q1] at k1
      rw [show p + 1 + 1 = p + 2 by omega] at h2
      have p2 := h2.2.2.2.1
      have L1 := h2.2.2.2.2.1
      have rr := tl_rng h2.2.2.2.2 p2.1
      refine s_look h2 ?_
      rw [w32_s (by omega) (by omega), h2.2.2.1, w32_1 (by omega) (by omega)]
      refine ⟨fun z => ?_, fun z => ⟨fun z2 => ?_, fun z2 => ?_⟩⟩
      · rw [if_neg (by omega)] at k1; exact bad _ _ h2 (e1.tr e2) k1
      · rw [if_pos (by omega)] at k1
        have ll := tl_lt (t := t) (L := L) (p := p + 2) (by omega)
        rw [show p + 2 + 1 = p + 3 by omega]
        have u := h2.upd (p' := p + 3) (by omega) (by omega)
        exact fin _ _ _ _ u.1 ((e1.tr e2).tr u.2) k1
      · rw [if_neg (by omega)] at k1; exact bad _ _ h2 (e1.tr e2) k1
    · rw [if_neg q1] at k1; exact fin _ _ _ _ h1 e1 k1
  have non : ItQ (.inr (p, (0, a, b, f, r, 0, 0))) t L M0 i Q → G 30 [lr 55, none, none, none, none] [] M := fun k1 => k_Reader_readService_30 hG ⟨fun z => absurd rfl z, fun _ => es_t0 (fin 0 0 p M h EqX.rf k1)⟩
  unfold st3 at k
  refine s_skip h (by decide) (fun q1 ql M1 h1 e1 => ⟨fun z => absurd z (by decide), fun _ => es_n1 (es_t1 ?_)⟩) (fun q1 => es_t0 ⟨fun o => ?_, fun o => ?_⟩)
  · rw [if_pos q1] at k; exact dol 1 M1 h1 e1 k
  · rw [if_neg q1, if_neg (fun z => o z.1)] at k; exact non k
  · rw [if_neg q1] at k
    refine s_skip h (by decide) (fun q2 ql M1 h1 e1 => ⟨fun z => absurd z (by decide), fun _ => es_n2 (es_t2 ?_)⟩) (fun q2 => es_t0 ?_)
    · rw [if_pos ⟨o, q2⟩] at k; exact dol 2 M1 h1 e1 k
    · rw [if_neg (fun z => q2 z.2)] at k; exact non k
theorem DR.eq {l : List It} {M1 : es_M} (h : DR l (M 57)) (e : EqX M M1) : DR l (M1 57) := by
  have : M1 57 = M 57 := funext fun j => e 57 j (fun z => absurd z.1 (by decide))
  rw [this]; exact h
theorem jn_eq {l : List It} {M1 : es_M} (e : EqX M M1) {a b : Int} : tjF M1 l a b = tjF M l a b := by unfold tjF; rw [e 8 _ (fun z => absurd z.1 (by decide))]
theorem s_readStreet (h : RX t L p M) {l : List It} (hn : M 55 3 = l.length) (hn1 : l.length < 15) (hl : DR l (M 57)) (k : ItQ (stP (tjF M l) t L p) t L M (l.length : Int) Q) : es_Call (d + 4) 83 [.inr (.inr 55), .inr (.inr 1)] M Q := by
  apply m_Reader_readStreet
  intro G hG
  apply k_Reader_readStreet_0 hG
  unfold stP at k
  have tail : ∀ (ow a b f r q : Int) (M1 : es_M), RX t L q M1 → EqX M M1 → ItQ (st3 t L ow a b f r q) t L M l.length Q → G 115 [lr 55, none, li a, li ow, li b, li f, li r] [] M1 := by
    intro ow a b f r q M1 h1 e1 k1
    apply k_Reader_readStreet_115 hG
    have hi1 : M1 55 3 = l.length := (e1 55 3 (fun z => absurd z.2 (by decide))).trans hn
    refine s_draft h1 hi1 (by omega) (by omega) (fun M2 h2 e2 => ?_)
    have hi2 : M2 55 3 = l.length := (e2.1 55 3 (fun z => absurd z.2 (by decide)) (by decide)).trans hi1
    refine s_readService (M0 := M) h2 hi2 (by omega) (by omega) (e2.eq e1) (?_ : ItQ (st3 t L ow a b f r q) t L M l.length (fun y3 M2 => ((y3 = 0 ∨ y3 = 1) ∧ Q y3 M2)))
    generalize st3 t L ow a b f r q = R at k1
    match R, k1 with
    | .inl q, k1 => exact fun M' x1 x2 => ⟨es_b0, k1 M' x1 x2⟩
    | .inr (q, it), k1 => exact fun M' x1 x2 => ⟨es_b1, k1 M' x1 x2⟩
  have fail : ∀ (q : Int) (M1 : es_M), RX t L q M1 → EqX M M1 → (∀ M', RX t L q M' → FX M M' → Q 0 M') → G 58 [none, none, none, none, none, none, none] [] M1 := fun q M1 h1 e1 k1 => k_Reader_readStreet_58 hG ⟨es_b0, k1 M1 h1 e1.f⟩
  have mid : ∀ (ow a q : Int) (M1 : es_M), RX t L q M1 → EqX M M1 → 0 ≤ a → a < 12 → ItQ (st2 (tjF M l) t L ow a q) t L M l.length Q → G 35 [lr 55, lr 1, li a, li ow, none, none, none] [] M1 := by
    intro ow a q M1 h1 e1 a0 a1 k1
    apply k_Reader_readStreet_35 hG
    have hi1 : M1 55 3 = l.length := (e1 55 3 (fun z => absurd z.2 (by decide))).trans hn
    unfold st2 at k1
    refine s_second h1 hi1 hn1 (hl.eq e1) a0 a1 (fun b0 bj M2 h2 e2 => ⟨fun z => absurd z (by omega), fun _ => ?_⟩) (fun z => ⟨fun _ => ?_, fun y => absurd rfl y⟩)
    · rw [jn_eq e1] at bj
      rw [if_neg (by omega), if_neg (by rw [bj]; decide)] at k1
      have e12 := e1.tr e2
      refine s_skip h2 (by decide) (fun q1 ql M3 h3 e3 => es_n1 ?_) (fun q1 => es_n0 ?_)
      · rw [if_neg (fun z => z q1)] at k1
        rw [show q + 1 + 1 = q + 2 by omega] at h3
        have e13 := e12.tr e3
        refine s_number h3 (by decide) (fun q2 M4 h4 e4 => ⟨fun _ => ?_, fun z => absurd z q2⟩) (fun q2 => ⟨fun z => absurd rfl z, fun _ => ⟨es_b0, ?_⟩⟩)
        · rw [if_neg q2] at k1
          have e14 := e13.tr e4
          refine ⟨fun o => ⟨fun z => absurd o z, fun _ => ?_⟩, fun o => ⟨fun _ => ?_, fun z => absurd z o⟩⟩
          · rw [if_pos o] at k1
            refine s_skip h4 (by decide) (fun q3 ql M5 h5 e5 => es_t1 ?_) (fun q3 => es_t0 ?_)
            · rw [if_pos q3] at k1
              have e15 := e14.tr e5
              refine s_number h5 (by decide) (fun q4 M6 h6 e6 => ⟨fun _ => ?_, fun z => absurd z q4⟩) (fun q4 => ⟨fun z => absurd rfl z, fun _ => ⟨es_b0, ?_⟩⟩)
              · rw [if_neg q4] at k1; exact tail _ _ _ _ _ _ _ h6 (e15.tr e6) k1
              · rw [if_pos q4] at k1; exact k1 _ h5 e15.f
            · rw [if_neg q3] at k1; exact tail _ _ _ _ _ _ _ h4 e14 k1
          · rw [if_neg o] at k1; exact tail _ _ _ _ _ _ _ h4 e14 k1
        · rw [if_pos q2] at k1; exact k1 _ h3 e13.f
      · rw [if_pos q1] at k1; exact fail _ _ h2 e12 k1
    · rw [jn_eq e1] at z
      by_cases z1 : cnF t L a q = -1
      · rw [if_pos z1] at k1; exact fail _ _ h1 e1 k1
      · rw [if_neg z1, if_pos (z.resolve_left z1)] at k1; exact fail _ _ h1 e1 k1
  refine s_corner h (fun c1 M1 h1 e1 => ⟨fun _ => ?_, fun z => absurd z (by omega)⟩) (fun c1 => ⟨fun z => absurd rfl z, fun _ => ⟨es_b0, ?_⟩⟩)
  · rw [if_neg (by omega)] at k
    have cr := (cn_rng (t := t) (L := L) (u := -1) (p := p)).resolve_left (by omega)
    refine s_skip h1 (by decide) (fun q1 ql M2 h2 e2 => ⟨fun _ => ?_, fun z => absurd z (by decide)⟩) (fun q1 => ⟨fun z => absurd rfl z, fun _ => ?_⟩)
    · rw [if_pos q1] at k
      rw [show p + 1 + 1 = p + 2 by omega] at h2
      exact mid _ _ _ _ h2 (e1.tr e2) cr.1.1 cr.1.2 k
    · rw [if_neg q1] at k
      refine s_skip h1 (by decide) (fun q2 ql M2 h2 e2 => ⟨fun _ => ?_, fun z => absurd z (by decide)⟩) (fun q2 => ⟨fun z => absurd rfl z, fun _ => ⟨es_b0, ?_⟩⟩)
      · rw [if_pos q2] at k
        rw [show p + 1 + 1 = p + 2 by omega] at h2
        exact mid _ _ _ _ h2 (e1.tr e2) cr.1.1 cr.1.2 k
      · rw [if_neg q2] at k; exact k _ h1 e1.f
  · rw [if_pos c1] at k; exact k _ h EqX.rf.f
theorem s_readItem (h : RX t L p M) {l : List It} (hn : M 55 3 = l.length) (hn1 : l.length < 15) (hl : DR l (M 57)) (k : ItQ (itP (tjF M l) t L p) t L M (l.length : Int) Q) : es_Call (d + 5) 76 [.inr (.inr 55), .inr (.inr 1)] M Q := by
  apply c_Reader_readItem
  have bb : ∀ {R : Int ⊕ (Int × It)} {M1 : es_M}, EqX M M1 → ItQ R t L M l.length Q → ItQ R t L M1 (M1 55 3) (fun y8 M7 => ((y8 = 0 ∨ y8 = 1) ∧ Q y8 M7)) := by
    intro R M1 e1 k1
    have hi1 : M1 55 3 = l.length := (e1 55 3 (fun z => absurd z.2 (by decide))).trans hn
    rw [hi1]
    have k2 := k1.eq e1
    match R, k2 with
    | .inl q, k2 => exact fun M' x1 x2 => ⟨es_b0, k2 M' x1 x2⟩
    | .inr (q, it), k2 => exact fun M' x1 x2 => ⟨es_b1, k2 M' x1 x2⟩
  unfold itP at k
  refine s_skip h (by decide) (fun q1 ql M1 h1 e1 => es_t1 ?_) (fun q1 => es_t0 ?_)
  · rw [if_pos q1] at k
    have hi1 : M1 55 3 = l.length := (e1 55 3 (fun z => absurd z.2 (by decide))).trans hn
    exact s_readTurn h1 (by omega) (by omega) (bb e1 k)
  · rw [if_neg q1] at k
    refine s_skip h (by decide) (fun q2 ql M1 h1 e1 => es_t1 ?_) (fun q2 => es_t0 ?_)
    · rw [if_pos q2] at k
      have hi1 : M1 55 3 = l.length := (e1 55 3 (fun z => absurd z.2 (by decide))).trans hn
      exact s_readTurn h1 (by omega) (by omega) (bb e1 k)
    · rw [if_neg q2] at k
      have k2 := bb (M1 := M) EqX.rf k
      rw [hn] at k2
      exact s_readStreet h hn hn1 hl k2
end
