/-! LEVEL (3): one more along the way that was found; the prices behind it -/
section
variable {n : Nat} {o g w : Int → Int} {go : Int → Prop} {f pi d b : Int → Int} {src : Int → Prop}
def TRs (n : Nat) (o g w : Int → Int) (go src : Int → Prop) (f d b : Int → Int) (tau : Int → Nat) : Prop :=
  ∀ x, 0 ≤ x → x < 12 → d x < 1000000 → ((b x = -1 ∧ src x ∧ d x = 0) ∨ ((0 ≤ b x ∧ b x < 2 * n) ∧ aav go f (b x) ∧ ato o g (b x) = x ∧ d (afr o g (b x)) < 1000000 ∧ d x = d (afr o g (b x)) + awt w (b x) ∧ tau (afr o g (b x)) < tau x))
theorem TRs.of {t : Nat} {tau : Int → Nat} (h : BIs n o g w go src f t d b tau) (fx : fxs n o g w go f d) : TRs n o g w go src f d b tau := by
  intro x x0 x1 xd
  rcases (h x x0 x1).2.2 with q | ⟨-, -, q⟩
  · omega
  · rcases q with q | ⟨q1, q2, q3, q4, q5, q6⟩
    · exact Or.inl q
    · have z : d x ≤ d (afr o g (b x)) + awt w (b x) := by
        by_cases y : d x ≤ d (afr o g (b x)) + awt w (b x)
        · exact y
        · exact absurd ⟨q2, q4, by rw [q3]; omega⟩ (fx (b x) q1.1 q1.2)
      exact Or.inr ⟨q1, q2, q3, q4, by omega, q6 (by omega)⟩
theorem fxs.fix (H : GR n o g w go) {t : Nat} (ht : t ≤ 1000) {tau : Int → Nat} (h : BIs n o g w go src f t d b tau) (fx : fxs n o g w go f d) : fixD n o g w go f d := by
  intro p p0 p1 gp
  have hp := H.2 p p0 p1
  have wr := hp.2.2.2 gp
  have bd : ∀ x, 0 ≤ x → x < 12 → d x < 1000000 → d x ≤ 99 * t := fun x x0 x1 xd => by
    rcases (h x x0 x1).2.2 with q | ⟨-, q, -⟩
    · omega
    · exact q
  have e1 : afr o g (2 * p) = o p ∧ ato o g (2 * p) = g p ∧ awt w (2 * p) = w p := by
    unfold afr ato awt
    rw [if_pos (by omega), if_pos (by omega), if_pos (by omega), show 2 * p / 2 = p by omega]
    exact ⟨rfl, rfl, rfl⟩
  have e2 : afr o g (2 * p + 1) = g p ∧ ato o g (2 * p + 1) = o p ∧ awt w (2 * p + 1) = - w p := by
    unfold afr ato awt
    rw [if_neg (by omega), if_neg (by omega), if_neg (by omega), show (2 * p + 1) / 2 = p by omega]
    exact ⟨rfl, rfl, rfl⟩
  constructor
  · intro c
    have x := fx (2 * p) (by omega) (by omega)
    unfold nrr at x
    rw [e1.1, e1.2.1, e1.2.2] at x
    have y : d (g p) ≤ d (o p) + w p := by
      by_cases y : d (g p) ≤ d (o p) + w p
      · exact y
      · exact absurd ⟨⟨by rw [show 2 * p / 2 = p by omega]; exact gp, Or.inl (by omega)⟩, c, by omega⟩ x
    have := bd (o p) hp.1.1 hp.1.2 c
    exact ⟨y, by omega⟩
  · intro fp c
    have x := fx (2 * p + 1) (by omega) (by omega)
    unfold nrr at x
    rw [e2.1, e2.2.1, e2.2.2] at x
    have y : d (o p) ≤ d (g p) - w p := by
      by_cases y : d (o p) ≤ d (g p) - w p
      · exact y
      · exact absurd ⟨⟨by rw [show (2 * p + 1) / 2 = p by omega]; exact gp, Or.inr (by rw [show (2 * p + 1) / 2 = p by omega]; exact fp)⟩, c, by omega⟩ x
    have := bd (g p) hp.2.1.1 hp.2.1.2 c
    exact ⟨y, by omega⟩
theorem bnd_ex (h : Int → Int) : ∀ n : Nat, ∃ K, ∀ p, 0 ≤ p → p < (n : Int) → h p ≤ K
  | 0 => ⟨0, fun p a b => by omega⟩
  | n + 1 => by
    obtain ⟨K, hK⟩ := bnd_ex h n
    refine ⟨max K (h n), fun p a b => ?_⟩
    by_cases e : p = (n : Int)
    · rw [e]; omega
    · have := hK p a (by omega); omega
theorem prc.new (hp : prc n o g w go f pi) (hf : fok n go f) (fd : fixD n o g w go f d) : ∃ pi', prc n o g w go f pi' ∧ ∀ x, d x < 1000000 → pi' x = d x := by
  obtain ⟨K, hK⟩ := bnd_ex (fun p => d (g p) - pi (o p) - w p) n
  refine ⟨fun x => if d x < 1000000 then d x else pi x + K, fun p p0 p1 => ?_, fun x hx => if_pos hx⟩
  obtain ⟨h1, h2⟩ := hp p p0 p1
  have hk := hK p p0 p1
  simp only at hk ⊢
  constructor
  · intro gp
    obtain ⟨k1, k2⟩ := fd p p0 p1 gp
    have h1 := h1 gp
    by_cases c1 : d (o p) < 1000000
    · rw [if_pos c1, if_pos (k1 c1).2]; have := (k1 c1).1; omega
    · rw [if_neg c1]
      by_cases c2 : d (g p) < 1000000
      · rw [if_pos c2]; omega
      · rw [if_neg c2]; omega
  · intro fp
    have gp := (hf p p0 p1).2 fp
    obtain ⟨k1, k2⟩ := fd p p0 p1 gp
    have h2 := h2 fp
    by_cases c1 : d (o p) < 1000000
    · have c2 := (k1 c1).2
      rw [if_pos c1, if_pos c2]; have := (k1 c1).1; have := (k2 fp c2).1; omega
    · have c2 : ¬ d (g p) < 1000000 := fun c => c1 (k2 fp c).2
      rw [if_neg c1, if_neg c2]; omega
/-- on the way back from a corner: the flow h has one more up to c -/
def AGs (n : Nat) (o g w : Int → Int) (go : Int → Prop) (f d b : Int → Int) (tau : Int → Nat) (pi : Int → Int) (tgt : Int) (h : Int → Int) (c : Int) : Prop :=
  fok n go h ∧ prc n o g w go h pi ∧ (∀ x, 0 ≤ x → x < 12 → tau x ≤ tau c → d x < 1000000 → 0 ≤ b x → b x % 2 = 1 → 0 < h (b x / 2)) ∧ (∀ x, dvF n o g h x = dvF n o g f x + dlt tgt x - dlt c x) ∧ coF n w h = coF n w f + d tgt - d c ∧ d c < 1000000 ∧ (0 ≤ c ∧ c < 12)
theorem AGs.start {tau : Int → Nat} (ht : TRs n o g w go src f d b tau) (hf : fok n go f) (hp : prc n o g w go f pi) {c : Int} (c0 : 0 ≤ c) (c1 : c < 12) (cd : d c < 1000000) : AGs n o g w go f d b tau pi c f c := by
  refine ⟨hf, hp, fun x x0 x1 _ xd xb xo => ?_, fun x => by omega, by omega, cd, c0, c1⟩
  rcases ht x x0 x1 xd with ⟨q, -⟩ | ⟨-, q, -⟩
  · omega
  · exact q.2.resolve_left (by omega)
theorem AGs.step (H : GR n o g w go) {tau : Int → Nat} (ht : TRs n o g w go src f d b tau) (hpd : ∀ x, d x < 1000000 → pi x = d x) {tgt c : Int} {h h' : Int → Int} (a : AGs n o g w go f d b tau pi tgt h c) (cb : 0 ≤ b c) (e1 : h' (b c / 2) = h (b c / 2) + (if b c % 2 = 0 then 1 else -1)) (e2 : ∀ p, p ≠ b c / 2 → h' p = h p) : AGs n o g w go f d b tau pi tgt h' (afr o g (b c)) ∧ tau (afr o g (b c)) < tau c := by
  obtain ⟨a1, a2, a3, a4, a5, a6, c0, c1⟩ := a
  rcases ht c c0 c1 a6 with ⟨q, -⟩ | ⟨⟨k0, k1⟩, av, q1, q2, q3, q4⟩
  · omega
  · have ar := arc_r H k0 k1
    have p0 : 0 ≤ b c / 2 := by omega
    have p1 : b c / 2 < (n : Int) := by omega
    have hpos : b c % 2 = 1 → 0 < h (b c / 2) := fun z => a3 c c0 c1 (Nat.le_refl _) a6 cb z
    have gp := av.1
    have fa := a1 (b c / 2) p0 p1
    refine ⟨⟨fun p x0 x1 => ?_, fun p x0 x1 => ?_, fun x x0 x1 xt xd xb xo => ?_, fun x => ?_, ?_, q2, ar.1⟩, q4⟩
    · by_cases e : p = b c / 2
      · rw [e, e1]
        by_cases z : b c % 2 = 0
        · rw [if_pos z]; exact ⟨by omega, fun _ => gp⟩
        · rw [if_neg z]; have := hpos (by omega); exact ⟨by omega, fun _ => gp⟩
      · rw [e2 p e]; exact a1 p x0 x1
    · refine ⟨(a2 p x0 x1).1, fun z => ?_⟩
      by_cases e : p = b c / 2
      · by_cases y : b c % 2 = 0
        · have t1 : afr o g (b c) = o p := by unfold afr; rw [if_pos y, e]
          have t2 : ato o g (b c) = g p := by unfold ato; rw [if_pos y, e]
          have t3 : awt w (b c) = w p := by unfold awt; rw [if_pos y, e]
          rw [t1] at q2 q3
          rw [t3] at q3
          rw [← t2, q1, hpd _ q2, hpd _ a6]
          omega
        · rw [e, e1, if_neg y] at z
          rw [e]; exact (a2 _ p0 p1).2 (by omega)
      · rw [e2 p e] at z; exact (a2 p x0 x1).2 z
    · have old := a3 x x0 x1 (by omega) xd xb xo
      by_cases e : b x / 2 = b c / 2
      · rw [e, e1]
        rw [e] at old
        by_cases y : b c % 2 = 0
        · rw [if_pos y]; omega
        · exfalso
          have t1 : ato o g (b c) = o (b c / 2) := by unfold ato; rw [if_neg y]
          rcases ht x x0 x1 xd with ⟨r, -⟩ | ⟨-, -, r1, -⟩
          · omega
          · have t2 : ato o g (b x) = o (b x / 2) := by unfold ato; rw [if_neg (by omega)]
            have : x = c := by rw [← r1, t2, e, ← t1, q1]
            rw [this] at xt
            omega
      · rw [e2 _ e]; exact old
    · rw [dv_upd p0 p1 e2 x, e1, a4 x]
      by_cases y : b c % 2 = 0
      · have t1 : afr o g (b c) = o (b c / 2) := by unfold afr; rw [if_pos y]
        have t2 : ato o g (b c) = g (b c / 2) := by unfold ato; rw [if_pos y]
        rw [if_pos y, ← t2, ← t1, q1, show h (b c / 2) + 1 - h (b c / 2) = 1 by omega, Int.one_mul]; omega
      · have t1 : afr o g (b c) = g (b c / 2) := by unfold afr; rw [if_neg y]
        have t2 : ato o g (b c) = o (b c / 2) := by unfold ato; rw [if_neg y]
        rw [if_neg y, ← t2, ← t1, q1, show h (b c / 2) + -1 - h (b c / 2) = -1 by omega, Int.neg_mul, Int.one_mul]; omega
    · rw [co_upd p0 p1 e2, e1, a5]
      by_cases y : b c % 2 = 0
      · have t3 : awt w (b c) = w (b c / 2) := by unfold awt; rw [if_pos y]
        rw [if_pos y, show h (b c / 2) + 1 - h (b c / 2) = 1 by omega, Int.one_mul, ← t3]; omega
      · have t3 : awt w (b c) = - w (b c / 2) := by unfold awt; rw [if_neg y]
        rw [if_neg y, show h (b c / 2) + -1 - h (b c / 2) = -1 by omega, Int.neg_mul, Int.one_mul, ← t3]; omega
/-- how many corners came earlier -/
def ctF (tau : Int → Nat) (t : Nat) : Int := sm (fun x => if tau x < t then 1 else 0) 12
theorem ct_lt {tau : Int → Nat} {u : Int} {t : Nat} (u0 : 0 ≤ u) (u1 : u < 12) (h : tau u < t) : ctF tau (tau u) + 1 ≤ ctF tau t := by
  unfold ctF
  have t1 := sm_upd (h := fun x => if x = u then 0 else if tau x < t then 1 else 0) (h' := fun x => if tau x < t then 1 else 0) u0 (fun i hi => (if_neg hi).symm) 12 u1
  have t2 := sm_le (h := fun x => if tau x < tau u then 1 else 0) (h' := fun x => if x = u then 0 else if tau x < t then 1 else 0) 12 (fun x _ _ => by
    show (if tau x < tau u then (1 : Int) else 0) ≤ (if x = u then 0 else if tau x < t then 1 else 0)
    by_cases e : x = u
    · rw [e, if_neg (Nat.lt_irrefl _), if_pos rfl]; exact Int.le_refl _
    · rw [if_neg e]
      by_cases e2 : tau x < tau u
      · rw [if_pos e2, if_pos (by omega)]; exact Int.le_refl _
      · rw [if_neg e2]; split <;> decide)
  rw [if_pos h, if_pos rfl] at t1
  rw [t1]
  omega
theorem ct_r (tau : Int → Nat) (t : Nat) : 0 ≤ ctF tau t := by
  have := sm_le (h := fun _ => 0) (h' := fun x => if tau x < t then 1 else 0) 12 (fun x _ _ => by
    show (0 : Int) ≤ (if tau x < t then 1 else 0)
    split <;> decide)
  rw [sm_0] at this
  exact this
theorem ct_11 {tau : Int → Nat} {u : Int} (u0 : 0 ≤ u) (u1 : u < 12) : ctF tau (tau u) ≤ 11 := by
  have t1 := sm_upd (h := fun x => if x = u then 0 else 1) (h' := fun _ => 1) u0 (fun i hi => (if_neg hi).symm) 12 u1
  have t2 := sm_le (h := fun x => if tau x < tau u then 1 else 0) (h' := fun x => if x = u then 0 else 1) 12 (fun x _ _ => by
    show (if tau x < tau u then (1 : Int) else 0) ≤ (if x = u then 0 else 1)
    by_cases e : x = u
    · rw [e, if_neg (Nat.lt_irrefl _), if_pos rfl]; exact Int.le_refl _
    · rw [if_neg e]; split <;> decide)
  have t3 : sm (fun _ => 1) 12 = 12 := rfl
  rw [if_pos rfl, t3] at t1
  unfold ctF
  omega
/-- with one source alone it stays where it was -/
theorem TRs.one {tau : Int → Nat} (H : GR n o g w go) (ht : TRs n o g w go src f d b tau) {s : Int} (hs : ∀ x, src x → x = s) : ∀ (m : Nat) (x : Int), 0 ≤ x → x < 12 → d x < 1000000 → ctF tau (tau x) ≤ m → (b s = -1 ∧ d s = 0 ∧ src s) := by
  intro m
  induction m with
  | zero =>
    intro x x0 x1 xd hm
    rcases ht x x0 x1 xd with ⟨q1, q2, q3⟩ | ⟨q1, q2, q3, q4, q5, q6⟩
    · have := hs x q2; subst this; exact ⟨q1, q3, q2⟩
    · have ar := arc_r H q1.1 q1.2
      have := ct_lt ar.1.1 ar.1.2 q6
      have := ct_r tau (tau (afr o g (b x)))
      omega
  | succ m ih =>
    intro x x0 x1 xd hm
    rcases ht x x0 x1 xd with ⟨q1, q2, q3⟩ | ⟨q1, q2, q3, q4, q5, q6⟩
    · have := hs x q2; subst this; exact ⟨q1, q3, q2⟩
    · have ar := arc_r H q1.1 q1.2
      have := ct_lt ar.1.1 ar.1.2 q6
      exact ih _ ar.1.1 ar.1.2 q4 (by omega)
end
