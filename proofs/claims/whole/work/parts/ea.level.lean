/-! LEVEL (1): sums, what flows into a corner, the cheapest flow by prices, and why none can be -/
def sm (h : Int → Int) : Nat → Int
  | 0 => 0
  | k + 1 => sm h k + h k
theorem sm_congr {h h' : Int → Int} : ∀ n : Nat, (∀ i : Int, 0 ≤ i → i < (n : Int) → h' i = h i) → sm h' n = sm h n
  | 0, _ => rfl
  | n + 1, e => by
    show sm h' n + h' n = sm h n + h n
    rw [sm_congr n (fun i a b => e i a (by omega)), e n (by omega) (by omega)]
theorem sm_add (h h' : Int → Int) : ∀ n : Nat, sm (fun i => h i + h' i) n = sm h n + sm h' n
  | 0 => rfl
  | n + 1 => by
    show sm (fun i => h i + h' i) n + (h n + h' n) = sm h n + h n + (sm h' n + h' n)
    rw [sm_add h h' n]; omega
theorem sm_mul (c : Int) (h : Int → Int) : ∀ n : Nat, sm (fun i => c * h i) n = c * sm h n
  | 0 => (Int.mul_zero c).symm
  | n + 1 => by
    show sm (fun i => c * h i) n + c * h n = c * (sm h n + h n)
    rw [sm_mul c h n, Int.mul_add]
theorem sm_le {h h' : Int → Int} : ∀ n : Nat, (∀ i : Int, 0 ≤ i → i < (n : Int) → h i ≤ h' i) → sm h n ≤ sm h' n
  | 0, _ => Int.le_refl _
  | n + 1, e => by
    show sm h n + h n ≤ sm h' n + h' n
    have a := sm_le n (fun i a b => e i a (by omega))
    have b := e n (by omega) (by omega)
    omega
theorem sm_0 : ∀ n : Nat, sm (fun _ => 0) n = 0
  | 0 => rfl
  | n + 1 => by show sm (fun _ => 0) n + 0 = 0; rw [sm_0 n]; rfl
/-- one place changed -/
theorem sm_upd {h h' : Int → Int} {a : Int} (a0 : 0 ≤ a) (e : ∀ i, i ≠ a → h' i = h i) : ∀ n : Nat, a < (n : Int) → sm h' n = sm h n + (h' a - h a)
  | 0, q => by omega
  | n + 1, q => by
    show sm h' n + h' n = sm h n + h n + (h' a - h a)
    by_cases z : a = (n : Int)
    · rw [sm_congr (h := h) (h' := h') n (fun i _ b => e i (by omega)), z]; omega
    · rw [sm_upd a0 e n (by omega), e n (by omega)]; omega
def dlt (a x : Int) : Int := if a = x then 1 else 0
theorem sm_dlt (pi : Int → Int) {a : Int} (a0 : 0 ≤ a) {n : Nat} (a1 : a < (n : Int)) : sm (fun x => pi x * dlt a x) n = pi a := by
  have h1 := sm_upd (h := fun _ => 0) (h' := fun x => pi x * dlt a x) a0 (fun i hi => by unfold dlt; rw [if_neg (fun z => hi z.symm), Int.mul_zero]) n a1
  rw [sm_0] at h1
  rw [h1]
  unfold dlt
  rw [if_pos rfl, Int.mul_one]; omega
section
variable {n : Nat} {o g w : Int → Int} {go : Int → Prop}
/-- what flows into a corner more than out of it -/
def dvF (n : Nat) (o g f : Int → Int) (x : Int) : Int := sm (fun p => f p * (dlt (g p) x - dlt (o p) x)) n
def coF (n : Nat) (w f : Int → Int) : Int := sm (fun p => f p * w p) n
/-- streets join corners that are two -/
def GR (n : Nat) (o g w : Int → Int) (go : Int → Prop) : Prop := n ≤ 36 ∧ ∀ p, 0 ≤ p → p < (n : Int) → (0 ≤ o p ∧ o p < 12) ∧ (0 ≤ g p ∧ g p < 12) ∧ o p ≠ g p ∧ (go p → 1 ≤ w p ∧ w p ≤ 99)
theorem dv_ex (H : ∀ p, 0 ≤ p → p < (n : Int) → (0 ≤ o p ∧ o p < 12) ∧ (0 ≤ g p ∧ g p < 12)) (pi f : Int → Int) : sm (fun x => pi x * dvF n o g f x) 12 = sm (fun p => f p * (pi (g p) - pi (o p))) n := by
  induction n with
  | zero =>
    show sm (fun x => pi x * 0) 12 = 0
    rw [sm_congr (h := fun _ => 0) 12 (fun i _ _ => Int.mul_zero _), sm_0]
  | succ k ih =>
    have ih := ih (fun p a b => H p a (by omega))
    obtain ⟨ho, hg⟩ := H k (by omega) (by omega)
    show sm (fun x => pi x * (dvF k o g f x + f k * (dlt (g k) x - dlt (o k) x))) 12 = sm (fun p => f p * (pi (g p) - pi (o p))) k + f k * (pi (g k) - pi (o k))
    rw [← ih]
    have e : sm (fun x => pi x * (dvF k o g f x + f k * (dlt (g k) x - dlt (o k) x))) 12 = sm (fun x => pi x * dvF k o g f x + (f k * (pi x * dlt (g k) x) + (-(f k)) * (pi x * dlt (o k) x))) 12 := by
      refine sm_congr 12 (fun x _ _ => ?_)
      rw [Int.mul_add, Int.mul_sub, Int.mul_sub, Int.neg_mul, Int.mul_left_comm (pi x), Int.mul_left_comm (pi x)]
      omega
    rw [e, sm_add, sm_add, sm_mul, sm_mul, sm_dlt pi hg.1 (n := 12) hg.2, sm_dlt pi ho.1 (n := 12) ho.2, Int.mul_sub, Int.neg_mul]
    omega
/-- one more, or one less, on a pass -/
theorem dv_upd {f f' : Int → Int} {p : Int} (p0 : 0 ≤ p) (p1 : p < (n : Int)) (e : ∀ i, i ≠ p → f' i = f i) (x : Int) : dvF n o g f' x = dvF n o g f x + (f' p - f p) * (dlt (g p) x - dlt (o p) x) := by
  unfold dvF
  rw [sm_upd (h := fun p => f p * (dlt (g p) x - dlt (o p) x)) p0 (fun i hi => by rw [e i hi]) n p1, Int.sub_mul]
theorem co_upd {f f' : Int → Int} {p : Int} (p0 : 0 ≤ p) (p1 : p < (n : Int)) (e : ∀ i, i ≠ p → f' i = f i) : coF n w f' = coF n w f + (f' p - f p) * w p := by
  unfold coF
  rw [sm_upd (h := fun p => f p * w p) p0 (fun i hi => by rw [e i hi]) n p1, Int.sub_mul]
/-- a flow that may be -/
def fok (n : Nat) (go : Int → Prop) (f : Int → Int) : Prop := ∀ p, 0 ≤ p → p < (n : Int) → 0 ≤ f p ∧ (0 < f p → go p)
/-- prices that show that a flow is cheapest -/
def prc (n : Nat) (o g w : Int → Int) (go : Int → Prop) (f pi : Int → Int) : Prop := ∀ p, 0 ≤ p → p < (n : Int) → (go p → 0 ≤ w p + pi (o p) - pi (g p)) ∧ (0 < f p → w p + pi (o p) - pi (g p) = 0)
theorem fl_least (H : GR n o g w go) {f f' pi : Int → Int} (hf : fok n go f) (hp : prc n o g w go f pi) (hf' : fok n go f') (e : ∀ x, 0 ≤ x → x < 12 → dvF n o g f' x = dvF n o g f x) : coF n w f ≤ coF n w f' := by
  have H2 : ∀ p, 0 ≤ p → p < (n : Int) → (0 ≤ o p ∧ o p < 12) ∧ (0 ≤ g p ∧ g p < 12) := fun p a b => ⟨(H.2 p a b).1, (H.2 p a b).2.1⟩
  have sp : ∀ u : Int → Int, coF n w u = sm (fun p => u p * (w p + pi (o p) - pi (g p))) n + sm (fun x => pi x * dvF n o g u x) 12 := by
    intro u
    rw [dv_ex H2, ← sm_add]
    unfold coF
    refine sm_congr n (fun p _ _ => ?_)
    rw [← Int.mul_add]
    congr 1
    omega
  rw [sp f, sp f', sm_congr (h := fun x => pi x * dvF n o g f x) (h' := fun x => pi x * dvF n o g f' x) 12 (fun x a b => by rw [e x a b])]
  have a1 : sm (fun p => f p * (w p + pi (o p) - pi (g p))) n ≤ 0 := by
    have := sm_le (h := fun p => f p * (w p + pi (o p) - pi (g p))) (h' := fun _ => 0) n (fun p a b => by
      have q1 := (hf p a b).1
      by_cases z : 0 < f p
      · show f p * (w p + pi (o p) - pi (g p)) ≤ 0
        rw [(hp p a b).2 z, Int.mul_zero]; exact Int.le_refl _
      · have z0 : f p = 0 := by omega
        show f p * (w p + pi (o p) - pi (g p)) ≤ 0
        rw [z0, Int.zero_mul]; exact Int.le_refl _)
    rw [sm_0] at this; exact this
  have a2 : 0 ≤ sm (fun p => f' p * (w p + pi (o p) - pi (g p))) n := by
    have := sm_le (h := fun _ => 0) (h' := fun p => f' p * (w p + pi (o p) - pi (g p))) n (fun p a b => by
      have q1 := (hf' p a b).1
      by_cases z : 0 < f' p
      · exact Int.mul_nonneg q1 ((hp p a b).1 ((hf' p a b).2 z))
      · have z0 : f' p = 0 := by omega
        show 0 ≤ f' p * (w p + pi (o p) - pi (g p))
        rw [z0, Int.zero_mul]; exact Int.le_refl _)
    rw [sm_0] at this; exact this
  omega
/-- nothing is nearer by one more arc -/
def fixD (n : Nat) (o g w : Int → Int) (go : Int → Prop) (f d : Int → Int) : Prop := ∀ p, 0 ≤ p → p < (n : Int) → go p → (d (o p) < 1000000 → d (g p) ≤ d (o p) + w p ∧ d (g p) < 1000000) ∧ (0 < f p → d (g p) < 1000000 → d (o p) ≤ d (g p) - w p ∧ d (o p) < 1000000)
/-- what is over can't go: no flow is -/
theorem fl_none (H : GR n o g w go) {f d B : Int → Int} (hf : fok n go f) (hd : fixD n o g w go f d) (h1 : ∀ x, 0 ≤ x → x < 12 → 0 < B x + dvF n o g f x → d x < 1000000) (h2 : ∀ x, 0 ≤ x → x < 12 → d x < 1000000 → 0 ≤ B x + dvF n o g f x) {y : Int} (y0 : 0 ≤ y) (y1 : y < 12) (hy : 0 < B y + dvF n o g f y) {f' : Int → Int} (hf' : fok n go f') (e : ∀ x, 0 ≤ x → x < 12 → B x + dvF n o g f' x = 0) : False := by
  have H2 : ∀ p, 0 ≤ p → p < (n : Int) → (0 ≤ o p ∧ o p < 12) ∧ (0 ≤ g p ∧ g p < 12) := fun p a b => ⟨(H.2 p a b).1, (H.2 p a b).2.1⟩
  have x1 := dv_ex H2 (fun x => if d x < 1000000 then 1 else 0) f
  have x2 := dv_ex H2 (fun x => if d x < 1000000 then 1 else 0) f'
  have a1 : sm (fun p => f p * ((if d (g p) < 1000000 then 1 else 0) - (if d (o p) < 1000000 then 1 else 0))) n ≤ 0 := by
    have := sm_le (h := fun p => f p * ((if d (g p) < 1000000 then 1 else 0) - (if d (o p) < 1000000 then 1 else 0))) (h' := fun _ => 0) n (fun p a b => by
      have q1 := (hf p a b).1
      show f p * ((if d (g p) < 1000000 then 1 else 0) - (if d (o p) < 1000000 then 1 else 0)) ≤ 0
      by_cases z : 0 < f p
      · have gp := (hf p a b).2 z
        obtain ⟨k1, k2⟩ := hd p a b gp
        by_cases c1 : d (o p) < 1000000
        · rw [if_pos (k1 c1).2, if_pos c1]; exact Int.le_of_eq (Int.mul_zero _)
        · have c2 : ¬ d (g p) < 1000000 := fun c => c1 (k2 z c).2
          rw [if_neg c2, if_neg c1]; exact Int.le_of_eq (Int.mul_zero _)
      · have z0 : f p = 0 := by omega
        rw [z0, Int.zero_mul]; exact Int.le_refl _)
    rw [sm_0] at this; exact this
  have a2 : 0 ≤ sm (fun p => f' p * ((if d (g p) < 1000000 then 1 else 0) - (if d (o p) < 1000000 then 1 else 0))) n := by
    have := sm_le (h := fun _ => 0) (h' := fun p => f' p * ((if d (g p) < 1000000 then 1 else 0) - (if d (o p) < 1000000 then 1 else 0))) n (fun p a b => by
      have q1 := (hf' p a b).1
      show 0 ≤ f' p * ((if d (g p) < 1000000 then 1 else 0) - (if d (o p) < 1000000 then 1 else 0))
      by_cases z : 0 < f' p
      · have gp := (hf' p a b).2 z
        obtain ⟨k1, k2⟩ := hd p a b gp
        refine Int.mul_nonneg q1 ?_
        by_cases c1 : d (o p) < 1000000
        · rw [if_pos (k1 c1).2, if_pos c1]; decide
        · rw [if_neg c1]; split <;> decide
      · have z0 : f' p = 0 := by omega
        rw [z0, Int.zero_mul]; exact Int.le_refl _)
    rw [sm_0] at this; exact this
  rw [← x1] at a1
  rw [← x2] at a2
  have e1 : sm (fun x => (if d x < 1000000 then 1 else 0) * (B x + dvF n o g f' x)) 12 = 0 := by
    rw [sm_congr (h := fun _ => 0) 12 (fun x a b => by rw [e x a b, Int.mul_zero]), sm_0]
  have e2 : ∀ u : Int → Int, sm (fun x => (if d x < 1000000 then 1 else 0) * (B x + dvF n o g u x)) 12 = sm (fun x => (if d x < 1000000 then 1 else 0) * B x) 12 + sm (fun x => (if d x < 1000000 then 1 else 0) * dvF n o g u x) 12 := by
    intro u
    rw [← sm_add]
    exact sm_congr 12 (fun x _ _ => Int.mul_add _ _ _)
  have e3 : 0 < sm (fun x => (if d x < 1000000 then 1 else 0) * (B x + dvF n o g f x)) 12 := by
    have t1 := sm_upd (h := fun x => if x = y then 0 else (if d x < 1000000 then 1 else 0) * (B x + dvF n o g f x)) (h' := fun x => (if d x < 1000000 then 1 else 0) * (B x + dvF n o g f x)) y0 (fun i hi => (if_neg hi).symm) 12 (by omega)
    have t2 := sm_le (h := fun _ => 0) (h' := fun x => if x = y then 0 else (if d x < 1000000 then 1 else 0) * (B x + dvF n o g f x)) 12 (fun x a b => by
      show 0 ≤ (if x = y then 0 else (if d x < 1000000 then 1 else 0) * (B x + dvF n o g f x))
      split
      · exact Int.le_refl _
      · by_cases c1 : d x < 1000000
        · rw [if_pos c1, Int.one_mul]; exact h2 x a (by omega) c1
        · rw [if_neg c1, Int.zero_mul]; exact Int.le_refl _)
    rw [sm_0] at t2
    rw [t1]
    rw [if_pos (h1 y y0 y1 hy), if_pos rfl, Int.one_mul]
    omega
  rw [e2] at e1 e3
  omega
end
