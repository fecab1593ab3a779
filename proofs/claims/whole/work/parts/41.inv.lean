/-! WHAT STANDS BETWEEN CALLS. A town T is a memory of which only lasting places are looked at; M stands for T if it agrees there -/
def persC (c : Nat) (j : Int) : Bool := (Nat.ble 1 c && Nat.ble c 54) || Nat.beq c 56 || (Nat.beq c 55 && decide (j = 1))
def persM (c : Nat) (j : Int) : Bool := (Nat.ble 93 c && Nat.ble c 103) || (Nat.ble 106 c && Nat.ble c 109) || Nat.beq c 112 || Nat.beq c 113 || Nat.beq c 120 || Nat.beq c 121 || Nat.beq c 125 || Nat.beq c 126 || Nat.beq c 137 || Nat.beq c 138 || Nat.beq c 140 ||
  (Nat.beq c 91 && (decide (j = 3) || decide (j = 13) || decide (j = 16) || decide (j = 23) || decide (j = 30) || decide (j = 41) || decide (j = 47)))
def pers (c : Nat) (j : Int) : Bool := persC c j || persM c j
/-- the class's places, the model's -/
def RepC (T M : es_M) : Prop := ∀ (c : Nat) (j : Int), persC c j = true → M c j = T c j
def RepM (T M : es_M) : Prop := ∀ (c : Nat) (j : Int), persM c j = true → M c j = T c j
def Rep (T M : es_M) : Prop := ∀ (c : Nat) (j : Int), pers c j = true → M c j = T c j
theorem Rep.rf (T : es_M) : Rep T T := fun _ _ _ => rfl
theorem RepC.rf (T : es_M) : RepC T T := fun _ _ _ => rfl
theorem RepM.rf (T : es_M) : RepM T T := fun _ _ _ => rfl
theorem Rep.c {T M : es_M} (h : Rep T M) : RepC T M := fun c j q => h c j (by unfold pers; rw [q]; rfl)
theorem Rep.m {T M : es_M} (h : Rep T M) : RepM T M := fun c j q => h c j (by unfold pers; rw [q]; cases persC c j <;> rfl)
theorem RepC.upd {T M : es_M} {c : Nat} {j v : Int} (h : RepC T M) (hc : persC c j = false) : RepC T (es_upd M c j v) := by
  intro c' j' h'
  unfold es_upd
  by_cases q : c' = c ∧ j' = j
  · rw [q.1, q.2, hc] at h'; cases h'
  · rw [if_neg q]; exact h c' j' h'
theorem RepM.upd {T M : es_M} {c : Nat} {j v : Int} (h : RepM T M) (hc : persM c j = false) : RepM T (es_upd M c j v) := by
  intro c' j' h'
  unfold es_upd
  by_cases q : c' = c ∧ j' = j
  · rw [q.1, q.2, hc] at h'; cases h'
  · rw [if_neg q]; exact h c' j' h'
theorem Rep.upd {T M : es_M} {c : Nat} {j v : Int} (h : Rep T M) (hc : pers c j = false) : Rep T (es_upd M c j v) := by
  intro c' j' h'
  unfold es_upd
  by_cases q : c' = c ∧ j' = j
  · rw [q.1, q.2, hc] at h'; cases h'
  · rw [if_neg q]; exact h c' j' h'
theorem Rep.cpy {T M : es_M} {a b : Nat} {sp dp n : Int} (h : Rep T M) (hb : ∀ j, pers b j = false) : Rep T (es_cpy M a sp b dp n) := by
  intro c' j' h'
  unfold es_cpy
  by_cases q : c' = b ∧ dp ≤ j' ∧ j' < dp + n
  · rw [q.1, hb] at h'; cases h'
  · rw [if_neg q]; exact h c' j' h'
theorem es_upd_s {M : es_M} {c : Nat} {j v : Int} : es_upd M c j v c j = v := if_pos ⟨rfl, rfl⟩
theorem es_upd_c {M : es_M} {c : Nat} {j v j' : Int} : es_upd M c j v c j' = if j' = j then v else M c j' := by
  unfold es_upd
  by_cases q : j' = j
  · rw [if_pos ⟨rfl, q⟩, if_pos q]
  · rw [if_neg (fun z => q z.2), if_neg q]
theorem es_upd_n {M : es_M} {c c' : Nat} {j v j' : Int} (h : c' ≠ c) : es_upd M c j v c' j' = M c' j' := if_neg fun z => h z.1
theorem es_upd_j {M : es_M} {c c' : Nat} {j v j' : Int} (h : j' ≠ j) : es_upd M c j v c' j' = M c' j' := if_neg fun z => h z.2
/-! the town -/
/-- where a pass begins and ends, how long it is -/
def og (T : es_M) (p : Int) : Int := if p % 2 = 0 then T 2 (p / 2) else T 3 (p / 2)
def gl (T : es_M) (p : Int) : Int := if p % 2 = 0 then T 3 (p / 2) else T 2 (p / 2)
def ln (T : es_M) (p : Int) : Int := if p % 2 = 0 then T 4 (p / 2) else T 5 (p / 2)
def lesF (T : es_M) (s : Int) : Int := if T 5 s = -1 then T 4 s else min (T 4 s) (T 5 s)
/-- services of the streets ahead of one -/
def preS (T : es_M) : Nat → Int
  | 0 => 0
  | k + 1 => preS T k + T 6 k
def oddN (T : es_M) : Nat → Nat
  | 0 => 0
  | k + 1 => (oddN T k ^^^ 2 ^ (T 2 (T 10 k)).toNat) ^^^ 2 ^ (T 3 (T 10 k)).toNat
def turnsN (T : es_M) : Nat → Int
  | 0 => 0
  | k + 1 => turnsN T k + if T 101 k = -1 then 0 else 1
def isDone (T : es_M) (v p : Int) : Prop := T 10 v = p / 2 ∧ (T 11 v = 0 ∨ T 11 v = p % 2 + 1)
/-- a code (2 * service + direction) can be gone -/
def canDo (T : es_M) (k : Int) : Prop := T 13 (2 * T 10 (k / 2) + k % 2) = k / 2 ∧ ¬ ln T (2 * T 10 (k / 2) + k % 2) = -1
def TIst (T : es_M) (s : Int) : Prop := (0 ≤ T 2 s ∧ T 2 s < 12) ∧ (0 ≤ T 3 s ∧ T 3 s < 12) ∧ T 2 s ≠ T 3 s ∧ (1 ≤ T 4 s ∧ T 4 s ≤ 99) ∧ (T 5 s = -1 ∨ (1 ≤ T 5 s ∧ T 5 s ≤ 99)) ∧ T 93 s = T 2 s ∧ T 94 s = T 3 s ∧ T 95 (2 * s) = T 4 s ∧ T 95 (2 * s + 1) = T 5 s ∧
  (0 ≤ T 6 s ∧ T 6 s ≤ 2) ∧ T 96 s = T 6 s ∧ T 97 s = T 7 s ∧ (0 ≤ T 7 s ∧ T 7 s ≤ 9) ∧ (T 6 s = 2 → T 5 s ≠ -1) ∧ (T 6 s ≠ 0 → 1 ≤ T 7 s)
def TIsv (T : es_M) (s : Int) : Prop := ∀ k, 0 ≤ k → k < T 6 s → T 10 (preS T s.toNat + k) = s ∧ T 11 (preS T s.toNat + k) = if T 6 s = 1 then 0 else k + 1
/-- a state of work, piece by piece: the class's rows beside the model's -/
def SIsc (f g : Int → Int) : Prop := (0 ≤ f 1 ∧ f 1 ≤ 60 ∧ g 0 = f 1) ∧ (0 ≤ f 2 ∧ f 2 ≤ 10 ∧ g 1 = f 2) ∧ (0 ≤ f 3 ∧ f 3 ≤ 12 ∧ g 2 = f 3) ∧ (0 ≤ f 5 ∧ f 5 ≤ 99 ∧ g 3 = f 5)
def SIsh (n b : Int) (g : Int → Int) : Prop := (0 ≤ b ∧ b < 262144) ∧ ∀ s, 0 ≤ s → s < 18 → (ebit b s → g s = 1 ∧ s < n) ∧ (¬ ebit b s → g s = 0)
def SIhd (n : Int) (h g : Int → Int) : Prop := ∀ i, 0 ≤ i → i < n → (0 ≤ h i ∧ h i < 12) ∧ g i = h i
def SIhp (T : es_M) (n : Int) (h p : Int → Int) : Prop := ∀ i, 0 ≤ i → i + 1 < n → (0 ≤ p i ∧ p i < 2 * T 1 0) ∧ 1 ≤ ln T (p i) ∧ og T (p i) = h i ∧ gl T (p i) = h (i + 1)
def SIor (T : es_M) (n : Int) (o g2 g3 : Int → Int) : Prop := (∀ i, 0 ≤ i → i < n → (0 ≤ o i ∧ o i < 2 * T 1 1) ∧ g2 i = o i / 2 ∧ g3 i = o i % 2 ∧ canDo T (o i)) ∧ ∀ i j, 0 ≤ i → i < n → 0 ≤ j → j < n → o i / 2 = o j / 2 → i = j
def SIcu (n : Int) (b k g4 g5 : Int → Int) : Prop := ∀ i, 0 ≤ i → i < n → (0 ≤ b i ∧ b i ≤ 4095) ∧ g4 i = b i ∧ (1 ≤ k i ∧ k i ≤ 99) ∧ g5 i = k i
def SIbz (f g : Int → Int) : Prop := ∀ h, 0 ≤ h → h < 24 → (1 ≤ f h ∧ f h ≤ 400) ∧ g h = f h
def SIop (a b g7 g8 : Int → Int) : Prop := ∀ s, 0 ≤ s → s < 18 → (0 ≤ a s ∧ a s ≤ 1439) ∧ g7 s = a s ∧ (0 ≤ b s ∧ b s ≤ 1439) ∧ g8 s = b s
def SIst (f g : Int → Int) : Prop := ∀ k, 0 ≤ k → k < 144 → (-1 ≤ f k ∧ f k ≤ 11) ∧ g k = f k + 1
/-- the class's cells from c on, the model's view mv -/
def SI (T : es_M) (c : Nat) (mv : Nat → Int → Int) : Prop := SIsc (T c) (mv 0) ∧ SIsh (T 1 0) (T c 4) (mv 6) ∧ SIhd (T c 1) (T (c + 1)) (mv 1) ∧ SIhp T (T c 1) (T (c + 1)) (T (c + 2)) ∧ SIor T (T c 2) (T (c + 3)) (mv 2) (mv 3) ∧ SIcu (T c 3) (T (c + 4)) (T (c + 5)) (mv 4) (mv 5) ∧
  SIbz (T (c + 6)) (mv 9) ∧ SIop (T (c + 7)) (T (c + 8)) (mv 7) (mv 8) ∧ SIst (T (c + 9)) (mv 10)
def mvN (T : es_M) (k : Nat) (j : Int) : Int := match k with
  | 0 => if j = 0 then T 91 41 else if j = 1 then T 91 47 else if j = 2 then T 91 30 else T 91 13
  | 1 => T 120 j
  | 2 => T 125 j
  | 3 => T 126 j
  | 4 => T 112 j
  | 5 => T 113 j
  | 6 => T 98 j
  | 7 => T 99 j
  | 8 => T 100 j
  | 9 => T 121 j
  | _ => T 102 j
def mvK (T : es_M) (i : Int) (k : Nat) (j : Int) : Int := match k with
  | 0 => T 138 (i * 400 + j)
  | 1 => T 138 (i * 400 + (4 + j))
  | 2 => T 138 (i * 400 + (64 + 2 * j))
  | 3 => T 138 (i * 400 + (65 + 2 * j))
  | 4 => T 138 (i * 400 + (84 + 2 * j))
  | 5 => T 138 (i * 400 + (85 + 2 * j))
  | 6 => T 138 (i * 400 + (108 + 3 * j))
  | 7 => T 138 (i * 400 + (109 + 3 * j))
  | 8 => T 138 (i * 400 + (110 + 3 * j))
  | 9 => T 138 (i * 400 + (162 + j))
  | _ => T 138 (i * 400 + (186 + j))
def TItown (T : es_M) : Prop :=
  (0 ≤ T 1 0 ∧ T 1 0 ≤ 18 ∧ T 91 3 = T 1 0) ∧ (0 ≤ T 1 1 ∧ T 1 1 ≤ 10 ∧ T 91 23 = T 1 1) ∧
  (∀ s, 0 ≤ s → s < T 1 0 → TIst T s) ∧
  (∀ a b, 0 ≤ a → a < 12 → 0 ≤ b → b < 12 → T 8 (a * 12 + b) = -1 ∨ ((0 ≤ T 8 (a * 12 + b) ∧ T 8 (a * 12 + b) < T 1 0) ∧ ((T 2 (T 8 (a * 12 + b)) = a ∧ T 3 (T 8 (a * 12 + b)) = b) ∨ (T 2 (T 8 (a * 12 + b)) = b ∧ T 3 (T 8 (a * 12 + b)) = a)))) ∧
  (∀ s, 0 ≤ s → s < T 1 0 → T 8 (T 2 s * 12 + T 3 s) = s ∧ T 8 (T 3 s * 12 + T 2 s) = s) ∧
  (∀ k, 0 ≤ k → k < 1728 → (T 9 k = -2 ∧ T 101 k = -1) ∨ (T 9 k = -1 ∧ T 101 k = -2) ∨ ((0 ≤ T 9 k ∧ T 9 k ≤ 99) ∧ T 101 k = T 9 k)) ∧
  T 1 2 = turnsN T 1728 ∧
  T 1 1 = preS T (T 1 0).toNat ∧ (∀ s, 0 ≤ s → s < T 1 0 → TIsv T s) ∧
  (∀ v, 0 ≤ v → v < T 1 1 → T 106 v = T 10 v ∧ T 107 v = T 11 v) ∧
  (∀ v, 0 ≤ v → v < 10 → T 108 v = T 12 v ∧ 0 ≤ T 12 v ∧ T 12 v < 2 ^ (T 1 1).toNat ∧ (T 1 1 ≤ v → T 12 v = 0) ∧ ¬ ebit (T 12 v) v) ∧
  (∀ s, 0 ≤ s → s < 18 → T 13 (2 * s) = (if s < T 1 0 ∧ T 6 s ≠ 0 then preS T s.toNat else -1) ∧ T 13 (2 * s + 1) = (if s < T 1 0 ∧ T 6 s = 1 then preS T s.toNat else if s < T 1 0 ∧ T 6 s = 2 then preS T s.toNat + 1 else -1)) ∧
  T 1 3 = (oddN T (T 1 1).toNat : Int)
def TItext (T : es_M) : Prop := (0 ≤ T 55 1 ∧ T 55 1 ≤ 100 ∧ T 91 16 = T 55 1) ∧ ∀ i, 0 ≤ i → i < T 55 1 → T 103 i = T 56 i ∧ 0 ≤ T 56 i ∧ T 56 i ≤ 255
def TIkept (T : es_M) : Prop := ∀ i : Nat, i < 3 → (T (25 + 10 * i) 0 = 0 ∨ T (25 + 10 * i) 0 = 1) ∧ T 137 i = T (25 + 10 * i) 0 ∧ (T (25 + 10 * i) 0 = 1 → SI T (25 + 10 * i) (mvK T i))
def TI (T : es_M) : Prop := TItown T ∧ SI T 14 (mvN T) ∧ TIkept T ∧ TItext T ∧ ∀ i, 0 ≤ i → i < 10 → T 109 i = 0
theorem TI.n {T : es_M} (h : TI T) : 0 ≤ T 1 0 ∧ T 1 0 ≤ 18 ∧ T 91 3 = T 1 0 := h.1.1
theorem TI.v {T : es_M} (h : TI T) : 0 ≤ T 1 1 ∧ T 1 1 ≤ 10 ∧ T 91 23 = T 1 1 := h.1.2.1
theorem TI.st {T : es_M} (h : TI T) {s : Int} (h0 : 0 ≤ s) (h1 : s < T 1 0) : TIst T s := h.1.2.2.1 s h0 h1
theorem TI.jt {T : es_M} (h : TI T) {a b : Int} (ha : 0 ≤ a) (ha2 : a < 12) (hb : 0 ≤ b) (hb2 : b < 12) : T 8 (a * 12 + b) = -1 ∨ ((0 ≤ T 8 (a * 12 + b) ∧ T 8 (a * 12 + b) < T 1 0) ∧ ((T 2 (T 8 (a * 12 + b)) = a ∧ T 3 (T 8 (a * 12 + b)) = b) ∨ (T 2 (T 8 (a * 12 + b)) = b ∧ T 3 (T 8 (a * 12 + b)) = a))) := h.1.2.2.2.1 a b ha ha2 hb hb2
theorem TI.js {T : es_M} (h : TI T) {s : Int} (h0 : 0 ≤ s) (h1 : s < T 1 0) : T 8 (T 2 s * 12 + T 3 s) = s ∧ T 8 (T 3 s * 12 + T 2 s) = s := h.1.2.2.2.2.1 s h0 h1
theorem TI.tn {T : es_M} (h : TI T) {k : Int} (h0 : 0 ≤ k) (h1 : k < 1728) : (T 9 k = -2 ∧ T 101 k = -1) ∨ (T 9 k = -1 ∧ T 101 k = -2) ∨ ((0 ≤ T 9 k ∧ T 9 k ≤ 99) ∧ T 101 k = T 9 k) := h.1.2.2.2.2.2.1 k h0 h1
theorem TI.tt {T : es_M} (h : TI T) : T 1 2 = turnsN T 1728 := h.1.2.2.2.2.2.2.1
theorem TI.nv {T : es_M} (h : TI T) : T 1 1 = preS T (T 1 0).toNat := h.1.2.2.2.2.2.2.2.1
theorem TI.sv {T : es_M} (h : TI T) {s : Int} (h0 : 0 ≤ s) (h1 : s < T 1 0) : TIsv T s := h.1.2.2.2.2.2.2.2.2.1 s h0 h1
theorem TI.mv {T : es_M} (h : TI T) {v : Int} (h0 : 0 ≤ v) (h1 : v < T 1 1) : T 106 v = T 10 v ∧ T 107 v = T 11 v := h.1.2.2.2.2.2.2.2.2.2.1 v h0 h1
theorem TI.ah {T : es_M} (h : TI T) {v : Int} (h0 : 0 ≤ v) (h1 : v < 10) : T 108 v = T 12 v ∧ 0 ≤ T 12 v ∧ T 12 v < 2 ^ (T 1 1).toNat ∧ (T 1 1 ≤ v → T 12 v = 0) := have x := h.1.2.2.2.2.2.2.2.2.2.2.1 v h0 h1; ⟨x.1, x.2.1, x.2.2.1, x.2.2.2.1⟩
/-- no service is ahead of itself -/
theorem TI.ns {T : es_M} (h : TI T) {v : Int} (h0 : 0 ≤ v) (h1 : v < 10) : ¬ ebit (T 12 v) v := (h.1.2.2.2.2.2.2.2.2.2.2.1 v h0 h1).2.2.2.2
theorem TI.db {T : es_M} (h : TI T) {s : Int} (h0 : 0 ≤ s) (h1 : s < 18) : T 13 (2 * s) = (if s < T 1 0 ∧ T 6 s ≠ 0 then preS T s.toNat else -1) ∧ T 13 (2 * s + 1) = (if s < T 1 0 ∧ T 6 s = 1 then preS T s.toNat else if s < T 1 0 ∧ T 6 s = 2 then preS T s.toNat + 1 else -1) := h.1.2.2.2.2.2.2.2.2.2.2.2.1 s h0 h1
theorem TI.od {T : es_M} (h : TI T) : T 1 3 = (oddN T (T 1 1).toNat : Int) := h.1.2.2.2.2.2.2.2.2.2.2.2.2
theorem TI.S {T : es_M} (h : TI T) : SI T 14 (mvN T) := h.2.1
theorem TI.K {T : es_M} (h : TI T) : TIkept T := h.2.2.1
theorem TI.X {T : es_M} (h : TI T) : TItext T := h.2.2.2.1
theorem TI.U {T : es_M} (h : TI T) {i : Int} (h0 : 0 ≤ i) (h1 : i < 10) : T 109 i = 0 := h.2.2.2.2 i h0 h1

/-! frames: what a town's words speak of -/
theorem preS_congr {M M' : es_M} (h : M' 6 = M 6) : preS M' = preS M := by
  funext n
  induction n with
  | zero => rfl
  | succ n ih => show preS M' n + M' 6 n = preS M n + M 6 n; rw [ih, h]
theorem oddN_congr {M M' : es_M} (h2 : M' 2 = M 2) (h3 : M' 3 = M 3) (h10 : M' 10 = M 10) : oddN M' = oddN M := by
  funext n
  induction n with
  | zero => rfl
  | succ n ih => show (oddN M' n ^^^ 2 ^ (M' 2 (M' 10 n)).toNat) ^^^ 2 ^ (M' 3 (M' 10 n)).toNat = (oddN M n ^^^ 2 ^ (M 2 (M 10 n)).toNat) ^^^ 2 ^ (M 3 (M 10 n)).toNat; rw [ih, h2, h3, h10]
theorem turnsN_congr {M M' : es_M} (h : M' 101 = M 101) : turnsN M' = turnsN M := by
  funext n
  induction n with
  | zero => rfl
  | succ n ih => show turnsN M' n + (if M' 101 n = -1 then 0 else 1) = turnsN M n + (if M 101 n = -1 then 0 else 1); rw [ih, h]
theorem TItown.congr {M M' : es_M} (h : TItown M) (e : ∀ c, (1 ≤ c ∧ c ≤ 13) ∨ (93 ≤ c ∧ c ≤ 97) ∨ c = 101 ∨ (106 ≤ c ∧ c ≤ 108) → M' c = M c) (e3 : M' 91 3 = M 91 3) (e23 : M' 91 23 = M 91 23) : TItown M' := by
  have a1 := e 1 (by decide)
  have a2 := e 2 (by decide)
  have a3 := e 3 (by decide)
  have a4 := e 4 (by decide)
  have a5 := e 5 (by decide)
  have a6 := e 6 (by decide)
  have a7 := e 7 (by decide)
  have a8 := e 8 (by decide)
  have a9 := e 9 (by decide)
  have a10 := e 10 (by decide)
  have a11 := e 11 (by decide)
  have a12 := e 12 (by decide)
  have a13 := e 13 (by decide)
  have b3 := e 93 (by decide)
  have b4 := e 94 (by decide)
  have b5 := e 95 (by decide)
  have b6 := e 96 (by decide)
  have b7 := e 97 (by decide)
  have c1 := e 101 (by decide)
  have c6 := e 106 (by decide)
  have c7 := e 107 (by decide)
  have c8 := e 108 (by decide)
  unfold TItown TIst TIsv at h ⊢
  rw [a1, a2, a3, a4, a5, a6, a7, a8, a9, a10, a11, a12, a13, b3, b4, b5, b6, b7, c6, c7, c8, e3, e23, preS_congr a6, oddN_congr a2 a3 a10, turnsN_congr c1, c1]
  exact h
theorem og_congr {M M' : es_M} (h2 : M' 2 = M 2) (h3 : M' 3 = M 3) : og M' = og M := by funext p; unfold og; rw [h2, h3]
theorem gl_congr {M M' : es_M} (h2 : M' 2 = M 2) (h3 : M' 3 = M 3) : gl M' = gl M := by funext p; unfold gl; rw [h2, h3]
theorem ln_congr {M M' : es_M} (h4 : M' 4 = M 4) (h5 : M' 5 = M 5) : ln M' = ln M := by funext p; unfold ln; rw [h4, h5]
theorem canDo_congr {M M' : es_M} (h4 : M' 4 = M 4) (h5 : M' 5 = M 5) (h10 : M' 10 = M 10) (h13 : M' 13 = M 13) : canDo M' = canDo M := by funext p; unfold canDo; rw [ln_congr h4 h5, h10, h13]
/-- the town's cells are the same -/
def tow (M M' : es_M) : Prop := ∀ c, 1 ≤ c ∧ c ≤ 13 → M' c = M c
theorem SIhp.congr {M M' : es_M} (e : tow M M') {n : Int} {h p : Int → Int} (q : SIhp M n h p) : SIhp M' n h p := by
  unfold SIhp at q ⊢
  rw [og_congr (e 2 (by decide)) (e 3 (by decide)), gl_congr (e 2 (by decide)) (e 3 (by decide)), ln_congr (e 4 (by decide)) (e 5 (by decide)), e 1 (by decide)]
  exact q
theorem SIor.congr {M M' : es_M} (e : tow M M') {n : Int} {o g2 g3 : Int → Int} (q : SIor M n o g2 g3) : SIor M' n o g2 g3 := by
  unfold SIor at q ⊢
  rw [canDo_congr (e 4 (by decide)) (e 5 (by decide)) (e 10 (by decide)) (e 13 (by decide)), e 1 (by decide)]
  exact q
theorem SI.congr {M M' : es_M} (e : tow M M') {c : Nat} {mv mv' : Nat → Int → Int} (h : SI M c mv) (ec : ∀ i, i ≤ 9 → M' (c + i) = M (c + i)) (em : mv' = mv) : SI M' c mv' := by
  obtain ⟨h1, h2, h3, h4, h5, h6, h7, h8, h9⟩ := h
  have e0 : M' c = M c := ec 0 (by omega)
  unfold SI
  rw [e0, ec 1 (by omega), ec 2 (by omega), ec 3 (by omega), ec 4 (by omega), ec 5 (by omega), ec 6 (by omega), ec 7 (by omega), ec 8 (by omega), ec 9 (by omega), em, e 1 (by decide)]
  exact ⟨h1, h2, h3, h4.congr e, h5.congr e, h6, h7, h8, h9⟩
theorem mvK_congr {M M' : es_M} (e : M' 138 = M 138) (i : Int) : mvK M' i = mvK M i := by
  funext k j
  unfold mvK
  rw [e]
theorem TIkept.congr {M M' : es_M} (e : tow M M') (h : TIkept M) (ec : ∀ c, 25 ≤ c ∧ c ≤ 54 → M' c = M c) (e1 : M' 137 = M 137) (e2 : M' 138 = M 138) : TIkept M' := by
  intro i hi
  obtain ⟨h1, h2, h3⟩ := h i hi
  rw [ec (25 + 10 * i) (by omega), e1]
  exact ⟨h1, h2, fun z => (h3 z).congr e (fun j hj => ec _ (by omega)) (mvK_congr e2 _)⟩
theorem TItext.congr {M M' : es_M} (h : TItext M) (e1 : M' 55 1 = M 55 1) (e2 : M' 91 16 = M 91 16) (e3 : M' 56 = M 56) (e4 : M' 103 = M 103) : TItext M' := by
  unfold TItext at h ⊢
  rw [e1, e2, e3, e4]
  exact h
