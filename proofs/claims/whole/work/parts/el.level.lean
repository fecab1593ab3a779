/-! LEVEL (12): the model levels a choice of directions -/
def wyB (b s : Int) : Int := if ebit b s then 1 else 0
theorem sm_zero {o : Int → Int} {n : Nat} (h : sm o n = 0) (hn : ∀ x, 0 ≤ x → x < (n : Int) → o x ≤ 0) {x : Int} (x0 : 0 ≤ x) (x1 : x < (n : Int)) : o x = 0 := by
  have t1 := sm_upd (h := fun y => if y = x then 0 else o y) (h' := o) x0 (fun i hi => (if_neg hi).symm) n x1
  have t2 := sm_le (h := fun y => if y = x then 0 else o y) (h' := fun _ => 0) n (fun y y0 y1 => by
    show (if y = x then 0 else o y) ≤ 0
    split
    · exact Int.le_refl _
    · exact hn y y0 y1)
  rw [sm_0] at t2
  rw [if_pos rfl, h] at t1
  have := hn x x0 x1
  omega
section
variable {T : es_M}
theorem dv_sum (hT : TI T) (f : Int → Int) : sm (dvF (2 * T 1 0).toNat (og T) (gl T) f) 12 = 0 := by
  have H := hT.gr
  have x := dv_ex (n := (2 * T 1 0).toNat) (o := og T) (g := gl T) (fun p a b => ⟨(H.2 p a b).1, (H.2 p a b).2.1⟩) (fun _ => 1) f
  rw [sm_congr (h := dvF (2 * T 1 0).toNat (og T) (gl T) f) 12 (fun i _ _ => Int.one_mul _), sm_congr (h := fun _ => 0) (2 * T 1 0).toNat (fun p _ _ => by show f p * (1 - 1) = 0; rw [Int.sub_self, Int.mul_zero]), sm_0] at x
  exact x
theorem Bsv_sum (hT : TI T) {a : Int → Int} (ha : ∀ s, 0 ≤ s → s < T 1 1 → isP T (a s)) : sm (Bsv T a) 12 = 0 := by
  have hv := hT.v
  have H : ∀ s, 0 ≤ s → s < ((T 1 1).toNat : Int) → (0 ≤ og T (a s) ∧ og T (a s) < 12) ∧ (0 ≤ gl T (a s) ∧ gl T (a s) < 12) := fun s s0 s1 => by
    have q := ha s s0 (by omega)
    have := hT.ps q.1 q.2
    exact ⟨this.1, this.2.1⟩
  have x := dv_ex (n := (T 1 1).toNat) (o := fun s => og T (a s)) (g := fun s => gl T (a s)) H (fun _ => 1) (fun _ => 1)
  rw [sm_congr (h := Bsv T a) 12 (fun i _ _ => ?_), sm_congr (h := fun _ => 0) (T 1 1).toNat (fun p _ _ => by show (1 : Int) * (1 - 1) = 0; decide), sm_0] at x
  · exact x
  · rw [Int.one_mul]
    unfold dvF Bsv
    refine sm_congr _ (fun s s0 s1 => ?_)
    have q := ha s s0 (by omega)
    rw [Int.one_mul, if_neg (by have := q.1; omega)]
theorem OVs.op (hT : TI T) {a o f : Int → Int} (ha : ∀ s, 0 ≤ s → s < T 1 1 → isP T (a s)) (h : OVs T (Bsv T a) o f) (hn : ∀ x, 0 ≤ x → x < 12 → o x ≤ 0) : OPF T (Bsv T a) f := by
  refine ⟨h.1, h.2.1, fun x x0 x1 => ?_⟩
  rw [← h.2.2 x x0 x1]
  refine sm_zero (n := 12) ?_ hn x0 x1
  rw [sm_congr (h := fun x => Bsv T a x + dvF (2 * T 1 0).toNat (og T) (gl T) f x) 12 (fun i i0 i1 => h.2.2 i i0 i1), sm_add, dv_sum hT, Bsv_sum hT ha]
  rfl
theorem ACs_c {w w' : Int → Int} (e : smW T w w') {x : Int} (h : ACs T w x) : ACs T w' x := by
  refine ⟨fun s s0 s1 => by rw [← e s s0 s1]; exact h.1 s s0 s1, FEs_c (fun s s0 s1 => ?_) h.2⟩
  unfold awF
  rw [e s s0 s1]
theorem le_pos {o : Int → Int} (h : 0 < leF o) : ∃ x, 0 ≤ x ∧ x < 12 ∧ 0 < o x := by
  by_cases z : ∃ x, 0 ≤ x ∧ x < 12 ∧ 0 < o x
  · exact z
  · have := sm_le (h := fun x => max 0 (o x)) (h' := fun _ => 0) 12 (fun x x0 x1 => by
      have : ¬ 0 < o x := fun y => z ⟨x, x0, by omega, y⟩
      show max 0 (o x) ≤ 0
      omega)
    rw [sm_0] at this
    unfold leF at h
    omega
theorem le_zero {o : Int → Int} (h : leF o ≤ 0) : ∀ x, 0 ≤ x → x < 12 → o x ≤ 0 := by
  intro x x0 x1
  have t1 := sm_upd (h := fun y => if y = x then 0 else max 0 (o y)) (h' := fun y => max 0 (o y)) x0 (fun i hi => (if_neg hi).symm) 12 x1
  have t2 := sm_le (h := fun _ => 0) (h' := fun y => if y = x then 0 else max 0 (o y)) 12 (fun y _ _ => by
    show 0 ≤ (if y = x then 0 else max 0 (o y))
    split <;> omega)
  rw [sm_0] at t2
  rw [if_pos rfl] at t1
  unfold leF at h
  omega
end
section
variable {d : Nat} {Q : Int → es_M → Prop} {T M : es_M}
theorem s_m_levelBy (hT : TI T) (hR : RepM T M) {b : Int} (b0 : 0 ≤ b) (b1 : b < 1024) (k : ∀ y M', ofP M M' → y ≤ 1000000 → (y < 1000000 → ACs T (wyB b) y) → (∀ x, ACs T (wyB b) x → y ≤ x) → Q y M') : es_Call (d + 4) 218 [.inr (.inr 91), .inl b] M Q := by
  have hv := hT.v
  have hn := hT.n
  have H := hT.gr
  apply m_Model_levelBy
  intro G hG
  apply k_Model_levelBy_0 hG
  have wr : ∀ s, wyB b s = 0 ∨ wyB b s = 1 := fun s => by unfold wyB; split; exact Or.inr rfl; exact Or.inl rfl
  -- when all is balanced or nothing more goes
  have fin : (∀ s, 0 ≤ s → s < T 1 1 → dOw T s (wyB b s)) → ∀ (N : Nat) (M2 : es_M) (sum : Int), ofP M M2 → OVs T (Bsv T (awF T (wyB b))) (M2 114) (M2 115) → leF (M2 114) = N → sum = Csv T (awF T (wyB b)) + coF (2 * T 1 0).toNat (ln T) (M2 115) → sum ≤ 990 + 85536 * (10 - (N : Int)) → N ≤ 10 → (∀ p, 0 ≤ p → p < 36 → 0 ≤ M2 115 p ∧ M2 115 p ≤ 12 * (10 - (N : Int))) → (∀ x, 0 ≤ x → x < 12 → -20 + (N : Int) ≤ M2 114 x ∧ M2 114 x ≤ 20 - (N : Int)) → G 144 [lr 91, none, li sum, li 1, none, none] [] M2 := by
    intro okd
    have okw : okW T (wyB b) := fun s s0 s1 => ⟨wr s, okd s s0 s1⟩
    have isp : ∀ s, 0 ≤ s → s < T 1 1 → isP T (awF T (wyB b) s) := fun s s0 s1 => by
      have pr := poF_r hT (k := 2 * s + wyB b s) (by have := wr s; omega) (by have := wr s; omega)
      exact ⟨pr.1, pr.2.1⟩
    have cnn : 0 ≤ Csv T (awF T (wyB b)) := Csv_nn hT (fun s s0 s1 => Or.inr ⟨isp s s0 s1, (okd s s0 s1).2⟩)
    intro N
    induction N with
    | zero =>
      intro M2 sum oP ov le es sb N10 fb ob
      apply k_Model_levelBy_144 hG
      refine es_t1 ?_
      have nn := coF_nn hT ov.1
      have op := ov.op hT isp (le_zero (by rw [le]; exact Int.le_refl _))
      refine es_up (P := fun j => G 154 [lr 91, none, li sum, none, li (sm (fun x => max 0 (M2 114 x)) j.toNat), li j] [] M2) (n := 12) (by decide) ?_ ?_
      · apply k_Model_levelBy_154 hG
        have e : sm (fun x => max 0 (M2 114 x)) (12 : Int).toNat = 0 := le
        rw [e, w32_s (k := sum + 0) (by omega) (by omega), show sum + 0 = sum by omega]
        refine ⟨fun _ => ⟨fun _ => ⟨fun _ => ⟨fun _ => ?_, fun z => absurd (by omega) z⟩, fun z => absurd rfl z⟩, fun z => absurd (by decide) z⟩, fun z => absurd (by decide) z⟩
        apply k_Model_levelBy_144 hG
        refine es_t0 (k _ M2 oP (by omega) (fun _ => ⟨okw, by rw [es]; exact op.fe⟩) (fun x ac => by rw [es]; exact op.min hT ac.2))
      · intro j j0 j1 ih
        apply k_Model_levelBy_154 hG
        have mz := le_zero (o := M2 114) (by rw [le]; exact Int.le_refl _) j j0 j1
        have z0 : sm (fun x => max 0 (M2 114 x)) (j + 1).toNat = sm (fun x => max 0 (M2 114 x)) j.toNat + max 0 (M2 114 j) := by
          rw [toN1 j0]
          show _ + max 0 (M2 114 (j.toNat : Int)) = _
          rw [toNI j0]
        have bnd : sm (fun x => max 0 (M2 114 x)) j.toNat ≤ 0 ∧ 0 ≤ sm (fun x => max 0 (M2 114 x)) j.toNat := by
          have t1 := sm_le (h := fun x => max 0 (M2 114 x)) (h' := fun _ => 0) j.toNat (fun x x0 x1 => by have := le_zero (o := M2 114) (by rw [le]; exact Int.le_refl _) x x0 (by omega); show max 0 (M2 114 x) ≤ 0; omega)
          have t2 := sm_le (h := fun _ => 0) (h' := fun x => max 0 (M2 114 x)) j.toNat (fun x _ _ => by show 0 ≤ max 0 (M2 114 x); omega)
          rw [sm_0] at t1 t2
          exact ⟨t1, t2⟩
        rw [z0] at ih
        refine ⟨fun z => absurd z (by omega), fun _ => ⟨⟨j0, j1⟩, ?_⟩⟩
        rw [w32_s (by omega) (by omega), w32_1 (by omega) (by omega)]
        exact ih
    | succ N ihN =>
      intro M2 sum oP ov le es sb N10 fb ob
      apply k_Model_levelBy_144 hG
      refine es_t1 ?_
      have nn := coF_nn hT ov.1
      have bnd : ∀ j : Nat, (j : Int) ≤ 12 → 0 ≤ sm (fun x => max 0 (M2 114 x)) j ∧ sm (fun x => max 0 (M2 114 x)) j ≤ 20 * j := by
        intro j
        induction j with
        | zero => intro _; exact ⟨Int.le_refl _, Int.le_refl _⟩
        | succ j ih =>
          intro hj
          have a := ih (by omega)
          have c := ob j (by omega) (by omega)
          show 0 ≤ sm (fun x => max 0 (M2 114 x)) j + max 0 (M2 114 j) ∧ sm (fun x => max 0 (M2 114 x)) j + max 0 (M2 114 j) ≤ 20 * ((j + 1 : Nat) : Int)
          omega
      refine es_up (P := fun j => G 154 [lr 91, none, li sum, none, li (sm (fun x => max 0 (M2 114 x)) j.toNat), li j] [] M2) (n := 12) (by decide) ?_ ?_
      · apply k_Model_levelBy_154 hG
        have e : sm (fun x => max 0 (M2 114 x)) (12 : Int).toNat = ((N + 1 : Nat) : Int) := le
        rw [e]
        refine ⟨fun _ => ⟨fun z => absurd z (by omega), fun _ => ⟨fun z => absurd z (by decide), fun _ => ?_⟩⟩, fun z => absurd (by decide) z⟩
        obtain ⟨y, y0, y1, hy⟩ := le_pos (o := M2 114) (by rw [le]; omega)
        refine s_m_pushes hT (ofP.rep hR oP) ov (fun p p0 p1 => by have := fb p p0 p1; omega) (fun x x0 x1 => by have := ob x x0 x1; omega) y0 y1 hy (fun M3 o3 no => ?_) (fun v M3 o3 ov3 co vb fb3 ob3 le3 => ?_)
        · rw [w32_s (k := sum + 1000000) (by omega) (by omega)]
          refine ⟨fun z => absurd z (by omega), fun _ => k _ M3 (fun c hc => by rw [o3 c hc]; exact oP c hc) (Int.le_refl _) (fun z => absurd z (by decide)) (fun x ac => ?_)⟩
          obtain ⟨f', q1, q2, -⟩ := ac.2
          exact (no f' q1 q2).elim
        · have s2 : sum + v = Csv T (awF T (wyB b)) + coF (2 * T 1 0).toNat (ln T) (M3 115) := by rw [co]; omega
          have nn3 := coF_nn hT ov3.1
          rw [w32_s (k := sum + v) (by omega) (by omega)]
          refine ⟨fun _ => ihN M3 (sum + v) (fun c hc => by rw [o3 c hc]; exact oP c hc) ov3 (by rw [le3, le]; omega) s2 (by omega) (by omega) (fun p p0 p1 => by have := fb3 p p0 p1; have := fb p p0 p1; omega) (fun x x0 x1 => by have := ob3 x x0 x1; have := ob x x0 x1; omega), fun z => absurd (by omega) z⟩
      · intro j j0 j1 ih
        apply k_Model_levelBy_154 hG
        have z0 : sm (fun x => max 0 (M2 114 x)) (j + 1).toNat = sm (fun x => max 0 (M2 114 x)) j.toNat + max 0 (M2 114 j) := by
          rw [toN1 j0]
          show _ + max 0 (M2 114 (j.toNat : Int)) = _
          rw [toNI j0]
        have bj := bnd j.toNat (by omega)
        have c := ob j j0 j1
        rw [z0] at ih
        refine ⟨fun z => absurd z (by omega), fun _ => ⟨⟨j0, j1⟩, ?_⟩⟩
        rw [w32_s (by omega) (by omega), w32_1 (by omega) (by omega)]
        exact ih
  -- the services, one by one
  have sv : ∀ (r : Nat) (v sum : Int) (M2 : es_M), 0 ≤ v → v + r = T 1 1 → ofP M M2 → (∀ s, 0 ≤ s → s < v → dOw T s (wyB b s)) → (∀ x, 0 ≤ x → x < 12 → M2 114 x = Bsv T (fun s => if s < v then awF T (wyB b) s else -1) x) → (∀ p, 0 ≤ p → p < 36 → M2 115 p = 0) → sum = Csv T (fun s => if s < v then awF T (wyB b) s else -1) → (0 ≤ sum ∧ sum ≤ 99 * v) → leF (M2 114) ≤ v → (∀ x, 0 ≤ x → x < 12 → - v ≤ M2 114 x ∧ M2 114 x ≤ v) → G 46 [lr 91, li b, li sum, li v, none, none] [] M2 := by
    intro r
    induction r with
    | zero =>
      intro v sum M2 v0 vr oP okd e114 e115 es sb le ob
      apply k_Model_levelBy_46 hG
      rw [(ofP.rep hR oP) 91 23 rfl, hv.2.2]
      refine ⟨fun _ => ?_, fun z => absurd (by omega) z⟩
      have ev : v = T 1 1 := by omega
      subst ev
      have full : ∀ s, 0 ≤ s → s < T 1 1 → awF T (wyB b) s = (fun s => if s < T 1 1 then awF T (wyB b) s else -1) s := fun s s0 s1 => (if_pos s1).symm
      have o0 := OPF_0 hT (f := M2 115) (fun p p0 p1 => e115 p p0 (by omega))
      have dz : ∀ x, dvF (2 * T 1 0).toNat (og T) (gl T) (M2 115) x = 0 := fun x => by unfold dvF; rw [sm_congr (h := fun _ => 0) (2 * T 1 0).toNat (fun p p0 p1 => by rw [e115 p p0 (by omega), Int.zero_mul]), sm_0]
      have lnn : 0 ≤ leF (M2 114) := by
        have t2 := sm_le (h := fun _ => 0) (h' := fun x => max 0 (M2 114 x)) 12 (fun x _ _ => by show 0 ≤ max 0 (M2 114 x); omega)
        rw [sm_0] at t2; exact t2
      refine fin okd (leF (M2 114)).toNat M2 sum oP ⟨o0.1.1, o0.1.2.1, fun x x0 x1 => ?_⟩ (by omega) ?_ (by omega) (by omega) (fun p p0 p1 => by rw [e115 p p0 p1]; omega) (fun x x0 x1 => by have := ob x x0 x1; omega)
      · rw [dz, e114 x x0 x1, Bsv_c full]; omega
      · rw [o0.2.2, es, Csv_c full]; omega
    | succ r ih =>
      intro v sum M2 v0 vr oP okd e114 e115 es sb le ob
      apply k_Model_levelBy_46 hG
      have hR2 := ofP.rep hR oP
      rw [hR2 91 23 rfl, hv.2.2]
      refine ⟨fun z => absurd z (by omega), fun _ => ⟨by omega, ?_⟩⟩
      have v1 : v < T 1 1 := by omega
      have pr := poF_r hT (k := 2 * v + wyB b v) (by have := wr v; omega) (by have := wr v; omega)
      have e106 : M2 106 v = T 10 v := by rw [hR2 106 v rfl]; exact (hT.mv v0 v1).1
      have ws := wr v
      have ep : poF T (2 * v + wyB b v) = 2 * T 10 v + wyB b v := by unfold poF; rw [show (2 * v + wyB b v) / 2 = v by omega, show (2 * v + wyB b v) % 2 = wyB b v by omega]
      have sr := (hT.sr v0 v1).1
      have no : ¬ dOw T v (wyB b v) → ∀ M3, ofP M M3 → Q 1000000 M3 := fun z M3 o3 => k _ M3 o3 (Int.le_refl _) (fun y => absurd y (by decide)) (fun x ac => absurd (ac.1 v v0 v1).2 z)
      have go2 : ∀ y4 : Int, y4 = wyB b v → es_Call (d + 3) 219 [.inr (.inr 91), .inl (w32 (w32 (2 * M2 106 v) + y4))] M2 (fun y6 M5 => ((y6 = 0 → Q 1000000 M5) ∧ (¬ y6 = 0 → es_Call (d + 3) 202 [.inr (.inr 91), .inl v, .inl (w32 (w32 (2 * M2 106 v) + y4))] M5 (fun y8 M7 => ((¬ y8 = 0 → ((0 ≤ w32 (w32 (2 * M2 106 v) + y4) ∧ w32 (w32 (2 * M2 106 v) + y4) < 72) ∧ es_Call (d + 3) 220 [.inr (.inr 91), .inl (w32 (w32 (2 * M2 106 v) + y4))] M7 (fun y10 M9 => ((0 ≤ y10 ∧ y10 < 12) ∧ ((0 ≤ y10 ∧ y10 < 12) ∧ es_Call (d + 3) 221 [.inr (.inr 91), .inl (w32 (w32 (2 * M2 106 v) + y4))] (es_upd M9 114 y10 (w32 (M9 114 y10 + 1))) (fun y12 M11 => ((0 ≤ y12 ∧ y12 < 12) ∧ ((0 ≤ y12 ∧ y12 < 12) ∧ G 46 [lr 91, li b, li (w32 (sum + M7 95 (w32 (w32 (2 * M2 106 v) + y4)))), li (w32 (v + 1)), none, none] [] (es_upd M11 114 y12 (w32 (M11 114 y12 - 1))))))))))) ∧ (y8 = 0 → Q 1000000 M7)))))) := by
        intro y4 hy
        rw [hy, e106, w32_s (k := 2 * T 10 v) (by omega) (by omega), w32_s (k := 2 * T 10 v + wyB b v) (by omega) (by omega), ← ep, w32_1 (k := v) (by omega) (by omega)]
        generalize hPe : poF T (2 * v + wyB b v) = P at *
        have hP : isP T P := ⟨pr.1, pr.2.1⟩
        refine s_m_isPass hT hR2 pr.1 pr.2.1 (fun gp => es_t1 ?_) (fun gp => es_t0 (no (fun z => gp (by have := z.2; rw [hPe] at this; exact this)) M2 oP))
        refine s_m_isDoneBy hT hR2 v0 v1 pr.1 (by omega) (fun dn => es_f1 ?_) (fun dn => es_f0 (no (fun z => dn ?_) M2 oP))
        · have t13 := hT.dn2 v0 v1 pr.1 dn
          have dow : dOw T v (wyB b v) := ⟨by
            unfold canDo
            rw [show (2 * v + wyB b v) / 2 = v by omega, show (2 * v + wyB b v) % 2 = wyB b v by omega, ← ep]
            exact ⟨t13, gp.1⟩, by rw [hPe]; exact gp⟩
          obtain ⟨oo, gg, ne, -, l95⟩ := hT.ps pr.1 pr.2.1
          have lnr : 1 ≤ ln T P ∧ ln T P ≤ 99 := (H.2 P pr.1 (by omega)).2.2.2 gp
          refine ⟨by omega, s_m_ends hT hR2 pr.1 pr.2.1 ⟨gg, gg, ?_⟩⟩
          have og1 := ob (gl T P) gg.1 gg.2
          have oo1 := ob (og T P) oo.1 oo.2
          rw [w32_1 (by omega) (by omega)]
          refine s_m_begins hT (hR2.upd rfl) pr.1 pr.2.1 ⟨oo, oo, ?_⟩
          have e95 : M2 95 P = ln T P := by rw [hR2 95 P rfl, l95]
          rw [e95, es_upd_c, if_neg ne, w32_s (k := M2 114 (og T P) - 1) (by omega) (by omega), w32_s (k := sum + ln T P) (by omega) (by omega)]
          have w : ∀ x, es_upd (es_upd M2 114 (gl T P) (M2 114 (gl T P) + 1)) 114 (og T P) (M2 114 (og T P) - 1) 114 x = if x = og T P then M2 114 (og T P) - 1 else if x = gl T P then M2 114 (gl T P) + 1 else M2 114 x := fun x => by rw [es_upd_c, es_upd_c]
          have a1 : (fun s => if s < v then awF T (wyB b) s else -1) v = -1 := if_neg (by omega)
          have a2 : (fun s => if s < v + 1 then awF T (wyB b) s else -1) v = P := (if_pos (by omega)).trans hPe
          have a3 : ∀ t, t ≠ v → (fun s => if s < v + 1 then awF T (wyB b) s else -1) t = (fun s => if s < v then awF T (wyB b) s else -1) t := fun t ht => by
            by_cases z : t < v
            · exact (if_pos (by omega)).trans (if_pos z).symm
            · exact (if_neg (by omega)).trans (if_neg z).symm
          have Pn : P ≠ -1 := by have := hP.1; omega
          refine ih (v + 1) (sum + ln T P) _ (by omega) (by omega) (fun c hc => by rw [es_upd_o c (by omega), es_upd_o c (by omega)]; exact oP c hc) (fun s s0 s1 => ?_) (fun x x0 x1 => ?_) (fun p p0 p1 => by rw [es_upd_n (by decide), es_upd_n (by decide)]; exact e115 p p0 p1) ?_ (by omega) ?_ (fun x x0 x1 => ?_)
          · by_cases z : s = v
            · rw [z]; exact dow
            · exact okd s s0 (by omega)
          · rw [w, Bsv_u v0 v1 a1 Pn a2 a3 x]
            unfold addB dlt
            have x1' := e114 x x0 x1
            by_cases z1 : x = og T P
            · rw [if_pos z1, if_neg (show ¬ gl T P = x by omega), if_pos z1.symm, ← z1, ← x1']; omega
            · rw [if_neg z1, if_neg (show ¬ og T P = x by omega)]
              by_cases z2 : x = gl T P
              · rw [if_pos z2, if_pos z2.symm, ← z2, ← x1']; omega
              · rw [if_neg z2, if_neg (show ¬ gl T P = x by omega), ← x1']; omega
          · rw [Csv_u v0 v1 a1 Pn a2 a3, es]
          · unfold leF at le ⊢
            have t1 := sm_upd (h := fun x => max 0 (if x = gl T P then M2 114 (gl T P) + 1 else M2 114 x)) (h' := fun x => max 0 (es_upd (es_upd M2 114 (gl T P) (M2 114 (gl T P) + 1)) 114 (og T P) (M2 114 (og T P) - 1) 114 x)) oo.1 (fun i hi => by rw [w, if_neg hi]) 12 oo.2
            have t2 := sm_upd (h := fun x => max 0 (M2 114 x)) (h' := fun x => max 0 (if x = gl T P then M2 114 (gl T P) + 1 else M2 114 x)) gg.1 (fun i hi => by rw [if_neg hi]) 12 gg.2
            rw [w, if_pos rfl, if_neg ne] at t1
            rw [if_pos rfl] at t2
            rw [t1, t2]
            omega
          · rw [w]
            have := ob x x0 x1
            split
            · omega
            · split
              · omega
              · omega
        · have t13 := z.1.1
          rw [show (2 * v + wyB b v) / 2 = v by omega, show (2 * v + wyB b v) % 2 = wyB b v by omega, ← ep] at t13
          rcases hT.dn pr.1 pr.2.2.1 with y | y
          · omega
          · rw [t13] at y; exact y.2.2
      refine s_m_has b0 (by omega) v0 (by omega) (fun hb => s_m_truth (fun _ => go2 1 ?_) (fun z => absurd z (by decide))) (fun hb => s_m_truth (fun z => absurd rfl z) (fun _ => go2 0 ?_))
      · unfold wyB; rw [if_pos hb]
      · unfold wyB; rw [if_neg hb]
  -- first all is nothing
  refine es_up (P := fun j => ∀ M1, ofP M M1 → (∀ x, 0 ≤ x → x < j → M1 114 x = 0) → G 4 [lr 91, li b, li 0, li j, none, none] [] M1) (n := 12) (by decide) ?_ ?_ M (fun _ _ => rfl) (fun x x0 x1 => by omega)
  · intro M1 o1 z1
    apply k_Model_levelBy_4 hG
    refine ⟨fun _ => ?_, fun z => absurd (by decide) z⟩
    refine es_up (P := fun j => ∀ M2, ofP M M2 → (∀ x, 0 ≤ x → x < 12 → M2 114 x = 0) → (∀ p, 0 ≤ p → p < j → M2 115 p = 0) → G 25 [lr 91, li b, li 0, li j, none, none] [] M2) (n := 36) (by decide) ?_ ?_ M1 o1 z1 (fun p p0 p1 => by omega)
    · intro M2 o2 z2 z3
      apply k_Model_levelBy_25 hG
      refine ⟨fun _ => ?_, fun z => absurd (by decide) z⟩
      have none0 : ∀ s, 0 ≤ s → s < T 1 1 → (fun s => if s < 0 then awF T (wyB b) s else -1) s = (fun _ => -1) s := fun s s0 _ => if_neg (by omega)
      have o0 := OPF_0 hT (f := M2 115) (fun p p0 p1 => z3 p p0 (by omega))
      have dz : ∀ x, dvF (2 * T 1 0).toNat (og T) (gl T) (M2 115) x = 0 := fun x => by unfold dvF; rw [sm_congr (h := fun _ => 0) (2 * T 1 0).toNat (fun p p0 p1 => by rw [z3 p p0 (by omega), Int.zero_mul]), sm_0]
      refine sv (T 1 1).toNat 0 0 M2 (by decide) (by omega) o2 (fun s s0 s1 => by omega) (fun x x0 x1 => ?_) z3 (by rw [Csv_c none0]; exact o0.2.1.symm) (by decide) ?_ (fun x x0 x1 => by rw [z2 x x0 x1]; decide)
      · rw [z2 x x0 x1, Bsv_c none0]
        have := o0.1.2.2 x x0 x1
        rw [dz] at this
        omega
      · unfold leF
        rw [sm_congr (h := fun _ => 0) 12 (fun x x0 x1 => by rw [z2 x x0 x1]; rfl), sm_0]; exact Int.le_refl _
    · intro j j0 j1 ih M2 o2 z2 z3
      apply k_Model_levelBy_25 hG
      rw [w32_1 (by omega) (by omega)]
      refine ⟨fun z => absurd z (by omega), fun _ => ⟨⟨j0, j1⟩, ih _ (fun c hc => by rw [es_upd_o c (by omega)]; exact o2 c hc) (fun x x0 x1 => by rw [es_upd_n (by decide)]; exact z2 x x0 x1) (fun p p0 p1 => ?_)⟩⟩
      rw [es_upd_c]
      by_cases e : p = j
      · rw [if_pos e]
      · rw [if_neg e]; exact z3 p p0 (by omega)
  · intro j j0 j1 ih M1 o1 z1
    apply k_Model_levelBy_4 hG
    rw [w32_1 (by omega) (by omega)]
    refine ⟨fun z => absurd z (by omega), fun _ => ⟨⟨j0, j1⟩, ih _ (fun c hc => by rw [es_upd_o c (by omega)]; exact o1 c hc) (fun x x0 x1 => ?_)⟩⟩
    rw [es_upd_c]
    by_cases e : x = j
    · rw [if_pos e]
    · rw [if_neg e]; exact z1 x x0 (by omega)
end
