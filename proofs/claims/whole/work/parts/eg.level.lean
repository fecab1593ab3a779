/-! LEVEL (7): the class's queue: first the services with one direction alone -/
noncomputable def frB (T : es_M) (s : Int) : Bool := @decide (dOw T s 0 ∧ dOw T s 1) (Classical.propDecidable _)
theorem frB_t {T : es_M} {s : Int} (h : dOw T s 0 ∧ dOw T s 1) : frB T s = true := by unfold frB; exact @decide_eq_true _ (Classical.propDecidable _) h
theorem frB_f {T : es_M} {s : Int} (h : ¬ (dOw T s 0 ∧ dOw T s 1)) : frB T s = false := by unfold frB; exact @decide_eq_false _ (Classical.propDecidable _) h
/-- a queue of all services, those that are free behind the others, in their order -/
def QPs (T : es_M) (q : Int → Int) : Prop := (∀ j, 0 ≤ j → j < T 1 1 → 0 ≤ q j ∧ q j < T 1 1) ∧ (∀ i j, 0 ≤ i → i < j → j < T 1 1 → q i ≠ q j) ∧ (∀ s, 0 ≤ s → s < T 1 1 → ∃ j, 0 ≤ j ∧ j < T 1 1 ∧ q j = s) ∧ (∀ i j, 0 ≤ i → i < T 1 1 → 0 ≤ j → j < T 1 1 → frB T (q i) = true → frB T (q j) = true → q j < q i → j < i)
/-- what stands in the queue in round r ahead of service i, z of them -/
def QIs (T : es_M) (r i z : Int) (q : Int → Int) : Prop := (∀ j, 0 ≤ j → j < z → (0 ≤ q j ∧ q j < T 1 1) ∧ ((frB T (q j) = false ∧ (r = 0 → q j < i)) ∨ (frB T (q j) = true ∧ r = 1 ∧ q j < i))) ∧ (∀ s, 0 ≤ s → s < T 1 1 → ((frB T s = false ∧ (r = 0 → s < i)) ∨ (frB T s = true ∧ r = 1 ∧ s < i)) → ∃ j, 0 ≤ j ∧ j < z ∧ q j = s) ∧
  (∀ j j', 0 ≤ j → j < j' → j' < z → (frB T (q j) = frB T (q j') → q j < q j') ∧ (frB T (q j) = true → frB T (q j') = true))
theorem QIs.put {T : es_M} {r i z : Int} {q q' : Int → Int} (h : QIs T r i z q) (hr : r = 0 ∨ r = 1) (i0 : 0 ≤ i) (i1 : i < T 1 1) (z0 : 0 ≤ z) (hf : frB T i = decide (r = 1)) (e1 : q' z = i) (e2 : ∀ j, j ≠ z → q' j = q j) : QIs T r (i + 1) (z + 1) q' := by
  obtain ⟨h1, h2, h3⟩ := h
  have hf' : (r = 0 → frB T i = false) ∧ (r = 1 → frB T i = true) := ⟨fun y => by rw [hf, y]; rfl, fun y => by rw [hf, y]; rfl⟩
  refine ⟨fun j j0 j1 => ?_, fun s s0 s1 hs => ?_, fun j j' j0 j1 j2 => ?_⟩
  · by_cases e : j = z
    · rw [e, e1]
      refine ⟨⟨i0, i1⟩, ?_⟩
      rcases hr with y | y
      · exact Or.inl ⟨hf'.1 y, fun _ => by omega⟩
      · exact Or.inr ⟨hf'.2 y, y, by omega⟩
    · rw [e2 j e]
      obtain ⟨a, b⟩ := h1 j j0 (by omega)
      refine ⟨a, b.imp (fun b => ⟨b.1, fun y => by have := b.2 y; omega⟩) (fun b => ⟨b.1, b.2.1, by omega⟩)⟩
  · by_cases e : s = i
    · exact ⟨z, z0, by omega, by rw [e1, e]⟩
    · obtain ⟨j, a, b, c⟩ := h2 s s0 s1 (hs.imp (fun b => ⟨b.1, fun y => by have := b.2 y; omega⟩) (fun b => ⟨b.1, b.2.1, by omega⟩))
      exact ⟨j, a, by omega, by rw [e2 j (by omega)]; exact c⟩
  · have ez : j ≠ z := by omega
    rw [e2 j ez]
    by_cases e : j' = z
    · rw [e, e1]
      obtain ⟨-, b⟩ := h1 j j0 (by omega)
      rcases hr with y | y
      · have fi := hf'.1 y
        rcases b with b | b
        · exact ⟨fun _ => b.2 y, fun c => by rw [b.1] at c; cases c⟩
        · omega
      · have fi := hf'.2 y
        rcases b with b | b
        · exact ⟨fun c => (by rw [b.1, fi] at c; cases c), fun _ => fi⟩
        · exact ⟨fun _ => b.2.2, fun _ => fi⟩
    · rw [e2 j' e]; exact h3 j j' j0 j1 (by omega)
theorem QIs.skip {T : es_M} {r i z : Int} {q : Int → Int} (h : QIs T r i z q) (hr : r = 0 ∨ r = 1) (hf : frB T i = !decide (r = 1)) : QIs T r (i + 1) z q := by
  obtain ⟨h1, h2, h3⟩ := h
  have hf' : (r = 0 → frB T i = true) ∧ (r = 1 → frB T i = false) := ⟨fun y => by rw [hf, y]; rfl, fun y => by rw [hf, y]; rfl⟩
  refine ⟨fun j j0 j1 => ?_, fun s s0 s1 hs => ?_, h3⟩
  · obtain ⟨a, b⟩ := h1 j j0 j1
    exact ⟨a, b.imp (fun b => ⟨b.1, fun y => by have := b.2 y; omega⟩) (fun b => ⟨b.1, b.2.1, by omega⟩)⟩
  · refine h2 s s0 s1 (hs.imp (fun b => ⟨b.1, fun y => ?_⟩) (fun b => ⟨b.1, b.2.1, ?_⟩))
    · have := b.2 y
      by_cases e : s = i
      · have := hf'.1 y; rw [← e, b.1] at this; cases this
      · omega
    · by_cases e : s = i
      · have := hf'.2 b.2.1; rw [← e, b.1] at this; cases this
      · omega
/-- how many stand in it -/
noncomputable def qcF (T : es_M) (r i : Int) : Int := if r = 0 then sm (fun s => if frB T s = true then 0 else 1) i.toNat else sm (fun s => if frB T s = true then 0 else 1) (T 1 1).toNat + sm (fun s => if frB T s = true then 1 else 0) i.toNat
theorem qc_all (T : es_M) (n : Nat) : sm (fun s => if frB T s = true then 0 else 1) n + sm (fun s => if frB T s = true then 1 else 0) n = n := by
  rw [← sm_add, sm_congr (h := fun _ => 1) n (fun i _ _ => by split <;> rfl)]
  induction n with
  | zero => rfl
  | succ n ih => show sm (fun _ => 1) n + 1 = _; rw [ih]; rfl
theorem qc_nn (T : es_M) (n : Nat) : 0 ≤ sm (fun s => if frB T s = true then 0 else 1) n ∧ 0 ≤ sm (fun s => if frB T s = true then 1 else 0) n := by
  induction n with
  | zero => exact ⟨Int.le_refl _, Int.le_refl _⟩
  | succ n ih =>
    show 0 ≤ sm (fun s => if frB T s = true then 0 else 1) n + (if frB T n = true then 0 else 1) ∧ 0 ≤ sm (fun s => if frB T s = true then 1 else 0) n + (if frB T n = true then 1 else 0)
    constructor
    · split <;> omega
    · split <;> omega
section
variable {d : Nat} {Q : Int → es_M → Prop} {T M : es_M}
theorem s_queueUp (hT : TI T) (hR : RepC T M) (k : ∀ M', (∀ c : Nat, c ≠ 83 → M' c = M c) → QPs T (M' 83) → Q 0 M') : es_Call (d + 4) 143 [.inr (.inr 79)] M Q := by
  have hv := hT.v
  apply m_Level_queueUp
  intro G hG
  apply k_Level_queueUp_0 hG
  have rep : ∀ M' : es_M, (∀ c : Nat, c ≠ 83 → M' c = M c) → RepC T M' := fun M' h c j q => by
    have h1 : c ≠ 83 := fun z => by subst z; have : persC 83 j = false := rfl; rw [this] at q; cases q
    rw [h c h1]; exact hR c j q
  have inner : ∀ (r : Int), r = 0 ∨ r = 1 → (∀ M1, (∀ c : Nat, c ≠ 83 → M1 c = M c) → QIs T r (T 1 1) (qcF T r (T 1 1)) (M1 83) → G 4 [lr 79, li (qcF T r (T 1 1)), li (r + 1), none, none] [] M1) → ∀ (m : Nat) (i : Int) (M1 : es_M), 0 ≤ i → i + m = T 1 1 → (∀ c : Nat, c ≠ 83 → M1 c = M c) → QIs T r i (qcF T r i) (M1 83) → G 11 [lr 79, li (qcF T r i), li r, li i, none] [] M1 := by
    intro r hr fin m
    induction m with
    | zero =>
      intro i M1 i0 im f1 f2
      apply k_Level_queueUp_11 hG
      rw [(rep M1 f1) 1 1 rfl]
      refine ⟨fun _ => ?_, fun z => absurd (by omega) z⟩
      have e : i = T 1 1 := by omega
      subst e
      rw [w32_1 (by omega) (by omega)]
      exact fin M1 f1 f2
    | succ m ih =>
      intro i M1 i0 im f1 f2
      apply k_Level_queueUp_11 hG
      have hR1 := rep M1 f1
      have e0 : w32 (2 * i) = 2 * i + 0 := by rw [w32_s (by omega) (by omega)]; omega
      rw [hR1 1 1 rfl, e0, show w32 (2 * i + 0 + 1) = 2 * i + 1 by rw [w32_s (by omega) (by omega)]; omega, w32_1 (k := i) (by omega) (by omega)]
      refine ⟨fun z => absurd z (by omega), fun _ => ?_⟩
      have al := qc_all T (T 1 1).toNat
      have ali := qc_all T i.toNat
      have nn := qc_nn T (T 1 1).toNat
      have nni := qc_nn T i.toNat
      have le1 : sm (fun s => if frB T s = true then 1 else 0) (i.toNat + 1) ≤ sm (fun s => if frB T s = true then 1 else 0) (T 1 1).toNat := by
        have key : ∀ b : Nat, sm (fun s => if frB T s = true then 1 else 0) (i.toNat + 1) ≤ sm (fun s => if frB T s = true then 1 else 0) (i.toNat + 1 + b) := by
          intro b
          induction b with
          | zero => exact Int.le_refl _
          | succ b ihb =>
            refine Int.le_trans ihb ?_
            show sm _ (i.toNat + 1 + b) ≤ sm _ (i.toNat + 1 + b) + (if frB T ((i.toNat + 1 + b : Nat) : Int) = true then 1 else 0)
            split <;> omega
        have := key ((T 1 1).toNat - (i.toNat + 1))
        rw [show i.toNat + 1 + ((T 1 1).toNat - (i.toNat + 1)) = (T 1 1).toNat by omega] at this
        exact this
      have st0 : ∀ h : Int → Int, sm h (i + 1).toNat = sm h i.toNat + h i := fun h => by
        rw [toN1 i0]
        show sm h i.toNat + h (i.toNat : Int) = _
        rw [toNI i0]
      have st1 : sm (fun s => if frB T s = true then 1 else 0) (i.toNat + 1) = sm (fun s => if frB T s = true then 1 else 0) i.toNat + (if frB T i = true then 1 else 0) := by
        have := st0 (fun s => if frB T s = true then 1 else 0)
        rw [toN1 i0] at this
        exact this
      have q0 : 0 ≤ qcF T r i := by unfold qcF; split <;> omega
      -- the two ways on
      have put : frB T i = decide (r = 1) → ∀ M2, (∀ c : Nat, c ≠ 83 → M2 c = M c) → M2 83 = M1 83 → (10 ≤ qcF T r i → G 11 [lr 79, li (qcF T r i), li r, li (i + 1), none] [] M2) ∧ (¬ 10 ≤ qcF T r i → ((0 ≤ qcF T r i ∧ qcF T r i < 10) ∧ G 11 [lr 79, li (w32 (qcF T r i + 1)), li r, li (i + 1), none] [] (es_upd M2 83 (qcF T r i) i))) := by
        intro hf M2 g1 g2
        have qe : qcF T r (i + 1) = qcF T r i + 1 := by
          unfold qcF
          rcases hr with y | y
          · rw [if_pos y, if_pos y, st0, hf, y]; rfl
          · rw [if_neg (by omega), if_neg (by omega), st0 (fun s => if frB T s = true then 1 else 0), hf, y]
            show _ + (_ + 1) = _ + _ + 1
            omega
        have q10 : qcF T r i < T 1 1 := by
          unfold qcF at qe ⊢
          rcases hr with y | y
          · rw [if_pos y]; omega
          · rw [if_neg (by omega)]
            rw [if_neg (by omega), if_neg (by omega), st0 (fun s => if frB T s = true then 1 else 0)] at qe
            omega
        refine ⟨fun z => absurd z (by omega), fun _ => ⟨by omega, ?_⟩⟩
        rw [w32_1 (by omega) (by omega), ← qe]
        refine ih (i + 1) _ (by omega) (by omega) (fun c hc => by rw [es_upd_o c hc]; exact g1 c hc) ?_
        rw [qe]
        rw [← g2] at f2
        exact f2.put hr i0 (by omega) q0 hf (by rw [es_upd_s]) (fun j hj => by rw [es_upd_j hj])
      have skp : frB T i = !decide (r = 1) → ∀ M2, (∀ c : Nat, c ≠ 83 → M2 c = M c) → M2 83 = M1 83 → G 11 [lr 79, li (qcF T r i), li r, li (i + 1), none] [] M2 := by
        intro hf M2 g1 g2
        have qe : qcF T r (i + 1) = qcF T r i := by
          unfold qcF
          rcases hr with y | y
          · rw [if_pos y, if_pos y, st0, hf, y]; show _ + 0 = _; omega
          · rw [if_neg (by omega), if_neg (by omega), st0 (fun s => if frB T s = true then 1 else 0), hf, y]
            show _ + (_ + 0) = _
            omega
        rw [← qe]
        refine ih (i + 1) M2 (by omega) (by omega) g1 ?_
        rw [qe, g2]
        exact f2.skip hr hf
      have fixed : frB T i = false → ∀ M2, (∀ c : Nat, c ≠ 83 → M2 c = M c) → M2 83 = M1 83 → ((¬ r = 1 → ((¬ (0 : Int) = 0 → G 11 [lr 79, li (qcF T r i), li r, li (i + 1), none] [] M2) ∧ ((0 : Int) = 0 → ((10 ≤ qcF T r i → G 11 [lr 79, li (qcF T r i), li r, li (i + 1), none] [] M2) ∧ (¬ 10 ≤ qcF T r i → ((0 ≤ qcF T r i ∧ qcF T r i < 10) ∧ G 11 [lr 79, li (w32 (qcF T r i + 1)), li r, li (i + 1), none] [] (es_upd M2 83 (qcF T r i) i))))))) ∧ (r = 1 → ((¬ (0 : Int) = 1 → G 11 [lr 79, li (qcF T r i), li r, li (i + 1), none] [] M2) ∧ ((0 : Int) = 1 → ((10 ≤ qcF T r i → G 11 [lr 79, li (qcF T r i), li r, li (i + 1), none] [] M2) ∧ (¬ 10 ≤ qcF T r i → ((0 ≤ qcF T r i ∧ qcF T r i < 10) ∧ G 11 [lr 79, li (w32 (qcF T r i + 1)), li r, li (i + 1), none] [] (es_upd M2 83 (qcF T r i) i)))))))) := by
        intro hf M2 g1 g2
        refine ⟨fun y => ⟨fun z => absurd rfl z, fun _ => put (by rw [hf, decide_eq_false y]) M2 g1 g2⟩, fun y => ⟨fun _ => skp (by rw [hf, decide_eq_true y]; rfl) M2 g1 g2, fun z => absurd z (by decide)⟩⟩
      refine s_doer hT hR1 (by omega) (by omega) (fun c1 c2 => ?_) (fun c => ⟨fun _ => fixed (frB_f (fun z => c z.1)) M1 f1 rfl, fun z => absurd rfl z⟩)
      have pr := (poF_r hT (k := 2 * i + 0) (by omega) (by omega)).1
      refine ⟨fun z => absurd z (by omega), fun _ => ?_⟩
      refine s_doer hT hR1 (by omega) (by omega) (fun c3 c4 => ?_) (fun c => ⟨fun _ => fixed (frB_f (fun z => c z.2)) M1 f1 rfl, fun z => absurd rfl z⟩)
      have pr1 := (poF_r hT (k := 2 * i + 1) (by omega) (by omega)).1
      have hf : frB T i = true := frB_t ⟨⟨c1, c2⟩, ⟨c3, c4⟩⟩
      refine ⟨fun z => absurd z (by omega), fun _ => ⟨fun y => ⟨fun _ => skp (by rw [hf, decide_eq_false y]; rfl) M1 f1 rfl, fun z => absurd z (by decide)⟩, fun y => ⟨fun z => absurd rfl z, fun _ => put (by rw [hf, decide_eq_true y]) M1 f1 rfl⟩⟩⟩
  have al := qc_all T (T 1 1).toNat
  have z0 : qcF T 0 0 = 0 := by unfold qcF; rw [if_pos rfl]; rfl
  have z1 : qcF T 1 0 = qcF T 0 (T 1 1) := by unfold qcF; rw [if_neg (by decide), if_pos rfl]; show _ + 0 = _; omega
  have z2 : qcF T 1 (T 1 1) = T 1 1 := by unfold qcF; rw [if_neg (by decide)]; omega
  apply k_Level_queueUp_4 hG
  refine ⟨fun z => absurd z (by decide), fun _ => ?_⟩
  have st := inner 0 (Or.inl rfl) (fun M1 f1 f2 => ?_) (T 1 1).toNat 0 M (by decide) (by omega) (fun _ _ => rfl) (by rw [z0]; exact ⟨fun j j0 j1 => by omega, fun s s0 s1 hs => by rcases hs with ⟨-, y⟩ | ⟨-, y, -⟩ <;> omega, fun j j' a b c => by omega⟩)
  · rw [z0] at st; exact st
  · apply k_Level_queueUp_4 hG
    refine ⟨fun z => absurd z (by decide), fun _ => ?_⟩
    have st2 := inner 1 (Or.inr rfl) (fun M2 g1 g2 => ?_) (T 1 1).toNat 0 M1 (by decide) (by omega) f1 (by rw [z1]; exact ⟨fun j j0 j1 => ⟨(f2.1 j j0 j1).1, Or.inl ⟨by
        rcases (f2.1 j j0 j1).2 with y | y
        · exact y.1
        · omega, fun y => by omega⟩⟩, fun s s0 s1 hs => f2.2.1 s s0 s1 (by
        rcases hs with y | y
        · exact Or.inl ⟨y.1, fun _ => s1⟩
        · omega), f2.2.2⟩)
    · rw [z1] at st2; exact st2
    · apply k_Level_queueUp_4 hG
      refine ⟨fun _ => ?_, fun z => absurd (by decide) z⟩
      rw [z2] at g2
      obtain ⟨u1, u2, u3⟩ := g2
      refine k M2 g1 ⟨fun j j0 j1 => (u1 j j0 j1).1, fun i j i0 ij j1 e => ?_, fun s s0 s1 => ?_, fun i j i0 i1 j0 j1 fi fj lt => ?_⟩
      · have := (u3 i j i0 ij j1).1 (by rw [e]); omega
      · refine u2 s s0 s1 ?_
        cases hF : frB T s with
        | false => exact Or.inl ⟨rfl, fun z => absurd z (by decide)⟩
        | true => exact Or.inr ⟨rfl, rfl, s1⟩
      · by_cases e : j < i
        · exact e
        · by_cases e2 : i = j
          · rw [e2] at lt; omega
          · have := (u3 i j i0 (by omega) j1).1 (by rw [fi, fj]); omega
end
