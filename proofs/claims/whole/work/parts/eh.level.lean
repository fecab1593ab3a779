/-! LEVEL (8): the class tries both directions -/
theorem bit_put {b s r : Int} (b0 : 0 ≤ b) (b1 : b < 1024) (s0 : 0 ≤ s) (s1 : s < 10) (hr : r = 0 ∨ r = 1) : ∃ x, (¬ r = 1 → es_and b (es_xor (es_shl 1 s) (-1)) = x) ∧ (r = 1 → es_or b (es_shl 1 s) = x) ∧ (0 ≤ x ∧ x < 1024) ∧ ∀ t, 0 ≤ t → (ebit x t ↔ if t = s then r = 1 else ebit b t) := by
  have pw := pow31 (k := s) s0 (by omega)
  have p10 := pow1024 (v := s) s1
  rcases hr with rfl | rfl
  · refine ⟨_, fun _ => rfl, fun z => absurd z (by decide), ?_, ?_⟩
    · rw [ei_shl s0 (by omega), ei_dif b0 (by omega) (by omega) (by omega), pw.2.2]
      have : es_dif b.toNat (2 ^ s.toNat) < 1024 := Nat.xor_lt_two_pow (n := 10) (by omega) (Nat.lt_of_le_of_lt Nat.and_le_left (by omega))
      omega
    · intro t t0
      rw [ei_shl s0 (by omega), ei_dif b0 (by omega) (by omega) (by omega), pw.2.2, bit_dif b0 s0 t0]
      by_cases e : t = s
      · rw [if_pos e]; exact ⟨fun z => absurd e z.2, fun z => absurd z (by decide)⟩
      · rw [if_neg e]; exact ⟨fun z => z.1, fun z => ⟨z, e⟩⟩
  · refine ⟨_, fun z => absurd rfl z, fun _ => rfl, ?_, ?_⟩
    · rw [ei_or1 b0 (by omega) s0 (by omega)]
      have : b.toNat ||| 2 ^ s.toNat < 1024 := or_lt1024 (by omega) p10
      omega
    · intro t t0
      rw [ei_or1 b0 (by omega) s0 (by omega)]
      unfold ebit
      rw [Int.toNat_natCast, Nat.testBit_or, Nat.testBit_two_pow]
      by_cases e : t = s
      · rw [if_pos e, e]; simp
      · rw [if_neg e]
        have : ¬ s.toNat = t.toNat := by omega
        simp [this]
section
variable {T : es_M}
theorem OPF_c {B f f' : Int → Int} (h : OPF T B f) (e : ∀ p, 0 ≤ p → p < ((2 * T 1 0).toNat : Int) → f' p = f p) : OPF T B f' := by
  obtain ⟨h1, ⟨pi, h2⟩, h3⟩ := h
  refine ⟨fun p a b => by rw [e p a b]; exact h1 p a b, ⟨pi, fun p a b => by rw [e p a b]; exact h2 p a b⟩, fun x a b => ?_⟩
  have : dvF (2 * T 1 0).toNat (og T) (gl T) f' x = dvF (2 * T 1 0).toNat (og T) (gl T) f x := sm_congr _ (fun p a b => by rw [e p a b])
  rw [this]; exact h3 x a b
theorem coF_c {f f' : Int → Int} (e : ∀ p, 0 ≤ p → p < ((2 * T 1 0).toNat : Int) → f' p = f p) : coF (2 * T 1 0).toNat (ln T) f' = coF (2 * T 1 0).toNat (ln T) f := sm_congr _ (fun p a b => by rw [e p a b])
theorem coF_nn (hT : TI T) {f : Int → Int} (h : fok (2 * T 1 0).toNat (goes T) f) : 0 ≤ coF (2 * T 1 0).toNat (ln T) f := by
  have := sm_le (h := fun _ => 0) (h' := fun p => f p * ln T p) (2 * T 1 0).toNat (fun p a b => by
    have q := h p a b
    by_cases z : 0 < f p
    · exact Int.mul_nonneg q.1 (by have := (hT.gr.2 p a b).2.2.2 (q.2 z); omega)
    · have z0 : f p = 0 := by omega
      show 0 ≤ f p * ln T p
      rw [z0, Int.zero_mul]; exact Int.le_refl _)
  rw [sm_0] at this; exact this
theorem Csv_nn (hT : TI T) {a : Int → Int} (h : ∀ s, 0 ≤ s → s < T 1 1 → a s = -1 ∨ (isP T (a s) ∧ goes T (a s))) : 0 ≤ Csv T a := by
  have hv := hT.v
  have hn := hT.n
  have := sm_le (h := fun _ => 0) (h' := fun s => if a s = -1 then 0 else ln T (a s)) (T 1 1).toNat (fun s s0 s1 => by
    show 0 ≤ if a s = -1 then 0 else ln T (a s)
    split
    · exact Int.le_refl _
    · rename_i z
      have q := (h s s0 (by omega)).resolve_left z
      have := (hT.gr.2 (a s) q.1.1 (by have := q.1.2; omega)).2.2.2 q.2
      omega)
  rw [sm_0] at this; exact this
def EXs (q : Int → Int) (i : Int) (w w' : Int → Int) : Prop := ∀ j, 0 ≤ j → j < i → w' (q j) = w (q j)
/-- what is chosen ahead of place i of the queue -/
def PRs (T : es_M) (q : Int → Int) (i : Int) (a w : Int → Int) (b : Int) : Prop :=
  (∀ j, 0 ≤ j → j < i → a (q j) = poF T (2 * q j + w (q j)) ∧ (w (q j) = 0 ∨ w (q j) = 1) ∧ dOw T (q j) (w (q j)) ∧ (ebit b (q j) ↔ w (q j) = 1)) ∧ (∀ s, 0 ≤ s → s < T 1 1 → (∀ j, 0 ≤ j → j < i → q j ≠ s) → a s = -1) ∧ (0 ≤ b ∧ b < 1024)
theorem PRs.in {q a w : Int → Int} {i b : Int} (h : PRs T q i a w b) {s : Int} (s0 : 0 ≤ s) (s1 : s < T 1 1) : a s = -1 ∨ ∃ j, 0 ≤ j ∧ j < i ∧ q j = s := by
  by_cases z : ∃ j, 0 ≤ j ∧ j < i ∧ q j = s
  · exact Or.inr z
  · exact Or.inl (h.2.1 s s0 s1 (fun j j0 j1 e => z ⟨j, j0, j1, e⟩))
theorem PRs.fe (hT : TI T) {q a w w' : Int → Int} {i b : Int} (h : PRs T q i a w b) (ex : EXs q i w w') {x : Int} (ac : ACs T w' x) : FEs T a x := by
  have hv := hT.v
  refine FEs_ext hT (fun s s0 s1 => ?_) (fun s s0 s1 => ?_) ac.2
  · rcases h.in s0 s1 with z | ⟨j, j0, j1, rfl⟩
    · exact Or.inl z
    · refine Or.inr ?_
      unfold awF
      rw [ex j j0 j1, (h.1 j j0 j1).1]
  · obtain ⟨z, y⟩ := ac.1 s s0 s1
    have pr := poF_r hT (k := 2 * s + w' s) (by omega) (by omega)
    exact ⟨⟨pr.1, pr.2.1⟩, y.2⟩
theorem PRs.nn (hT : TI T) {q a w : Int → Int} {i b : Int} (h : PRs T q i a w b) : ∀ s, 0 ≤ s → s < T 1 1 → a s = -1 ∨ (isP T (a s) ∧ goes T (a s)) := by
  intro s s0 s1
  have hv := hT.v
  rcases h.in s0 s1 with z | ⟨j, j0, j1, rfl⟩
  · exact Or.inl z
  · obtain ⟨e, z, y, -⟩ := h.1 j j0 j1
    have pr := poF_r hT (k := 2 * q j + w (q j)) (by omega) (by omega)
    rw [e]
    exact Or.inr ⟨⟨pr.1, pr.2.1⟩, y.2⟩
end
def ofLv (q : Int → Int) (i : Int) (M M' : es_M) : Prop := (∀ c : Nat, c ≠ 79 → c ≠ 80 → c ≠ 81 → c ≠ 82 → M' c = M c) ∧ (∀ j, j ≠ 6 → j ≠ 7 → j ≠ 8 → M' 79 j = M 79 j) ∧ (∀ j, j < 36 * (i + 1) → M' 80 j = M 80 j) ∧ (∀ j, 0 ≤ j → j < i → (ebit (M' 79 6) (q j) ↔ ebit (M 79 6) (q j))) ∧ (0 ≤ M' 79 6 ∧ M' 79 6 < 1024)
theorem ofLv.rep {q : Int → Int} {i : Int} {T M M' : es_M} (hR : RepC T M) (h : ofLv q i M M') : RepC T M' := by
  intro c j z
  have h9 : c ≠ 79 := fun e => by subst e; have : persC 79 j = false := rfl; rw [this] at z; cases z
  have h0 : c ≠ 80 := fun e => by subst e; have : persC 80 j = false := rfl; rw [this] at z; cases z
  have h1 : c ≠ 81 := fun e => by subst e; have : persC 81 j = false := rfl; rw [this] at z; cases z
  have h2 : c ≠ 82 := fun e => by subst e; have : persC 82 j = false := rfl; rw [this] at z; cases z
  rw [h.1 c h9 h0 h1 h2]; exact hR c j z
theorem s_choose {T : es_M} (hT : TI T) {q : Int → Int} (hq : QPs T q) {d : Nat} : ∀ (r : Nat) (i mv : Int) (M : es_M) (a w : Int → Int) (Q : Int → es_M → Prop), i + r = T 1 1 → 0 ≤ i → RepC T M → M 83 = q → PRs T q i a w (M 79 6) → (∀ x, FEs T a x → mv ≤ x) → (mv < 1000000 → OPF T (Bsv T a) (fun p => M 80 (36 * i + p)) ∧ (∀ p, 0 ≤ p → p < 36 → 0 ≤ M 80 (36 * i + p) ∧ M 80 (36 * i + p) ≤ 12 * i) ∧ mv = Csv T a + coF (2 * T 1 0).toNat (ln T) (fun p => M 80 (36 * i + p))) → M 79 8 ≤ 1000000 →
    (∀ M', ofLv q i M M' → RESp T q (EXs q i w) (M 79 8) (M 79 7) (M' 79 8) (M' 79 7) → Q 0 M') → es_Call (d + r + 5) 144 [.inr (.inr 79), .inl i, .inl mv] M Q := by
  have hv := hT.v
  have hn := hT.n
  intro r
  induction r with
  | zero =>
    intro i mv M a w Q ir i0 hR h83 pr lb ok hl k
    have e : i = T 1 1 := by omega
    subst e
    apply m_Level_choose
    intro G hG
    apply k_Level_choose_0 hG
    rw [hR 1 1 rfl]
    refine ⟨fun z => ⟨fun y => absurd y (by omega), fun _ => ?_⟩, fun z => k M ⟨fun _ _ _ _ _ => rfl, fun _ _ _ _ => rfl, fun _ _ => rfl, fun _ _ _ => Iff.rfl, pr.2.2⟩ (RESp.none (fun w' x ex ac => by have := lb x (pr.fe hT ex ac); omega))⟩
    rw [es_upd_j (by decide)]
    obtain ⟨o1, o2, o3⟩ := ok (by omega)
    have all : ∀ s, 0 ≤ s → s < T 1 1 → ∃ j, 0 ≤ j ∧ j < T 1 1 ∧ q j = s := hq.2.2.1
    refine k _ ⟨fun c a b e f => by rw [es_upd_o c a, es_upd_o c a], fun j a b e => by rw [es_upd_j b, es_upd_j e], fun j _ => by rw [es_upd_n (by decide), es_upd_n (by decide)], fun j _ _ => by rw [es_upd_j (by decide), es_upd_j (by decide)], by rw [es_upd_j (by decide), es_upd_j (by decide)]; exact pr.2.2⟩ (Or.inr ?_)
    rw [es_upd_j (by decide), es_upd_s, es_upd_s]
    refine ⟨z, w, fun j _ _ => rfl, ⟨fun s s0 s1 => ?_, ?_⟩, ⟨pr.2.2, fun s s0 s1 => ?_⟩, fun w' x ex ac => ⟨lb x (pr.fe hT ex ac), fun _ => Or.inl (fun s s0 s1 => ?_)⟩⟩
    · obtain ⟨j, j0, j1, rfl⟩ := all s s0 s1
      exact ⟨(pr.1 j j0 j1).2.1, (pr.1 j j0 j1).2.2.1⟩
    · rw [o3]
      refine FEs_c (fun s s0 s1 => ?_) o1.fe
      obtain ⟨j, j0, j1, rfl⟩ := all s s0 s1
      exact (pr.1 j j0 j1).1.symm
    · obtain ⟨j, j0, j1, rfl⟩ := all s s0 s1
      have x := pr.1 j j0 j1
      exact ⟨fun z => x.2.2.2.mp z, fun z => x.2.1.resolve_right (fun y => z (x.2.2.2.mpr y))⟩
    · obtain ⟨j, j0, j1, rfl⟩ := all s s0 s1
      exact (ex j j0 j1).symm
  | succ r ih =>
    intro i mv M a w Q ir i0 hR h83 pr lb ok hl k
    have i1 : i < T 1 1 := by omega
    apply m_Level_choose
    intro G hG
    have eD : d + (r + 1) + 4 = d + r + 5 := by omega
    rw [eD] at hG
    apply k_Level_choose_0 hG
    rw [hR 1 1 rfl, h83]
    refine ⟨fun z => ⟨fun y => ⟨by omega, ?_⟩, fun y => absurd i1 y⟩, fun z => k M ⟨fun _ _ _ _ _ => rfl, fun _ _ _ _ => rfl, fun _ _ => rfl, fun _ _ _ => Iff.rfl, pr.2.2⟩ (RESp.none (fun w' x ex ac => by have := lb x (pr.fe hT ex ac); omega))⟩
    obtain ⟨o1, o2, o3⟩ := ok (by omega)
    have mv0 : 0 ≤ mv := by
      have := coF_nn hT o1.1
      have := Csv_nn hT (pr.nn hT)
      omega
    have sr := hq.1 i i0 i1
    have ai : a (q i) = -1 := pr.2.1 (q i) sr.1 sr.2 (fun j j0 j1 => hq.2.1 j i j0 j1 i1)
    have qne : ∀ j, 0 ≤ j → j < i → q j ≠ q i := fun j j0 j1 => hq.2.1 j i j0 j1 i1
    have way : ∀ rho : Int, rho = 0 ∨ rho = 1 → ∀ M1, ofLv q i M M1 → M1 79 8 ≤ 1000000 → (∀ M2, ofLv q i M M2 → M2 79 8 ≤ 1000000 → RESp T q (fun w' => EXs q i w w' ∧ w' (q i) = rho) (M1 79 8) (M1 79 7) (M2 79 8) (M2 79 7) → G 44 [lr 79, li i, li mv, li (q i), li (rho + 1), none, none] [] M2) → G 44 [lr 79, li i, li mv, li (q i), li rho, none, none] [] M1 := by
      intro rho hrho M1 f1 fl cont
      apply k_Level_choose_44 hG
      have hR1 := ofLv.rep hR f1
      rw [w32_s (k := 2 * q i) (by omega) (by omega), w32_s (k := 2 * q i + rho) (by omega) (by omega), w32_1 (k := rho) (by omega) (by omega), w32_s (k := i * 36) (by omega) (by omega), w32_1 (k := i) (by omega) (by omega), w32_s (k := (i + 1) * 36) (by omega) (by omega)]
      refine ⟨fun y => absurd y (by omega), fun _ => ?_⟩
      refine s_doer hT hR1 (by omega) (by omega) (fun c1 c2 => ?_) (fun c => ⟨fun _ => cont M1 f1 fl (RESp.none (fun w' x hw ac => ?_)), fun y => absurd rfl y⟩)
      · have prr := poF_r hT (k := 2 * q i + rho) (by omega) (by omega)
        have hP : isP T (poF T (2 * q i + rho)) := ⟨prr.1, prr.2.1⟩
        generalize hPe : poF T (2 * q i + rho) = P at *
        refine ⟨fun y => absurd y (by omega), fun _ => ⟨by omega, ?_⟩⟩
        have row : ∀ p, 0 ≤ p → p < 36 → es_cpy M1 80 (i * 36) 80 ((i + 1) * 36) 36 80 (36 * (i + 1) + p) = M 80 (36 * i + p) := by
          intro p p0 p1
          unfold es_cpy
          rw [if_pos ⟨rfl, by omega, by omega⟩, show i * 36 + (36 * (i + 1) + p - (i + 1) * 36) = 36 * i + p by omega]
          exact f1.2.2.1 _ (by omega)
        have cpo : ∀ c : Nat, c ≠ 80 → es_cpy M1 80 (i * 36) 80 ((i + 1) * 36) 36 c = M1 c := fun c hc => funext fun j => if_neg (fun y => hc y.1)
        have cpj : ∀ j, j < 36 * (i + 1) → es_cpy M1 80 (i * 36) 80 ((i + 1) * 36) 36 80 j = M1 80 j := fun j hj => if_neg (fun y => by omega)
        have hRc : RepC T (es_cpy M1 80 (i * 36) 80 ((i + 1) * 36) 36) := fun c j z => by
          have h0 : c ≠ 80 := fun e => by subst e; have : persC 80 j = false := rfl; rw [this] at z; cases z
          rw [cpo c h0]; exact hR1 c j z
        generalize es_cpy M1 80 (i * 36) 80 ((i + 1) * 36) 36 = Mc at *
        rw [show (i + 1) * 36 = 36 * (i + 1) by omega]
        have opc : OPF T (Bsv T a) (fun p => Mc 80 (36 * (i + 1) + p)) := OPF_c o1 (fun p p0 p1 => row p p0 (by omega))
        have coc : coF (2 * T 1 0).toNat (ln T) (fun p => Mc 80 (36 * (i + 1) + p)) = coF (2 * T 1 0).toNat (ln T) (fun p => M 80 (36 * i + p)) := coF_c (fun p p0 p1 => row p p0 (by omega))
        obtain ⟨nb, nb0, nb1, nb2, nb3⟩ := bit_put (b := M1 79 6) (s := q i) f1.2.2.2.2.1 f1.2.2.2.2.2 sr.1 (by omega) hrho
        have lnr : 1 ≤ ln T P ∧ ln T P ≤ 99 := (hT.gr.2 P hP.1 (by have := hP.2; omega)).2.2.2 c2
        have Pn : P ≠ -1 := by have := hP.1; omega
        have ab1 : (fun t => if t = q i then P else a t) (q i) = P := if_pos rfl
        have ab2 : ∀ t, t ≠ q i → (fun t => if t = q i then P else a t) t = a t := fun t ht => if_neg ht
        have Ba : ∀ x, Bsv T (fun t => if t = q i then P else a t) x = addB T (Bsv T a) P x := Bsv_u sr.1 sr.2 ai Pn ab1 ab2
        have Ca := Csv_u (T := T) sr.1 sr.2 ai Pn ab1 ab2
        -- go on with the row below
        have deep : ∀ (M3 : es_M) (mv' : Int), off9 (36 * (i + 1)) Mc M3 → (∀ x, FEs T (fun t => if t = q i then P else a t) x → mv' ≤ x) → (mv' < 1000000 → OPF T (Bsv T (fun t => if t = q i then P else a t)) (fun p => M3 80 (36 * (i + 1) + p)) ∧ (∀ p, 0 ≤ p → p < 36 → 0 ≤ M3 80 (36 * (i + 1) + p) ∧ M3 80 (36 * (i + 1) + p) ≤ 12 * (i + 1)) ∧ mv' = Csv T (fun t => if t = q i then P else a t) + coF (2 * T 1 0).toNat (ln T) (fun p => M3 80 (36 * (i + 1) + p))) → es_Call (d + r + 5) 144 [.inr (.inr 79), .inl (i + 1), .inl mv'] (es_upd M3 79 6 nb) (fun _ M7 => G 44 [lr 79, li i, li mv, li (q i), li (rho + 1), none, none] [] M7) := by
          intro M3 mv' g9 lb' ok'
          have hR3 := off9.rep hRc g9
          have e79 : M3 79 = M1 79 := by rw [g9.1 79 (by decide) (by decide) (by decide), cpo 79 (by decide)]
          have e83 : M3 83 = q := by rw [g9.1 83 (by decide) (by decide) (by decide), cpo 83 (by decide), f1.1 83 (by decide) (by decide) (by decide) (by decide), h83]
          refine ih (i + 1) mv' (es_upd M3 79 6 nb) (fun t => if t = q i then P else a t) (fun t => if t = q i then rho else w t) _ (by omega) (by omega) (hR3.upd rfl) (by rw [es_upd_o 83 (by decide)]; exact e83) ?_ lb' (by rw [es_upd_o 80 (by decide)]; exact ok') (by rw [es_upd_j (by decide), e79]; exact fl) (fun M7 h7 r7 => ?_)
          · rw [es_upd_s]
            refine ⟨fun j j0 j1 => ?_, fun s s0 s1 hs => ?_, nb2⟩
            · by_cases e : j = i
              · rw [e]
                simp only [if_pos]
                refine ⟨hPe.symm, hrho, ⟨c1, by rw [hPe]; exact c2⟩, ?_⟩
                have := nb3 (q i) sr.1
                rw [if_pos rfl] at this
                exact this
              · have ne := qne j j0 (by omega)
                have x := pr.1 j j0 (by omega)
                simp only [if_neg ne]
                refine ⟨x.1, x.2.1, x.2.2.1, ?_⟩
                have y := nb3 (q j) (hq.1 j j0 (by omega)).1
                rw [if_neg ne] at y
                rw [y, f1.2.2.2.1 j j0 (by omega)]
                exact x.2.2.2
            · have ne : s ≠ q i := fun e => hs i i0 (by omega) e.symm
              exact (if_neg ne).trans (pr.2.1 s s0 s1 (fun j j0 j1 => hs j j0 (by omega)))
          · rw [es_upd_j (by decide), es_upd_j (by decide), e79] at r7
            have o7 : ofLv q i M M7 := by
              refine ⟨fun c a1 a2 a3 a4 => ?_, fun j a1 a2 a3 => ?_, fun j hj => ?_, fun j j0 j1 => ?_, h7.2.2.2.2⟩
              · rw [h7.1 c a1 a2 a3 a4, es_upd_o c a1, g9.1 c a2 a3 a4, cpo c a2]; exact f1.1 c a1 a2 a3 a4
              · rw [h7.2.1 j a1 a2 a3, es_upd_j a1, e79]; exact f1.2.1 j a1 a2 a3
              · rw [h7.2.2.1 j (by omega), es_upd_n (by decide), g9.2 j (Or.inl hj), cpj j hj]; exact f1.2.2.1 j hj
              · have y := nb3 (q j) (hq.1 j j0 (by omega)).1
                rw [if_neg (qne j j0 j1)] at y
                rw [h7.2.2.2.1 j j0 (by omega), es_upd_s, y]; exact f1.2.2.2.1 j j0 j1
            have l7 : M7 79 8 ≤ 1000000 := by
              rcases r7 with ⟨y, -⟩ | ⟨y, -⟩ <;> omega
            refine cont M7 o7 l7 ?_
            have iff : ∀ w', EXs q (i + 1) (fun t => if t = q i then rho else w t) w' ↔ (EXs q i w w' ∧ w' (q i) = rho) := by
              intro w'
              constructor
              · intro h
                refine ⟨fun j j0 j1 => ?_, ?_⟩
                · exact (h j j0 (by omega)).trans (if_neg (qne j j0 j1))
                · exact (h i i0 (by omega)).trans (if_pos rfl)
              · intro h j j0 j1
                by_cases e : j = i
                · rw [e]; exact h.2.trans (if_pos rfl).symm
                · exact (h.1 j j0 (by omega)).trans (if_neg (qne j j0 (by omega))).symm
            rw [show EXs q (i + 1) (fun t => if t = q i then rho else w t) = (fun w' => EXs q i w w' ∧ w' (q i) = rho) from funext fun w' => propext (iff w')] at r7
            exact r7
        refine s_comeBack hT hRc (B := Bsv T a) hP (by omega) (by omega) opc (fun p p0 p1 => by rw [row p p0 p1]; have := o2 p p0 p1; omega) (fun M3 g9 no => ?_) (fun v M3 g9 op co vb hb => ?_)
        · have e79 : M3 79 = M1 79 := by rw [g9.1 79 (by decide) (by decide) (by decide), cpo 79 (by decide)]
          have hR3 := off9.rep hRc g9
          have go : es_Call (d + r + 5) 61 [.inr (.inr 1), .inl P] (es_upd M3 79 6 nb) (fun y6 M5 => es_Call (d + r + 5) 144 [.inr (.inr 79), .inl (i + 1), .inl (min 1000000 (w32 (w32 (mv + y6) + 1000000)))] M5 (fun _ M7 => G 44 [lr 79, li i, li mv, li (q i), li (rho + 1), none, none] [] M7)) := by
            refine s_length (hR3.upd rfl) hP.1 (by have := hP.2; omega) ?_
            rw [w32_s (k := mv + ln T P) (by omega) (by omega), w32_s (k := mv + ln T P + 1000000) (by omega) (by omega), show min 1000000 (mv + ln T P + 1000000) = 1000000 by omega]
            refine deep M3 1000000 g9 (fun x hx => ?_) (fun y => absurd y (by decide))
            obtain ⟨f', q1, q2, -⟩ := hx
            exact (no f' q1 (fun x x0 x1 => by rw [← Ba x]; exact q2 x x0 x1)).elim
          rw [e79]
          exact ⟨fun y => by rw [nb0 y]; exact go, fun y => by rw [nb1 y]; exact go⟩
        · have e79 : M3 79 = M1 79 := by rw [g9.1 79 (by decide) (by decide) (by decide), cpo 79 (by decide)]
          have hR3 := off9.rep hRc g9
          have op' : OPF T (Bsv T (fun t => if t = q i then P else a t)) (fun p => M3 80 (36 * (i + 1) + p)) := by rw [show Bsv T (fun t => if t = q i then P else a t) = addB T (Bsv T a) P from funext Ba]; exact op
          have val : Csv T (fun t => if t = q i then P else a t) + coF (2 * T 1 0).toNat (ln T) (fun p => M3 80 (36 * (i + 1) + p)) = mv + ln T P + v := by rw [Ca, co, coc]; omega
          have go : es_Call (d + r + 5) 61 [.inr (.inr 1), .inl P] (es_upd M3 79 6 nb) (fun y6 M5 => es_Call (d + r + 5) 144 [.inr (.inr 79), .inl (i + 1), .inl (min 1000000 (w32 (w32 (mv + y6) + v)))] M5 (fun _ M7 => G 44 [lr 79, li i, li mv, li (q i), li (rho + 1), none, none] [] M7)) := by
            refine s_length (hR3.upd rfl) hP.1 (by have := hP.2; omega) ?_
            rw [w32_s (k := mv + ln T P) (by omega) (by omega), w32_s (k := mv + ln T P + v) (by omega) (by omega)]
            refine deep M3 _ g9 (fun x hx => ?_) (fun y => ⟨op', fun p p0 p1 => ?_, by rw [val]; omega⟩)
            · have := op'.min hT hx; omega
            · have x1 := hb p p0 p1
              rw [row p p0 p1] at x1
              have := o2 p p0 p1
              omega
          rw [e79]
          exact ⟨fun y => by rw [nb0 y]; exact go, fun y => by rw [nb1 y]; exact go⟩
      · have x := (ac.1 (q i) sr.1 sr.2).2
        rw [hw.2] at x
        exact absurd x c
    refine way 0 (Or.inl rfl) M ⟨fun _ _ _ _ _ => rfl, fun _ _ _ _ => rfl, fun _ _ => rfl, fun _ _ _ => Iff.rfl, pr.2.2⟩ hl (fun M1 f1 l1 r1 => ?_)
    refine way 1 (Or.inr rfl) M1 f1 l1 (fun M2 f2 l2 r2 => ?_)
    apply k_Level_choose_44 hG
    refine ⟨fun _ => k M2 f2 (RESp.two r1 r2 (fun w' h => h.1) (fun w' h => h.1) (fun w' okw ex => ?_) (fun w1 w2 h1 h2 => ?_)), fun y => absurd (by decide) y⟩
    · rcases (okw (q i) sr.1 sr.2).1 with y | y
      · exact Or.inl ⟨ex, y⟩
      · exact Or.inr ⟨ex, y⟩
    · exact ⟨i, i0, i1, h1.2, h2.2, fun j j0 j1 => by rw [h1.1 j j0 j1, h2.1 j j0 j1]⟩
