/-! PAIRS OF CALLS: parts (3). What a part costs, in the class -/
theorem same_st {T : es_M} (hT : TI T) {v w : Int} (v0 : 0 ≤ v) (v1 : v < T 1 1) (w0 : 0 ≤ w) (w1 : w < T 1 1) (e : T 10 v = T 10 w) : v = w ∨ w = v + 1 ∨ v = w + 1 := by
  have a := preS_in hT v0 v1
  have b := preS_in hT w0 w1
  have c := hT.must (hT.sr v0 v1).1.1 (hT.sr v0 v1).1.2
  rw [← e] at b
  omega
theorem mono_st {T : es_M} (hT : TI T) {v w : Int} (v0 : 0 ≤ v) (v1 : v < T 1 1) (w0 : 0 ≤ w) (w1 : w < T 1 1) (h : v ≤ w) : T 10 v ≤ T 10 w := by
  have a := preS_in hT v0 v1
  have b := preS_in hT w0 w1
  have sv := (hT.sr v0 v1).1
  have sw := (hT.sr w0 w1).1
  by_cases q : T 10 v ≤ T 10 w
  · exact q
  · exfalso
    have le := preS_le hT (T 10 v).toNat (T 10 w + 1).toNat (by omega) (by omega)
    rw [preS_s sw.1] at le
    omega
def lsS (T : es_M) (S : Int) : Nat → Int
  | 0 => 0
  | k + 1 => lsS T S k + (if ebit S k then lesF T (T 10 k) else 0)
theorem lsS_s {T : es_M} {S k : Int} (k0 : 0 ≤ k) : lsS T S (k + 1).toNat = lsS T S k.toNat + (if ebit S k then lesF T (T 10 k) else 0) := by
  rw [toN1 k0]
  show lsS T S k.toNat + (if ebit S (k.toNat : Nat) then lesF T (T 10 (k.toNat : Nat)) else 0) = _
  rw [toNI k0]
theorem lsS_r {T : es_M} (hT : TI T) {S : Int} : ∀ k : Nat, (k : Int) ≤ T 1 1 → 0 ≤ lsS T S k ∧ lsS T S k ≤ 99 * k := by
  intro k
  induction k with
  | zero => intro _; exact ⟨Int.le_refl _, Int.le_refl _⟩
  | succ k ih =>
    intro hk
    have i := ih (by omega)
    obtain ⟨s0, s1⟩ := (hT.sr (v := (k : Int)) (by omega) (by omega)).1
    have l := les_r hT s0 s1
    show 0 ≤ lsS T S k + (if ebit S k then lesF T (T 10 k) else 0) ∧ lsS T S k + (if ebit S k then lesF T (T 10 k) else 0) ≤ 99 * ((k + 1 : Nat) : Int)
    split <;> omega
noncomputable def ptF (T : es_M) (S : Int) : Int := ifc (0 < S ∧ whs T S ∧ hng T S (T 10 (ntzN S.toNat : Nat))) (lsS T S (T 1 1).toNat) 1000000
theorem pt_ok {T : es_M} (hT : TI T) : cOK (allF T) (ptF T) := fun S _ _ => by
  have hv := hT.v
  have := lsS_r hT (S := S) (T 1 1).toNat (by omega)
  unfold ptF
  by_cases e : 0 < S ∧ whs T S ∧ hng T S (T 10 (ntzN S.toNat : Nat))
  · rw [ifc_y e]; omega
  · rw [ifc_n e]; decide
section
variable {d : Nat} {Q : Int → es_M → Prop} {T M : es_M}
theorem s_hasWholeStreets (hT : TI T) (hR : RepC T M) {S : Int} (S0 : 0 ≤ S) (S1 : S < 1024) (hy : whs T S → Q 1 M) (hn : ¬ whs T S → Q 0 M) : es_Call (d + 2) 122 [.inr (.inr 72), .inl S] M Q := by
  have hv := hT.v
  apply m_Shares_hasWholeStreets
  intro G hG
  apply k_Shares_hasWholeStreets_0 hG
  have fin : (∀ v, 0 ≤ v → v + 1 < T 1 1 → T 10 v = T 10 (v + 1) → (ebit S v ↔ ebit S (v + 1))) → whs T S := by
    intro ad v w v0 v1 w0 w1 e
    rcases same_st hT v0 v1 w0 w1 e with q | q | q
    · rw [q]
    · rw [q] at e w1 ⊢; exact ad v v0 w1 e
    · rw [q] at e v1 ⊢; exact (ad w w0 v1 e.symm).symm
  have key : ∀ (m : Nat) (i : Int), 0 ≤ i → i + m = T 1 1 → (∀ v, 0 ≤ v → v < i → v + 1 < T 1 1 → T 10 v = T 10 (v + 1) → (ebit S v ↔ ebit S (v + 1))) → G 2 [lr 72, li S, li i] [] M := by
    intro m
    induction m with
    | zero =>
      intro i i0 im ad
      apply k_Shares_hasWholeStreets_2 hG
      rw [hR 1 1 rfl, w32_1 (by omega) (by omega)]
      exact ⟨fun _ => ⟨es_b1, hy (fin (fun v v0 v1 => ad v v0 (by omega) v1))⟩, fun z => absurd (by omega) z⟩
    | succ m ih =>
      intro i i0 im ad
      have nx : (i + 1 < T 1 1 → T 10 i = T 10 (i + 1) → (ebit S i ↔ ebit S (i + 1))) → G 2 [lr 72, li S, li (i + 1)] [] M := fun hi => ih (i + 1) (by omega) (by omega) (fun v v0 v1 v2 e => by
        by_cases q : v = i
        · rw [q] at v2 e ⊢; exact hi v2 e
        · exact ad v v0 (by omega) v2 e)
      apply k_Shares_hasWholeStreets_2 hG
      rw [hR 1 1 rfl, w32_1 (by omega) (by omega), hR 10 _ rfl, hR 10 _ rfl]
      refine ⟨fun z => ⟨es_b1, hy (fin (fun v v0 v1 => ad v v0 (by omega) v1))⟩, fun z => ⟨by omega, by omega, fun e => nx (fun _ e' => absurd e' e), fun e => ?_⟩⟩
      have no : ¬ (ebit S i ↔ ebit S (i + 1)) → Q 0 M := fun w => hn (fun u => w (u i (i + 1) i0 (by omega) (by omega) (by omega) e))
      refine s_has S0 (by omega) i0 (by omega) (fun b => s_has S0 (by omega) (by omega) (by omega) (fun b' => ⟨fun _ => nx (fun _ _ => ⟨fun _ => b', fun _ => b⟩), fun w => absurd rfl w⟩) (fun b' => ⟨fun w => absurd w (by decide), fun _ => ⟨es_b0, no (fun u => b' (u.mp b))⟩⟩)) (fun b => s_has S0 (by omega) (by omega) (by omega) (fun b' => ⟨fun w => absurd w (by decide), fun _ => ⟨es_b0, no (fun u => b (u.mpr b'))⟩⟩) (fun b' => ⟨fun _ => nx (fun _ _ => ⟨fun w => absurd w b, fun w => absurd w b'⟩), fun w => absurd rfl w⟩))
  exact key (T 1 1).toNat 0 (by decide) (by omega) (fun v v0 v1 => absurd v1 (by omega))
theorem s_costByStreets (hT : TI T) (hR : RepC T M) (h : ∀ M', (∀ c, c ≠ 73 → M' c = M c) → (∀ S, 0 ≤ S → S ≤ allF T → M' 73 S = ptF T S) → Q 0 M') : es_Call (d + 4) 121 [.inr (.inr 72)] M Q := by
  have ha := hT.all
  have hv := hT.v
  have hn := hT.n
  apply m_Shares_costByStreets
  intro G hG
  apply k_Shares_costByStreets_0 hG
  refine ⟨by decide, ?_⟩
  have hR' : ∀ X : es_M, (∀ c, c ≠ 73 → X c = M c) → RepC T X := fun X e c j q => by rw [e c (by rintro rfl; cases q)]; exact hR _ _ q
  have p0 : ptF T 0 = 1000000 := ifc_n (fun z => absurd z.1 (by decide))
  refine es_upl (P := fun S => ∀ X : es_M, (∀ c, c ≠ 73 → X c = M c) → (∀ U, 0 ≤ U → U < S → X 73 U = ptF T U) → G 10 [lr 72, li S, none, none] [] X) (lo := 1) (n := allF T + 1) (by omega) ?_ ?_ _ (fun c hc => es_upd_o c hc) (fun U a b => ?_)
  · intro X f1 f2
    apply k_Shares_costByStreets_10 hG
    exact s_allServices hT (hR' X f1) ⟨fun _ => h X f1 (fun S S0 S1 => f2 S S0 (by omega)), fun z => absurd (by omega) z⟩
  · intro S S0 S1 ih X f1 f2
    have SN : S ≤ allF T := by omega
    have S1024 : S < 1024 := by omega
    have Sp : 0 < S := by omega
    have Sr : 0 ≤ S ∧ S < 1024 := by omega
    have wS : w32 (S + 1) = S + 1 := w32_1 (by omega) (by omega)
    apply k_Shares_costByStreets_10 hG
    refine s_allServices hT (hR' X f1) ⟨fun z => absurd z (by omega), fun _ => ?_⟩
    clear ha
    refine es_up (P := fun k => G 25 [lr 72, li S, li (lsS T S k.toNat), li k] [] X) (n := T 1 1) hv.1 ?_ ?_
    · apply k_Shares_costByStreets_25 hG
      rw [(hR' X f1) 1 1 rfl, wS]
      have fin : ∀ v, v = ptF T S → ((0 ≤ S ∧ S < 1024) ∧ G 10 [lr 72, li (S + 1), none, none] [] (es_upd X 73 S v)) := fun v hv' => ⟨Sr, ih _ (fun c hc => by rw [es_upd_o c hc]; exact f1 c hc) (fun U U0 U1 => by
        rw [es_upd_c]
        by_cases q : U = S
        · rw [if_pos q, hv', q]
        · rw [if_neg q]; exact f2 U U0 (by omega))⟩
      refine ⟨fun _ => s_hasWholeStreets hT (hR' X f1) Sr.1 S1024 (fun a => es_t1 (s_hangsTogether hT (hR' X f1) Sp SN (fun b => es_t1 (fin _ (by unfold ptF; rw [ifc_y ⟨Sp, a, b⟩]))) (fun b => es_t0 (fin _ (by unfold ptF; rw [ifc_n (fun z => b z.2.2)]))))) (fun a => es_t0 (fin _ (by unfold ptF; rw [ifc_n (fun z => a z.2.1)]))), fun z => absurd (Int.le_refl _) z⟩
    · intro k k0 k1 ih2
      rw [lsS_s k0] at ih2
      have lr' := lsS_r hT (S := S) k.toNat (by omega)
      obtain ⟨s0, s1⟩ := (hT.sr k0 k1).1
      have l := les_r hT s0 s1
      apply k_Shares_costByStreets_25 hG
      rw [(hR' X f1) 1 1 rfl, w32_1 (k := k) (by omega) (by omega), w32_s (k := lsS T S k.toNat + 0) (by omega) (by omega)]
      refine ⟨fun z => absurd z (by omega), fun _ => s_has Sr.1 (by omega) k0 (by omega) (fun b => es_t1 ⟨by omega, ?_⟩) (fun b => es_t0 (by rw [if_neg b] at ih2; exact ih2))⟩
      rw [(hR' X f1) 10 _ rfl]
      refine s_lesser (hR' X f1) s0 (by omega) ?_
      rw [w32_s (k := lsS T S k.toNat + lesF T (T 10 k)) (by omega) (by omega)]
      rw [if_pos b] at ih2
      exact ih2
  · have : U = 0 := by omega
    rw [this, es_upd_s, p0]
end
