/-! SHARES (4): the model tells -/
section
variable {d : Nat} {Q : Int → es_M → Prop} {T M : es_M} {L N E : Int} {cst : Int → Int}
theorem isF_b (hc : cOK N cst) {n : Nat} {left so wh o : Int} (l0 : 0 ≤ left) (l1 : left ≤ N) (h : jnF L so (shF L cst (n + 1) left) = wh) (w1 : wh < 1000000) (so0 : 0 ≤ so) (ho : isF L cst n left (boF L so wh) o) : jnF L (cst o) (shF L cst n (dfS left o)) ≤ boF L so wh := by
  have m := sh_m (L := L) hc n l0 l1
  have sb := jn_big so0 h w1
  have ge := jn_ge h w1
  obtain ⟨p, p0, p1, p2⟩ := m.2.2 sb
  rcases ho.2.1 with e | e
  · by_cases q : p = left
    · have op : o = p := by omega
      rw [op, p2]; exact ge
    · have := sub_le p0 p1
      refine absurd ?_ (ho.2.2 p p0 (by rw [e]; omega) p1)
      rw [p2]; exact ge
  · exact e
theorem s_m_tellsShares (hT : TI T) (hR : RepM T M) (hc : cOK (allF T) cst) (hE : E = 0 → cst 0 = 1000000) (hw : ∀ S, 0 ≤ S → S ≤ allF T → (0 < S ∨ ¬ E = 0) → M 134 S = cst S) {K : Nat} (hK : K ≤ 3) (hl : ∀ n : Nat, n ≤ K + 1 → mvOK L cst (allF T) n M) (lt : shF L cst K (allF T) < 1000000) (h : ∀ M', offV M M' → RwM (tlR L cst K (allF T) (shF L cst K (allF T)) (0, fun _ => 0)) M' → Q 0 M') : es_Call (d + 2) 270 [.inr (.inr 91), .inl ((K : Int) + 1), .inl L, .inl E] M Q := by
  have ha := hT.all
  have NN : allF T < 1024 := by omega
  apply m_Model_tellsShares
  intro G hG
  apply k_Model_tellsShares_0 hG
  refine s_m_all hT (hR.upd rfl) ?_
  generalize allF T = N at *
  obtain ⟨x1, x2, -⟩ := num3 (n := K + 1) (z := N) (S := N) (N := N) (by omega) (Int.le_refl _) NN ⟨ha.1, Int.le_refl _⟩
  rw [show ((K : Int) + 1) = ((K + 1 : Nat) : Int) by omega, x1, es_upd_n (by decide), hl (K + 1) (Nat.le_refl _) N ha.1 (Int.le_refl _)]
  refine ⟨x2, ?_⟩
  have key : ∀ (n : Nat) (left so : Int) (r : RW) (X : es_M), n ≤ K → 0 ≤ left → left ≤ N → 0 ≤ so → jnF L so (shF L cst n left) = shF L cst K N → r.1 + (n : Int) + 1 ≤ 4 → offV M X → RwM r X → (∀ X', offV M X' → RwM (tlR L cst n left (boF L so (shF L cst K N)) r) X' → Q 0 X') → G 32 [lr 91, none, li L, li E, li left, li so, li (shF L cst K N), li ((n + 1 : Nat) : Int), none] [] X := by
    intro n
    induction n with
    | zero =>
      intro left so r X _ l0 l1 so0 inv rr x1 x2 fin
      have l31 : left < 2147483648 := by omega
      have r120 : r.1 < 120 := by omega
      have inv' : jnF L so (cst left) = shF L cst K N := inv
      have cl := hc left l0 l1
      have cb := jn_big so0 inv' lt
      have lE : E = 0 → 1 ≤ left := fun e => by
        by_cases q : left = 0
        · rw [q, hE e] at cb; omega
        · omega
      have al : 0 < left ∨ ¬ E = 0 := by
        by_cases q : E = 0
        · exact Or.inl (by have := lE q; omega)
        · exact Or.inr q
      have so1 : so ≤ 1000000 := by unfold jnF at inv'; split at inv' <;> omega
      -- up to left
      have up : ∀ lo : Int, 0 ≤ lo → lo ≤ left → (E = 0 → 1 ≤ lo) → G 49 [lr 91, none, li L, li E, li left, li so, li (shF L cst K N), li ((0 + 1 : Nat) : Int), li lo] [] X := by
        intro lo lo0 lo1 hlo
        refine es_upl (P := fun k => G 49 [lr 91, none, li L, li E, li left, li so, li (shF L cst K N), li ((0 + 1 : Nat) : Int), li k] [] X) (lo := lo) (n := left) lo1 ?_ ?_
        · have a1 : 0 ≤ left ∧ left < 1024 := by omega
          have sd := sub_dif (a := left) (b := left) l0 l31 l0 l31
          have wp : w32 (w32 (w32 (((0 + 1 : Nat) : Int) - 1) * 1024) + 0) = 0 := by decide
          have ws : w32 (((0 + 1 : Nat) : Int) + -1) = 0 := by decide
          have ed : es_and left (es_xor left (-1)) = 0 := sd.mpr (sub.rf left)
          have sv : X 135 0 = 0 := by
            rw [x1.1 135 (by decide) (by decide)]
            have := hl 0 (by omega) 0 (by decide) ha.1
            rw [show ((0 : Nat) : Int) * 1024 + 0 = 0 from rfl] at this
            exact this
          have wX : X 134 left = cst left := by rw [x1.1 134 (by decide) (by decide)]; exact hw left l0 l1 al
          apply k_Model_tellsShares_49 hG
          rw [ed, wp, ws, sv, wX]
          refine ⟨fun z => absurd rfl z, fun _ => ⟨a1, by decide, s_m_joined cl (by decide) ?_⟩⟩
          rw [jn_0 cl]
          refine s_m_joined ⟨so0, so1⟩ cl ⟨fun _ => s_entR x2 r120 (fun X2 g1 g2 g3 => ⟨a1, ?_⟩), fun z => absurd inv' z⟩
          have wX2 : X2 134 left = cst left := by rw [g1 134 (by decide) (by decide)]; exact wX
          rw [wX2]
          refine s_m_joined ⟨so0, so1⟩ cl ?_
          apply k_Model_tellsShares_32 hG
          exact ⟨fun _ => fin X2 ⟨fun c c1 c2 => by rw [g1 c c1 c2]; exact x1.1 c c1 c2, fun j hj => by rw [g2 j hj]; exact x1.2 j hj⟩ g3, fun z => absurd (by decide) z⟩
        · intro k k0 k1 ih
          have a0 : 0 ≤ k := by omega
          have a1 : 0 ≤ k ∧ k < 1024 := by omega
          have k31 : k < 2147483648 := by omega
          have kN : k ≤ N := by omega
          have wk : w32 (k + 1) = k + 1 := w32_1 (by omega) (by omega)
          have ak : 0 < k ∨ ¬ E = 0 := by
            by_cases q : E = 0
            · exact Or.inl (by have := hlo q; omega)
            · exact Or.inr q
          have ne : k ≠ left := by omega
          have sd := sub_dif (a := k) (b := left) a0 k31 l0 l31
          have dr := dfS_r l0 k
          obtain ⟨y1, y2, dN⟩ := num3 (n := 0) (z := dfS left k) (S := left) (N := N) (by decide) l1 NN dr
          have wp : w32 (((0 + 1 : Nat) : Int) - 1) = ((0 : Nat) : Int) := by decide
          have ed : es_and left (es_xor k (-1)) = dfS left k := ei_dif l0 l31 a0 k31
          apply k_Model_tellsShares_49 hG
          rw [ed, wp, y1, wk]
          refine ⟨fun z => ih, fun z => ⟨a1, y2, ?_⟩⟩
          have ks := sd.mp z
          have nz : dfS left k ≠ 0 := fun w => ne (dfS_z l0 a0 ks w)
          have sv : X 135 (((0 : Nat) : Int) * 1024 + dfS left k) = 1000000 := by
            rw [x1.1 135 (by decide) (by decide), hl 0 (by omega) _ dr.1 dN]
            exact if_neg nz
          have wX : X 134 k = cst k := by rw [x1.1 134 (by decide) (by decide)]; exact hw k a0 kN ak
          rw [sv, wX]
          refine s_m_joined (hc k a0 kN) (by decide) ?_
          rw [jn_1 (hc k a0 kN)]
          refine s_m_joined ⟨so0, so1⟩ (by decide) ?_
          rw [jn_1 ⟨so0, so1⟩]
          exact ⟨fun w => absurd w (by clear y1 y2 sd ed dr; omega), fun _ => ih⟩
      apply k_Model_tellsShares_32 hG
      exact ⟨fun z => absurd z (by decide), fun _ => ⟨fun z => up 1 (by decide) (lE z) (fun _ => Int.le_refl _), fun z => up 0 (by decide) l0 (fun e => absurd e z)⟩⟩
    | succ n ih =>
      intro left so r X nK l0 l1 so0 inv rr x1 x2 fin
      have l31 : left < 2147483648 := by omega
      have r120 : r.1 < 120 := by omega
      have m := sh_m (L := L) hc n l0 l1
      have sb := jn_big so0 inv lt
      have ge := jn_ge inv lt
      obtain ⟨p, p0, p1, p2⟩ := m.2.2 sb
      have srl := sh_r (L := L) hc (n + 1) left l0 l1
      have so1 : so ≤ 1000000 := by unfold jnF at inv; split at inv <;> omega
      -- the first within the bound
      have hex : ∃ t, isF L cst n left (boF L so (shF L cst K N)) t := by
        have key2 : ∀ (w : Nat) (k : Int), 0 ≤ k → k + w = left → (∀ o', 0 ≤ o' → o' < k → sub o' left → ¬ jnF L (cst o') (shF L cst n (dfS left o')) ≤ boF L so (shF L cst K N)) → ∃ t, isF L cst n left (boF L so (shF L cst K N)) t := by
          intro w
          induction w with
          | zero => intro k k0 kw lo; exact ⟨left, ⟨l0, Int.le_refl _, sub.rf left⟩, Or.inl rfl, fun o' a b c => lo o' a (by omega) c⟩
          | succ w ihw =>
            intro k k0 kw lo
            by_cases q : sub k left ∧ jnF L (cst k) (shF L cst n (dfS left k)) ≤ boF L so (shF L cst K N)
            · exact ⟨k, ⟨k0, by omega, q.1⟩, Or.inr q.2, lo⟩
            · exact ihw (k + 1) (by omega) (by omega) (fun o' a b c => by
                by_cases e : o' = k
                · rw [e] at c ⊢; exact fun z => q ⟨c, z⟩
                · exact lo o' a (by omega) c)
        exact key2 left.toNat 0 (by decide) (by omega) (fun o' a b => absurd b (by omega))
      obtain ⟨t, ht⟩ := hex
      have et := fsF_eq ht
      have bt := isF_b hc l0 l1 inv lt so0 ht
      have t0 := ht.1.1
      have tl := ht.1.2.1
      have ts := ht.1.2.2
      have tN : t ≤ N := by omega
      have ct := hc t t0 tN
      have drt := dfS_r l0 t
      have dtN : dfS left t ≤ N := Int.le_trans drt.2 l1
      have lowt : shF L cst (n + 1) left ≤ jnF L (cst t) (shF L cst n (dfS left t)) := m.2.1 _ ⟨t, t0, ts, rfl⟩
      have eqt := (jn_bd inv lt lowt).mpr bt
      have srt := sh_r (L := L) hc n (dfS left t) drt.1 dtN
      obtain ⟨n1, n2, n3⟩ := jn_nx so0 ct.1 srt.1 lt eqt
      have tb : jnF L (cst t) (shF L cst n (dfS left t)) < 1000000 := jn_big so0 eqt lt
      have tE : E = 0 → 1 ≤ t := fun e => by
        by_cases q : t = 0
        · have cq : cst t = 1000000 := by rw [q]; exact hE e
          rw [cq, jn_1' srt] at tb; exact absurd tb (by decide)
        · omega
      have wn : w32 (((n + 1 + 1 : Nat) : Int) + -1) = ((n + 1 : Nat) : Int) := by rw [w32_s (by omega) (by omega)]; omega
      have wp : w32 (((n + 1 + 1 : Nat) : Int) - 1) = ((n + 1 : Nat) : Int) := by rw [w32_s (by omega) (by omega)]; omega
      have nK' : n ≤ K := by omega
      have rr' : (apd r t).1 + (n : Int) + 1 ≤ 4 := by
        unfold apd
        rw [if_pos r120]
        show r.1 + 1 + (n : Int) + 1 ≤ 4
        omega
      have n4 : n + 1 ≤ 4 := by omega
      have nK1 : n + 1 ≤ K + 1 := by omega
      have lv : ∀ S, 0 ≤ S → S ≤ N → X 135 (((n + 1 : Nat) : Int) * 1024 + S) = shF L cst n S := fun S S0 S1 => by rw [x1.1 135 (by decide) (by decide)]; exact hl (n + 1) nK1 S S0 S1
      have wX : ∀ k, 0 ≤ k → k ≤ N → (0 < k ∨ ¬ E = 0) → X 134 k = cst k := fun k a b c => by rw [x1.1 134 (by decide) (by decide)]; exact hw k a b c
      clear srl rr
      have at1 : ∀ k : Int, 0 ≤ k → k ≤ t → (0 < k ∨ ¬ E = 0) → (k < t → G 49 [lr 91, none, li L, li E, li left, li so, li (shF L cst K N), li ((n + 1 + 1 : Nat) : Int), li (k + 1)] [] X) → G 49 [lr 91, none, li L, li E, li left, li so, li (shF L cst K N), li ((n + 1 + 1 : Nat) : Int), li k] [] X := by
        intro k k0 kt ak nx
        have kl : k ≤ left := Int.le_trans kt tl
        have kN : k ≤ N := Int.le_trans kl l1
        have a1 : 0 ≤ k ∧ k < 1024 := ⟨k0, Int.lt_of_le_of_lt kN NN⟩
        have k31 : k < 2147483648 := Int.lt_trans a1.2 (by decide)
        have wk : w32 (k + 1) = k + 1 := w32_1 (Int.le_trans (by decide) k0) (Int.lt_trans a1.2 (by decide))
        have sd := sub_dif (a := k) (b := left) k0 k31 l0 l31
        have dr := dfS_r l0 k
        obtain ⟨y1, y2, dN⟩ := num3 (n := n + 1) (z := dfS left k) (S := left) (N := N) n4 l1 NN dr
        have ed : es_and left (es_xor k (-1)) = dfS left k := ei_dif l0 l31 k0 k31
        have kt' : k < t ∨ k = t := Int.lt_or_eq_of_le kt
        apply k_Model_tellsShares_49 hG
        rw [ed, wp, y1, wk, wn, wX k k0 kN ak, lv _ dr.1 dN]
        clear ed
        refine ⟨fun z => ?_, fun z => ⟨a1, y2, s_m_joined (hc k k0 kN) (sh_r hc n _ dr.1 dN) ?_⟩⟩
        · rcases kt' with q | q
          · exact nx q
          · rw [q] at sd z; exact absurd (sd.mpr ts) z
        · have ks := sd.mp z
          have lowk : shF L cst (n + 1) left ≤ jnF L (cst k) (shF L cst n (dfS left k)) := m.2.1 _ ⟨k, k0, ks, rfl⟩
          have eqk := jn_bd inv lt lowk
          have jr := jn_r (L := L) (hc k k0 kN) (sh_r (L := L) hc n _ dr.1 dN)
          refine s_m_joined ⟨so0, so1⟩ jr ⟨fun e => ?_, fun e => ?_⟩
          · rcases kt' with q | q
            · exact absurd (eqk.mp e) (ht.2.2 k k0 q ks)
            · subst q
              refine s_entR x2 r120 (fun X2 g1 g2 g3 => ⟨a1, ?_⟩)
              have wX2 : X2 134 k = cst k := by rw [g1 134 (by decide) (by decide)]; exact wX k k0 kN ak
              rw [wX2]
              refine s_m_joined ⟨so0, so1⟩ (hc k k0 kN) ?_
              refine ih (dfS left k) (jnF L so (cst k)) (apd r k) X2 nK' drt.1 dtN n2 n1 rr' ⟨fun c c1 c2 => by rw [g1 c c1 c2]; exact x1.1 c c1 c2, fun j hj => by rw [g2 j hj]; exact x1.2 j hj⟩ g3 (fun X' b1 b2 => fin X' b1 ?_)
              show RwM (tlR L cst n (dfS left (fsF L cst n left (boF L so (shF L cst K N)))) (if L = 0 then boF L so (shF L cst K N) - cst (fsF L cst n left (boF L so (shF L cst K N))) else boF L so (shF L cst K N)) (apd r (fsF L cst n left (boF L so (shF L cst K N))))) X'
              rw [et, n3]; exact b2
          · rcases kt' with q | q
            · exact nx q
            · rw [q] at e; exact absurd eqt e
      have up : ∀ lo : Int, 0 ≤ lo → lo ≤ t → (E = 0 → 1 ≤ lo) → G 49 [lr 91, none, li L, li E, li left, li so, li (shF L cst K N), li ((n + 1 + 1 : Nat) : Int), li lo] [] X := by
        intro lo lo0 lo1 hlo
        have ak : ∀ k, lo ≤ k → (0 < k ∨ ¬ E = 0) := fun k hk => by
          by_cases q : E = 0
          · exact Or.inl (Int.lt_of_lt_of_le (by decide) (Int.le_trans (hlo q) hk))
          · exact Or.inr q
        exact es_upl (P := fun k => G 49 [lr 91, none, li L, li E, li left, li so, li (shF L cst K N), li ((n + 1 + 1 : Nat) : Int), li k] [] X) (lo := lo) (n := t) lo1 (at1 t t0 (Int.le_refl _) (ak t lo1) (fun q => absurd q (Int.lt_irrefl _))) (fun k k0 k1 ihk => at1 k (Int.le_trans lo0 k0) (Int.le_of_lt k1) (ak k k0) (fun _ => ihk))
      apply k_Model_tellsShares_32 hG
      exact ⟨fun z => absurd z (by clear n1 n2 n3 eqt bt; omega), fun _ => ⟨fun z => up 1 (by decide) (tE z) (fun _ => Int.le_refl _), fun z => up 0 (by decide) t0 (fun e => absurd e z)⟩⟩
  have j0 : jnF L 0 (shF L cst K N) = shF L cst K N := by
    have sr := sh_r (L := L) hc K N ha.1 (Int.le_refl _)
    unfold jnF; split <;> omega
  have b0 : boF L 0 (shF L cst K N) = shF L cst K N := by unfold boF; split <;> omega
  refine key K N 0 (0, fun _ => 0) _ (Nat.le_refl _) ha.1 (Int.le_refl _) (by decide) j0 (by show (0 : Int) + (K : Int) + 1 ≤ 4; omega) ⟨fun c c1 _ => es_upd_o c c1, fun j hj => es_upd_j hj⟩ ⟨⟨es_upd_s, (by decide : (0 : Int) ≤ 0), (by decide : (0 : Int) ≤ 120)⟩, fun i i0 i1 => absurd (show i < 0 from i1) (by omega)⟩ (fun X' a1 a2 => h X' a1 ?_)
  rw [b0] at a2
  exact a2
end
