/-! PAIRS OF CALLS: bars (3). The model -/
def brV (T : es_M) (a v : Int) : Prop := (rnd T a ∧ v = -2) ∨ (¬ rnd T a ∧ (((0 ≤ v ∧ v < 12) ∧ rnd (Tf T v) a ∧ ∀ c, 0 ≤ c → c < v → ¬ rnd (Tf T c) a) ∨ (v = -1 ∧ ∀ c, 0 ≤ c → c < 12 → ¬ rnd (Tf T c) a)))
theorem brV_u {T : es_M} {a v w : Int} (h : brV T a v) (g : brV T a w) : v = w := by
  rcases h with ⟨h1, h2⟩ | ⟨h1, h2⟩
  · rcases g with ⟨g1, g2⟩ | ⟨g1, g2⟩
    · omega
    · exact absurd h1 g1
  · rcases g with ⟨g1, g2⟩ | ⟨g1, g2⟩
    · exact absurd g1 h1
    · rcases h2 with ⟨a1, a2, a3⟩ | ⟨a1, a2⟩
      · rcases g2 with ⟨b1, b2, b3⟩ | ⟨b1, b2⟩
        · rcases Int.lt_trichotomy v w with q | q | q
          · exact absurd a2 (b3 v a1.1 q)
          · exact q
          · exact absurd b2 (a3 w b1.1 q)
        · exact absurd a2 (b2 v a1.1 a1.2)
      · rcases g2 with ⟨b1, b2, b3⟩ | ⟨b1, b2⟩
        · exact absurd b2 (a2 w b1.1 b1.2)
        · omega
section
variable {d : Nat} {Q : Int → es_M → Prop} {T M : es_M}
theorem s_m_bars (hT : TI T) {a : Int} (a0 : 0 ≤ a) (a1 : a < 12) (hR : RepM T (es_upd M 91 0 0)) (h : ∀ v M', brV T a v → (∀ c, c ≠ 91 → c ≠ 118 → c ≠ 119 → M' c = M c) → (∀ j, j ≠ 0 → j ≠ 38 → j ≠ 39 → M' 91 j = M 91 j) → Q v M') : es_Call (d + 9) 236 [.inr (.inr 91), .inl a] M Q := by
  have ha := hT.all
  have eall : ∀ c, allF (Tf T c) = allF T := fun c => by unfold allF; rw [Tf_o (by decide) (by decide)]
  have A1 : allF T < 1024 := by omega
  apply m_Model_bars
  intro G hG
  apply k_Model_bars_0 hG
  refine s_m_isCorner (fun _ _ => es_f1 (s_m_all hT hR (s_m_isThere hT hR ha.1 A1 (fun M1 o r => ⟨fun w => absurd w (by decide), fun _ => ?_⟩) (fun M1 o r => ⟨fun _ => ?_, fun w => absurd rfl w⟩)))) (fun z => absurd ⟨a0, a1⟩ z)
  · exact h (-2) M1 (Or.inl ⟨r, rfl⟩) (fun c c1 c2 _ => by rw [o.1 c c2 c1, es_upd_o c c1]) (fun j j1 j2 j3 => by rw [o.2 j j2 j3, es_upd_j j1])
  · refine ⟨by decide, ?_⟩
    have nr : ¬ rnd T a := r
    clear ha
    generalize hM2 : es_cpy M1 101 0 119 0 1728 = M2
    have m2 : ∀ c, c ≠ 91 → c ≠ 118 → c ≠ 119 → M2 c = M c := fun c c1 c2 c3 => by rw [← hM2, es_cpy_o c c3, o.1 c c2 c1, es_upd_o c c1]
    have m2b : ∀ j, j ≠ 0 → j ≠ 38 → j ≠ 39 → M2 91 j = M 91 j := fun j j1 j2 j3 => by rw [← hM2, es_cpy_o 91 (by decide), o.2 j j2 j3, es_upd_j j1]
    have m3 : ∀ j, 0 ≤ j → j < 1728 → M2 119 j = T 101 j := fun j j0 j1 => by
      rw [← hM2]
      unfold es_cpy
      rw [if_pos ⟨rfl, by omega, by omega⟩, show 0 + (j - 0) = j by omega, o.1 101 (by decide) (by decide)]
      exact hR 101 j rfl
    have r2 : ∀ k j, persM k j = true → k ≠ 101 → M2 k j = T k j := fun k j q w => by
      have := hR k j q
      by_cases e : k = 91
      · subst e
        rw [es_upd_j (by rintro rfl; cases q)] at this
        rw [m2b j (by rintro rfl; cases q) (by rintro rfl; cases q) (by rintro rfl; cases q)]; exact this
      · rw [es_upd_o k e] at this
        rw [m2 k e (by rintro rfl; cases q) (by rintro rfl; cases q)]; exact this
    have e101 : M2 101 = T 101 := by
      funext j
      rw [← hM2, es_cpy_o 101 (by decide), o.1 101 (by decide) (by decide)]
      exact hR 101 j rfl
    have M101 : M 101 = T 101 := by rw [← m2 101 (by decide) (by decide) (by decide)]; exact e101
    clear hM2
    -- corner by corner
    refine es_up (P := fun c => ∀ X : es_M, (∀ k, k ≠ 91 → k ≠ 118 → X k = M2 k) → (∀ j, j ≠ 38 → j ≠ 39 → X 91 j = M2 91 j) → (∀ e, 0 ≤ e → e < c → ¬ rnd (Tf T e) a) → G 51 [lr 91, li a, li (-1), li c, none, none, none] [] X) (n := 12) (by decide) ?_ ?_ M2 (fun _ _ _ => rfl) (fun _ _ _ => rfl) (fun e x y => absurd y (by omega))
    · intro X x1 x2 x3
      apply k_Model_bars_51 hG
      exact ⟨fun _ => h (-1) X (Or.inr ⟨nr, Or.inr ⟨rfl, x3⟩⟩) (fun c c1 c2 c3 => by rw [x1 c c1 c2]; exact m2 c c1 c2 c3) (fun j j1 j2 j3 => by rw [x2 j j2 j3]; exact m2b j j1 j2 j3), fun z => absurd (Int.le_refl _) z⟩
    · intro c c0 c1 ih X x1 x2 x3
      apply k_Model_bars_51 hG
      refine ⟨fun z => absurd z (by omega), fun _ => ⟨fun z => absurd z (by decide), fun _ => ?_⟩⟩
      have wc : w32 (c + 1) = c + 1 := w32_1 (by omega) (by omega)
      refine es_up (P := fun i => ∀ Y : es_M, (∀ k, k ≠ 101 → Y k = X k) → (∀ j, Y 101 j = if (atF c j ∧ j / 144 < i) ∧ T 101 j = -2 then 0 else T 101 j) → G 64 [lr 91, li a, li (-1), li c, li i, none, none] [] Y) (n := 12) (by decide) ?_ ?_ X (fun _ _ => rfl) (fun j => ?_)
      · intro Y y1 y2
        have hRY : RepM (Tf T c) Y := by
          intro k j q
          by_cases e : k = 101
          · subst e
            rw [y2 j, Tf_101]
            by_cases w : atF c j ∧ T 101 j = -2
            · rw [if_pos w, if_pos ⟨⟨w.1, by have := w.1.1; omega⟩, w.2⟩]
            · rw [if_neg w, if_neg (fun z => w ⟨z.1.1, z.2⟩)]
          · rw [y1 k e, Tf_o (by rintro rfl; cases q) e]
            by_cases e2 : k = 91
            · subst e2
              rw [x2 j (by rintro rfl; cases q) (by rintro rfl; cases q)]; exact r2 91 j q e
            · rw [x1 k e2 (by rintro rfl; cases q)]; exact r2 k j q e
        have hTf : TI (Tf T c) := Tf_TI hT
        have A0 : 0 ≤ allF (Tf T c) := hTf.all.1
        have A2 : allF (Tf T c) < 1024 := by rw [eall]; exact A1
        -- the bars are set again
        have back : ∀ Z : es_M, offG Y Z → (∀ k, k ≠ 91 → k ≠ 118 → es_cpy Z 119 0 101 0 1728 k = M2 k) ∧ ∀ j, j ≠ 38 → j ≠ 39 → es_cpy Z 119 0 101 0 1728 91 j = M2 91 j := by
          intro Z oz
          refine ⟨fun k k1 k2 => ?_, fun j j1 j2 => ?_⟩
          · by_cases e : k = 101
            · subst e
              funext j
              unfold es_cpy
              by_cases q : 0 ≤ j ∧ j < 0 + 1728
              · rw [if_pos ⟨rfl, q⟩, show 0 + (j - 0) = j by omega, oz.1 119 (by decide) (by decide), y1 119 (by decide), x1 119 (by decide) (by decide), m3 j q.1 (by omega), e101]
              · rw [if_neg (fun z => q z.2), oz.1 101 (by decide) (by decide), y2 j, if_neg (fun z => q (by have := z.1.1.1; omega)), e101]
            · rw [es_cpy_o k e, oz.1 k k2 k1, y1 k e]; exact x1 k k1 k2
          · rw [es_cpy_o 91 (by decide), oz.2 j j1 j2, y1 91 (by decide)]; exact x2 j j1 j2
        apply k_Model_bars_64 hG
        rw [wc]
        refine ⟨fun _ => s_m_all hTf hRY (s_m_isThere hTf hRY A0 A2 (fun Z oz r => ⟨fun z => absurd z (by decide), fun _ => ⟨by decide, ?_⟩⟩) (fun Z oz r => ⟨fun _ => ⟨by decide, ?_⟩, fun z => absurd rfl z⟩)), fun z => absurd (Int.le_refl _) z⟩
        · obtain ⟨b1, b2⟩ := back Z oz
          apply k_Model_bars_51 hG
          have fi : Q c (es_cpy Z 119 0 101 0 1728) := h c _ (Or.inr ⟨nr, Or.inl ⟨⟨c0, c1⟩, r, x3⟩⟩) (fun k k1 k2 k3 => by rw [b1 k k1 k2]; exact m2 k k1 k2 k3) (fun j j1 j2 j3 => by rw [b2 j j2 j3]; exact m2b j j1 j2 j3)
          exact ⟨fun _ => fi, fun _ => ⟨fun _ => fi, fun z => absurd c0 z⟩⟩
        · obtain ⟨b1, b2⟩ := back Z oz
          refine ih _ b1 b2 (fun e e0 e1 => ?_)
          by_cases q : e = c
          · rw [q]; exact r
          · exact x3 e e0 (by omega)
      · intro i i0 i1 ih2 Y y1 y2
        apply k_Model_bars_64 hG
        refine ⟨fun z => absurd z (by omega), fun _ => ?_⟩
        have wi : w32 (i + 1) = i + 1 := w32_1 (by omega) (by omega)
        refine es_up (P := fun b => ∀ Z : es_M, (∀ k, k ≠ 101 → Z k = X k) → (∀ j, Z 101 j = if (atF c j ∧ (j / 144 < i ∨ (j / 144 = i ∧ j % 12 < b))) ∧ T 101 j = -2 then 0 else T 101 j) → G 74 [lr 91, li a, li (-1), li c, li i, li b, none] [] Z) (n := 12) (by decide) ?_ ?_ Y y1 (fun j => ?_)
        · intro Z z1 z2
          apply k_Model_bars_74 hG
          rw [wi]
          refine ⟨fun _ => ih2 Z z1 (fun j => ?_), fun z => absurd (Int.le_refl _) z⟩
          rw [z2 j]
          by_cases q : (atF c j ∧ j / 144 < i + 1) ∧ T 101 j = -2
          · rw [if_pos q, if_pos ⟨⟨q.1.1, by have := q.1.2; omega⟩, q.2⟩]
          · rw [if_neg q, if_neg (fun w => q ⟨⟨w.1.1, by have := w.1.2; omega⟩, w.2⟩)]
        · intro b b0 b1 ih3 Z z1 z2
          apply k_Model_bars_74 hG
          rw [w32_1 (k := b) (by omega) (by omega)]
          refine ⟨fun z => absurd z (by omega), fun _ => s_m_turnAt ⟨i0, i1⟩ ⟨c0, c1⟩ ⟨b0, b1⟩ ⟨by omega, ?_⟩⟩
          have at0 : atF c ((i * 12 + c) * 12 + b) := ⟨by omega, by omega⟩
          have pr : ∀ j, (atF c j ∧ (j / 144 < i ∨ (j / 144 = i ∧ j % 12 < b + 1))) ↔ (j = (i * 12 + c) * 12 + b ∨ (atF c j ∧ (j / 144 < i ∨ (j / 144 = i ∧ j % 12 < b)))) := fun j => by
            constructor
            · rintro ⟨⟨q1, q2⟩, q3⟩
              by_cases w : j = (i * 12 + c) * 12 + b
              · exact Or.inl w
              · refine Or.inr ⟨⟨q1, q2⟩, ?_⟩
                rcases q3 with q3 | q3
                · exact Or.inl q3
                · right; omega
            · rintro (w | ⟨w1, w2⟩)
              · rw [w]; exact ⟨at0, Or.inr ⟨by omega, by omega⟩⟩
              · refine ⟨w1, ?_⟩
                rcases w2 with w2 | w2
                · exact Or.inl w2
                · exact Or.inr ⟨w2.1, by omega⟩
          have old : Z 101 ((i * 12 + c) * 12 + b) = T 101 ((i * 12 + c) * 12 + b) := by
            rw [z2, if_neg]
            rintro ⟨⟨-, w⟩, -⟩
            omega
          have fin : ∀ v, v = (if T 101 ((i * 12 + c) * 12 + b) = -2 then 0 else T 101 ((i * 12 + c) * 12 + b)) → G 74 [lr 91, li a, li (-1), li c, li i, li (b + 1), none] [] (es_upd Z 101 ((i * 12 + c) * 12 + b) v) := fun v hv => ih3 _ (fun k hk => by rw [es_upd_o k hk]; exact z1 k hk) (fun j => by
            rw [es_upd_c]
            by_cases w : j = (i * 12 + c) * 12 + b
            · rw [if_pos w, hv, w]
              by_cases q : T 101 ((i * 12 + c) * 12 + b) = -2
              · rw [if_pos q, if_pos ⟨(pr _).mpr (Or.inl rfl), q⟩]
              · rw [if_neg q, if_neg (fun z => q z.2)]
            · rw [if_neg w, z2 j]
              by_cases q : (atF c j ∧ (j / 144 < i ∨ (j / 144 = i ∧ j % 12 < b))) ∧ T 101 j = -2
              · rw [if_pos q, if_pos ⟨(pr j).mpr (Or.inr q.1), q.2⟩]
              · rw [if_neg q, if_neg (fun z => q ⟨((pr j).mp z.1).resolve_left w, z.2⟩)])
          rw [old]
          exact ⟨fun z => ⟨by omega, by omega, fin _ (by rw [if_neg z])⟩, fun z => ⟨by omega, fin _ (by rw [if_pos z])⟩⟩
        · rw [y2 j]
          by_cases q : (atF c j ∧ j / 144 < i) ∧ T 101 j = -2
          · rw [if_pos q, if_pos ⟨⟨q.1.1, Or.inl q.1.2⟩, q.2⟩]
          · rw [if_neg q, if_neg (fun z => q ⟨⟨z.1.1, by have := z.1.2; have := z.1.1.1; omega⟩, z.2⟩)]
      · rw [x1 101 (by decide) (by decide), e101, if_neg (fun z => by have := z.1.2; have := z.1.1.1; omega)]
end
