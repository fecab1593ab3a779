/-! A METHOD, out of walks over its code -/
def es_entl : List AV → es_L
  | [] => []
  | .inr (.inl v) :: r => some (.inr (.inl v)) :: none :: es_entl r
  | v :: r => some v :: es_entl r
def es_pad : Nat → es_L → es_L
  | 0, _ => []
  | n + 1, [] => none :: es_pad n []
  | n + 1, x :: L => x :: es_pad n L
theorem es_pad_len : ∀ (n : Nat) (L : es_L), (es_pad n L).length = n
  | 0, L => by cases L <;> rfl
  | n + 1, [] => by simp [es_pad, es_pad_len n []]
  | n + 1, x :: L => by simp [es_pad, es_pad_len n L]
theorem es_pad_of : ∀ (n : Nat) (L : es_L) (i : Nat) (v : AV), (es_pad n L)[i]? = some (some v) → L[i]? = some (some v)
  | 0, L, i, v, h => by cases L <;> simp [es_pad] at h
  | n + 1, [], 0, v, h => by simp [es_pad] at h
  | n + 1, [], i + 1, v, h => by
    simp only [es_pad, List.getElem?_cons_succ] at h
    have := es_pad_of n [] i v h
    simp at this
  | n + 1, x :: L, 0, v, h => by simpa [es_pad] using h
  | n + 1, x :: L, i + 1, v, h => by
    simp only [es_pad, List.getElem?_cons_succ] at h ⊢
    exact es_pad_of n L i v h
theorem es_ent_len (ad : Nat → Nat) : ∀ av : List AV, (lg_sl (av.map (es_V ad))).length = (es_entl av).length
  | [] => rfl
  | .inl x :: r => by have := es_ent_len ad r; simp [lg_sl, es_V, Value.category, es_entl] at this ⊢; omega
  | .inr (.inl x) :: r => by have := es_ent_len ad r; simp [lg_sl, es_V, Value.category, es_entl] at this ⊢; omega
  | .inr (.inr x) :: r => by have := es_ent_len ad r; simp [lg_sl, es_V, Value.category, es_entl] at this ⊢; omega
theorem es_ent_of (ad : Nat → Nat) : ∀ (av : List AV) (k i : Nat) (v : AV), (es_entl av)[i]? = some (some v) → (k + i, es_V ad v) ∈ lv_args k (av.map (es_V ad)) ∧ v ∈ av
  | [], k, i, v, h => by simp [es_entl] at h
  | .inl x :: r, k, 0, v, h => by simp [es_entl] at h; subst h; simp [lv_args]
  | .inl x :: r, k, i + 1, v, h => by
    simp only [es_entl, List.getElem?_cons_succ] at h
    obtain ⟨h1, h2⟩ := es_ent_of ad r (k + 1) i v h
    refine ⟨List.mem_cons_of_mem _ ?_, List.mem_cons_of_mem _ h2⟩
    rw [show k + (i + 1) = k + 1 + i by omega]
    exact h1
  | .inr (.inr x) :: r, k, 0, v, h => by simp [es_entl] at h; subst h; simp [lv_args]
  | .inr (.inr x) :: r, k, i + 1, v, h => by
    simp only [es_entl, List.getElem?_cons_succ] at h
    obtain ⟨h1, h2⟩ := es_ent_of ad r (k + 1) i v h
    refine ⟨List.mem_cons_of_mem _ ?_, List.mem_cons_of_mem _ h2⟩
    rw [show k + (i + 1) = k + 1 + i by omega]
    exact h1
  | .inr (.inl x) :: r, k, 0, v, h => by simp [es_entl] at h; subst h; simp [lv_args]
  | .inr (.inl x) :: r, k, 1, v, h => by simp [es_entl] at h
  | .inr (.inl x) :: r, k, i + 2, v, h => by
    simp only [es_entl, List.getElem?_cons_succ] at h
    obtain ⟨h1, h2⟩ := es_ent_of ad r (k + 2) i v h
    refine ⟨List.mem_cons_of_mem _ ?_, List.mem_cons_of_mem _ h2⟩
    rw [show k + (i + 2) = k + 2 + i by omega]
    exact h1
/-- what may be taken of a goal: walks go on -/
def es_Cl (cd : List es_R) (stop : List (Nat × List Bool)) (ret : Option FieldType) (d : Nat) (Q : Int → es_M → Prop) (G : Nat → es_L → List AV → es_M → Prop) : Prop := ∀ (n pc : Nat) (L : es_L) (st : List AV) (M : es_M), es_wp (es_lay none) 140 (es_Call d) ret Q cd stop G n pc L st M → G pc L st M
theorem es_method {id own d : Nat} {q : es_I} {cd : List es_R} {stop : List (Nat × List Bool)} {av : List AV} {M : es_M} {Q : Int → es_M → Prop} (hq : es_mi[id]? = some q) (hown : q.1.cls = es_cn own) (hcd : es_cok own q.2.1 cd) (hst : stop.all (fun z => Nat.beq z.2.length q.2.2.1) = true)
    (hfit : Nat.ble (es_entl av).length q.2.2.1 = true) (h : ∀ G : Nat → es_L → List AV → es_M → Prop, es_Cl cd stop q.2.2.2.1 d Q G → G 0 (es_pad q.2.2.1 (es_entl av)) [] M) : es_Call (d + 1) id av M Q := by
  intro q' hq' hav hM l ad D cA hinj
  cases Option.some.inj (hq.symm.trans hq')
  obtain ⟨m1, m2, m3, -⟩ := es_mfacts hq
  refine Met.ofW (cc := q.2.1) (maxL := q.2.2.1) (ret := q.2.2.2.1) m3 rfl ?_
  intro p e s m args below meth c s₁ B hml hv
  obtain ⟨rfl, hP, hU⟩ := hv
  have hts := atoms_spec (ws := es_wsM q) B.pre
  have hf : s.vm.findClass (es_cn own) = some m.cls := hown ▸ findClass_of_methodNamed B.named
  have hlocks := B.notSynchronized
  have C : es_Ctx p (headSpec (es_wsM q) (es_rm (d + 1))).room s m (av.map (es_V ad)).toArray meth c D ad cA (es_A ad) q.2.2.1 (M 140) 0 0 q.2.1 own d none :=
    ⟨B.exec, B.bytes, hml, hf, fun w hw => hts w (List.mem_cons_of_mem _ hw), hU, hinj, fun k hk => ⟨k, hk, rfl⟩, (fun _ h => nomatch h), Nat.le_refl _, by show 64 * d + 64 ≤ 64 * (d + 1); omega, Nat.le_refl _, Nat.le_refl _⟩
  have hret : es_Ret p l e (headSpec (es_wsM q) (es_rm (d + 1))).room s m (av.map (es_V ad)).toArray below meth c D ad cA (es_A ad) (M 140) 0 0 (MQ below (es_Qc ad D cA q.2.2.2.1 (M 140) Q) (av.map (es_V ad)).toArray s 0 0 (es_A ad)) q.2.1 q.2.2.2.1 Q := by
    intro pc ls H locs M' v i sv hd hrt hQ hok hrng hm' hP' hS'
    have post : ∀ (ov : Option Value), ov = (es_res q.2.2.2.1 v).map (es_V ad) → (∀ w, es_res q.2.2.2.1 v = some w → es_ok w) → ∀ t : State, t.heap = H → s.WarmedH t.vm → es_Qc ad D cA q.2.2.2.1 (M 140) Q (av.map (es_V ad)).toArray s (.returned ov) t := by
      intro ov hov hokr t ht hW
      exact ⟨⟨v, M', by rw [hov], hokr, hrng, hm', hQ, by rw [ht]; exact hP'⟩, hS'.F ht⟩
    rcases hrt with ⟨rfl, rfl, hr⟩ | ⟨rfl, rfl, hr⟩ | ⟨rfl, rfl, rfl, hr⟩
    · have h1 := (es_ok1 hok).1
      rcases hr with hr | ⟨hr, hv⟩
      · exact W.iret B.exec B.bytes (by rw [B.returns, hr]) (post (some (.int (Int32.ofInt v))) (by rw [hr]; rfl) (fun w hw => by rw [hr] at hw; cases hw; exact h1)) hS'.2.2 hd
      · exact W.zret (ty := .boolean) B.exec B.bytes (by rw [B.returns, hr]) (es_nb hv).1 (post (some (.int (Int32.ofInt v))) (by rw [hr]; rfl) (fun w hw => by rw [hr] at hw; cases hw; exact h1)) hS'.2.2 hd
    · have h1 := (es_ok1 hok).1
      exact W.lret B.exec B.bytes (by rw [B.returns, hr]) (post (some (.long (Int64.ofInt v))) (by rw [hr]; rfl) (fun w hw => by rw [hr] at hw; cases hw; exact h1)) hS'.2.2 hd
    · exact W.vret B.exec B.bytes (by rw [B.returns, hr]) (post none (by rw [hr]; rfl) (fun w hw => by rw [hr] at hw; cases hw)) hS'.2.2 hd
  have hG := h _ (es_wp_ok (below := below) (l := l) (e := e) hst hcd C hret)
  rw [lg_entry_eq]
  refine hG s.heap [] _ ⟨es_pad_len _ _, ?_⟩ (fun v h => by cases h) hM rfl hP va_S.rf
  have hle := Nat.le_of_ble_eq_true hfit
  have he := lv_entry (av.map (es_V ad)) (n := q.2.2.1) (by rw [es_ent_len]; exact hle)
  refine ⟨he.1, he.2.1, fun i v hv => ?_⟩
  obtain ⟨h1, h2⟩ := es_ent_of ad av 0 i v (es_pad_of _ _ i v hv)
  rw [Nat.zero_add] at h1
  exact ⟨he.2.2 _ h1, hav v h2⟩
