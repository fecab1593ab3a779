/-! words out of the checks -/
theorem es_any {α : Type} {l : List α} {f : α → Bool} (h : l.any f = true) : ∃ q ∈ l, f q = true := List.any_eq_true.mp h
theorem es_FL_w {own ix ci k : Nat} (h : (es_FL.any fun q => Nat.beq q.1 own && Nat.beq q.2.1 ix && Nat.beq q.2.2.1 ci && Nat.beq q.2.2.2.1 k) = true) : Cond.fieldLink (es_cn own) ix (es_fd ci k).1 (es_fd ci k).2.1 (es_fd ci k).2.2.1 ∈ es_WT := by
  obtain ⟨q, hq, h⟩ := es_any h
  simp only [Bool.and_eq_true, Nat.beq_eq] at h
  obtain ⟨⟨⟨h1, h2⟩, h3⟩, h4⟩ := h
  have := es_WT_at (List.all_eq_true.mp es_FL_ok q hq)
  rw [h1, h2, h3, h4] at this
  exact this
theorem es_KL_w {own ix : Nat} {v : Int} (h : (es_KL.any fun q => Nat.beq q.1 own && Nat.beq q.2.1 ix && decide (q.2.2.1 = v)) = true) : Cond.constant (es_cn own) ix (Int32.ofInt v) ∈ es_WT := by
  obtain ⟨q, hq, h⟩ := es_any h
  simp only [Bool.and_eq_true, Nat.beq_eq, decide_eq_true_eq] at h
  obtain ⟨⟨h1, h2⟩, h3⟩ := h
  have := es_WT_at (List.all_eq_true.mp es_KL_ok q hq)
  rw [h1, h2, h3] at this
  exact this
theorem es_KJ_w {own ix : Nat} {v : Int} (h : (es_KJ.any fun q => Nat.beq q.1 own && Nat.beq q.2.1 ix && decide (q.2.2.1 = v)) = true) : Cond.constantLong (es_cn own) ix (Int64.ofInt v) ∈ es_WT := by
  obtain ⟨q, hq, h⟩ := es_any h
  simp only [Bool.and_eq_true, Nat.beq_eq, decide_eq_true_eq] at h
  obtain ⟨⟨h1, h2⟩, h3⟩ := h
  have := es_WT_at (List.all_eq_true.mp es_KJ_ok q hq)
  rw [h1, h2, h3] at this
  exact this
theorem es_ML_w {own ix id : Nat} (h : (es_ML.any fun q => Nat.beq q.1 own && Nat.beq q.2.1 ix && Nat.beq q.2.2.1 id) = true) : Cond.methodLink (es_cn own) ix (es_my id) ∈ es_WT := by
  obtain ⟨q, hq, h⟩ := es_any h
  simp only [Bool.and_eq_true, Nat.beq_eq] at h
  obtain ⟨⟨h1, h2⟩, h3⟩ := h
  have := es_WT_at (List.all_eq_true.mp es_ML_ok q hq)
  rw [h1, h2, h3] at this
  exact this
theorem es_MN_w {own ix id : Nat} (h : (es_MN.any fun q => Nat.beq q.1 own && Nat.beq q.2.1 ix && Nat.beq q.2.2.1 id) = true) : Cond.methodLinkNest (es_cn own) ix (es_my id) "EveryStreet" ∈ es_NW := by
  obtain ⟨q, hq, h⟩ := es_any h
  simp only [Bool.and_eq_true, Nat.beq_eq] at h
  obtain ⟨⟨h1, h2⟩, h3⟩ := h
  have := List.mem_map_of_mem (f := fun q : Nat × Nat × Nat × Nat => Cond.methodLinkNest (es_cn q.1) q.2.1 (es_my q.2.2.1) "EveryStreet") hq
  rw [h1, h2, h3] at this
  exact this
theorem es_AC_w {own ix : Nat} (h : (es_AC.any fun q => Nat.beq q.1 own && Nat.beq q.2.1 ix) = true) : Cond.methodLink (es_cn own) ix arraycopyName ∈ es_WT := by
  obtain ⟨q, hq, h⟩ := es_any h
  simp only [Bool.and_eq_true, Nat.beq_eq] at h
  have := es_WT_at (List.all_eq_true.mp es_AC_ok q hq)
  rw [h.1, h.2] at this
  exact this
theorem es_Mmin_w {own ix : Nat} (h : (es_Mmin.any fun q => Nat.beq q.1 own && Nat.beq q.2.1 ix) = true) : Cond.methodLink (es_cn own) ix Lib.Math.min.name ∈ es_WT := by
  obtain ⟨q, hq, h⟩ := es_any h
  simp only [Bool.and_eq_true, Nat.beq_eq] at h
  have := es_WT_at (List.all_eq_true.mp es_Mmin_ok q hq)
  rw [h.1, h.2] at this
  exact this
theorem es_Mmax_w {own ix : Nat} (h : (es_Mmax.any fun q => Nat.beq q.1 own && Nat.beq q.2.1 ix) = true) : Cond.methodLink (es_cn own) ix Lib.Math.max.name ∈ es_WT := by
  obtain ⟨q, hq, h⟩ := es_any h
  simp only [Bool.and_eq_true, Nat.beq_eq] at h
  have := es_WT_at (List.all_eq_true.mp es_Mmax_ok q hq)
  rw [h.1, h.2] at this
  exact this
theorem es_my_of {id : Nat} {q : es_I} (h : es_mi[id]? = some q) : es_my id = q.1 := by unfold es_my; rw [h]
theorem es_WT_good {w : Cond} (h : w ∈ es_WT) : (w.onTables && w.keeps) = true ∨ ∃ ty, w = .arrayClass ty := good_of_word (List.mem_filter.mp h).2
theorem es_GoodIn : GoodIn es_WT es_WT := fun w h => ⟨h, es_WT_good h⟩
theorem es_GoodM {q : es_I} (h : q ∈ es_mi) : GoodIn es_WT (es_wsM q) := by
  intro w hw
  rcases List.mem_cons.mp hw with rfl | hw
  · exact ⟨es_mw q h, es_WT_good (es_mw q h)⟩
  · exact ⟨hw, es_WT_good hw⟩
/-- of a method: its words -/
theorem es_mfacts {id : Nat} {q : es_I} (h : es_mi[id]? = some q) : Cond.code q.1 q.2.1 q.2.2.1 q.2.2.2.1 ∈ es_WT ∧ Cond.initialized q.1.cls ∈ es_WT ∧ plainName q.1.cls = true ∧ q.1.cls ≠ "java/lang/invoke/MethodHandle" ∧ q.1.cls ≠ "java/lang/invoke/VarHandle" ∧
    (parseMethodDescriptor q.1.desc).map (fun d => d.parameters.length) = some q.2.2.2.2.1 ∧ q.2.2.1 ≤ 40 ∧ (q.2.2.2.2.2.1 = 0 → Cond.instanceMethod q.1 ∈ es_WT ∧ Cond.selects q.1.cls q.1 q.1 ∈ es_WT) ∧ (q.2.2.2.2.2.1 = 1 → Cond.static q.1 ∈ es_WT) := by
  have hm := List.mem_of_getElem? h
  have hk := es_mk q hm
  simp only [es_mchk, Bool.and_eq_true, decide_eq_true_eq] at hk
  obtain ⟨⟨⟨⟨⟨⟨h1, h2⟩, h3⟩, h4⟩, h5⟩, h6⟩, h7⟩ := hk
  refine ⟨es_mw q hm, es_WT_at h2, h3, h4, h5, h6, Nat.le_of_ble_eq_true h7, fun z => ?_, fun z => ?_⟩
  · rw [z] at h1
    simp only [Bool.and_eq_true] at h1
    exact ⟨es_WT_at h1.1, es_WT_at h1.2⟩
  · rw [z] at h1
    exact es_WT_at h1
/-- of a class: its words, its fields' types, their names apart -/
theorem es_cfacts {ci : Nat} (h : ci < 13) : es_cl[ci]? = some (es_cn ci, es_T ci, es_nf ci) ∧ (∀ w ∈ u_ws (es_cn ci) (es_T ci) (es_nf ci), w ∈ es_WT) ∧ (∀ k, k < es_nf ci → parseFieldDescriptor (es_T ci k).2.2.1 = some (es_ty ci k)) ∧
    ∀ a, a < es_nf ci → ∀ b, b < es_nf ci → a ≠ b → (es_T ci a).2.1 ≠ (es_T ci b).2.1 := by
  have h1 := List.all_eq_true.mp es_pl_ok ci (List.mem_range.mpr h)
  have h2 := List.all_eq_true.mp es_nd_ok ci (List.mem_range.mpr h)
  simp only [Bool.and_eq_true, decide_eq_true_eq] at h1
  refine ⟨?_, ?_, ?_, ?_⟩
  · rw [es_cl_ok, List.getElem?_map, List.getElem?_range h]
    rfl
  · intro w hw
    obtain ⟨k, hk, rfl⟩ := List.mem_map.mp hw
    have := List.all_eq_true.mp h1.2 k hk
    simp only [Bool.and_eq_true, decide_eq_true_eq] at this
    exact es_WT_at this.1
  · intro k hk
    have := List.all_eq_true.mp h1.2 k (List.mem_range.mpr hk)
    simp only [Bool.and_eq_true, decide_eq_true_eq] at this
    exact this.2
  · intro a ha b hb hab
    have := List.all_eq_true.mp (List.all_eq_true.mp h2 a (List.mem_range.mpr ha)) b (List.mem_range.mpr hb)
    simp only [Bool.or_eq_true, decide_eq_true_eq] at this
    rcases this with q | q
    · exact absurd q hab
    · exact q
theorem es_ofacts {k ci : Nat} {fl : List Nat} (h : es_layL[k]? = some (.inr (.inl (ci, fl)))) : ci < 13 ∧ fl.length = es_nf ci ∧ ∀ j, j < fl.length → (fl[j]? = some 0 → es_ty ci j = .int) ∧ (fl[j]? = some 1 → es_ty ci j = .boolean) := by
  have := List.all_eq_true.mp es_lay_ok _ (List.mem_of_getElem? h)
  simp only [Bool.and_eq_true] at this
  obtain ⟨⟨h1, h2⟩, h3⟩ := this
  refine ⟨by simpa [Nat.blt_eq] using h1, Nat.eq_of_beq_eq_true h2, fun j hj => ⟨fun e => ?_, fun e => ?_⟩⟩
  · have := List.all_eq_true.mp h3 j (List.mem_range.mpr hj)
    rw [List.getD_eq_getElem?_getD, e] at this
    simpa using this
  · have := List.all_eq_true.mp h3 j (List.mem_range.mpr hj)
    rw [List.getD_eq_getElem?_getD, e] at this
    simpa using this
theorem es_afacts {k : Nat} {ty : FieldType} {n : Int} (h : es_layL[k]? = some (.inl (ty, n))) : 0 ≤ n ∧ n < 1000000 ∧ (ty = .int ∨ ty = .boolean ∨ ty = .long) := by
  have := List.all_eq_true.mp es_lay_ok _ (List.mem_of_getElem? h)
  simp only [Bool.and_eq_true, Bool.or_eq_true, decide_eq_true_eq] at this
  exact ⟨this.1.1, this.1.2, by rcases this.2 with (a | a) | a <;> simp [a]⟩
