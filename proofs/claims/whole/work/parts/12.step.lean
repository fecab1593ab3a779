/-! ONE STEP IS SOUND, instruction by instruction -/
def es_rt (ret : Option FieldType) (i : Instr) (sv : List AV) (v : Int) : Prop := (i = .ireturn ∧ sv = [.inl v] ∧ (ret = some .int ∨ (ret = some .boolean ∧ (v = 0 ∨ v = 1)))) ∨ (i = .lreturn ∧ sv = [.inr (.inl v)] ∧ ret = some .long) ∨ (i = .return_ ∧ sv = [] ∧ v = 0 ∧ ret = none)
section
variable {p : Program} {l : Launch} {e : Env} {R : Room} {s : State} {m : MethodId} {args : Array Value} {below : List Frame} {meth : Method} {c : Code} {D : va_G} {ad : Nat → Nat} {cA : Nat → ClassId} {A : Nat → Prop} {nL : Nat} {m0 : Int → Int} {cells slots : Nat} {Qf : State → Prop} {cc : ByteArray} {own d : Nat} {S : Option Int}
variable {ret : Option FieldType} {Q : Int → es_M → Prop} {K : Nat → es_L → List AV → es_M → Prop} {pc : Nat} {L : es_L} {st : List AV} {M : es_M} {len : Nat} {x : es_X}
theorem es_s_iconst {v : Int} (C : es_Ctx p R s m args meth c D ad cA A nL m0 cells slots cc own d S) (hK : ∀ pc L st M, K pc L st M → es_G p l e R s m args below meth c D ad cA A nL m0 cells slots Qf pc L st M) (hd : decode cc pc = .ok (.iconst v, len)) (hx : es_xok own pc (.iconst v) len x = true) (h : es_step (es_lay S) 140 (es_Call d) ret Q K pc L st M (.iconst v) len x) : es_G p l e R s m args below meth c D ad cA A nL m0 cells slots Qf pc L st M := by
  obtain ⟨hex, hb, hml, hown, hts, hU, hinj, hA, hSc, hR⟩ := C
  intro H locs ls hL hst hM hm hP hS
  simp only [es_xok, Bool.and_eq_true, Nat.beq_eq, decide_eq_true_eq] at hx
  obtain ⟨rfl, h1⟩ := hx
  exact lv_iconst (v := Int32.ofInt v) hex hb hd rfl (hK _ _ _ _ h H locs ls hL (es_okc (by constructor <;> omega) hst) hM hm hP hS)
theorem es_s_bipush {v : Int} (C : es_Ctx p R s m args meth c D ad cA A nL m0 cells slots cc own d S) (hK : ∀ pc L st M, K pc L st M → es_G p l e R s m args below meth c D ad cA A nL m0 cells slots Qf pc L st M) (hd : decode cc pc = .ok (.bipush v, len)) (hx : es_xok own pc (.bipush v) len x = true) (h : es_step (es_lay S) 140 (es_Call d) ret Q K pc L st M (.bipush v) len x) : es_G p l e R s m args below meth c D ad cA A nL m0 cells slots Qf pc L st M := by
  obtain ⟨hex, hb, hml, hown, hts, hU, hinj, hA, hSc, hR⟩ := C
  intro H locs ls hL hst hM hm hP hS
  simp only [es_xok, Bool.and_eq_true, Nat.beq_eq, decide_eq_true_eq] at hx
  obtain ⟨rfl, h1⟩ := hx
  exact lv_bipush (v := Int32.ofInt v) hex hb hd (es_b8 h1) (hK _ _ _ _ h H locs ls hL (es_okc (by constructor <;> omega) hst) hM hm hP hS)
theorem es_s_sipush {v : Int} (C : es_Ctx p R s m args meth c D ad cA A nL m0 cells slots cc own d S) (hK : ∀ pc L st M, K pc L st M → es_G p l e R s m args below meth c D ad cA A nL m0 cells slots Qf pc L st M) (hd : decode cc pc = .ok (.sipush v, len)) (hx : es_xok own pc (.sipush v) len x = true) (h : es_step (es_lay S) 140 (es_Call d) ret Q K pc L st M (.sipush v) len x) : es_G p l e R s m args below meth c D ad cA A nL m0 cells slots Qf pc L st M := by
  obtain ⟨hex, hb, hml, hown, hts, hU, hinj, hA, hSc, hR⟩ := C
  intro H locs ls hL hst hM hm hP hS
  simp only [es_xok, Bool.and_eq_true, Nat.beq_eq, decide_eq_true_eq] at hx
  obtain ⟨rfl, h1⟩ := hx
  exact lv_sipush (v := Int32.ofInt v) hex hb hd (es_b16 h1) (hK _ _ _ _ h H locs ls hL (es_okc (by constructor <;> omega) hst) hM hm hP hS)
theorem es_s_ldc {ix : Nat} (C : es_Ctx p R s m args meth c D ad cA A nL m0 cells slots cc own d S) (hK : ∀ pc L st M, K pc L st M → es_G p l e R s m args below meth c D ad cA A nL m0 cells slots Qf pc L st M) (hd : decode cc pc = .ok (.ldc ix, len)) (hx : es_xok own pc (.ldc ix) len x = true) (h : es_step (es_lay S) 140 (es_Call d) ret Q K pc L st M (.ldc ix) len x) : es_G p l e R s m args below meth c D ad cA A nL m0 cells slots Qf pc L st M := by
  obtain ⟨hex, hb, hml, hown, hts, hU, hinj, hA, hSc, hR⟩ := C
  intro H locs ls hL hst hM hm hP hS
  simp only [es_xok, Bool.and_eq_true, decide_eq_true_eq] at hx
  obtain ⟨⟨h0, h1⟩, h2⟩ := hx
  have h0 := Nat.eq_of_beq_eq_true h0
  subst h0
  exact lv_ldc (v := Int32.ofInt x.2.2.2) hex hb hown (hts _ (es_KL_w h2)) hd (hK _ _ _ _ h H locs ls hL (es_okc h1 hst) hM hm hP hS)
theorem es_s_ldc_w {ix : Nat} (C : es_Ctx p R s m args meth c D ad cA A nL m0 cells slots cc own d S) (hK : ∀ pc L st M, K pc L st M → es_G p l e R s m args below meth c D ad cA A nL m0 cells slots Qf pc L st M) (hd : decode cc pc = .ok (.ldc_w ix, len)) (hx : es_xok own pc (.ldc_w ix) len x = true) (h : es_step (es_lay S) 140 (es_Call d) ret Q K pc L st M (.ldc_w ix) len x) : es_G p l e R s m args below meth c D ad cA A nL m0 cells slots Qf pc L st M := by
  obtain ⟨hex, hb, hml, hown, hts, hU, hinj, hA, hSc, hR⟩ := C
  intro H locs ls hL hst hM hm hP hS
  simp only [es_xok, Bool.and_eq_true, decide_eq_true_eq] at hx
  obtain ⟨⟨h0, h1⟩, h2⟩ := hx
  have h0 := Nat.eq_of_beq_eq_true h0
  subst h0
  exact lv_ldcw (v := Int32.ofInt x.2.2.2) hex hb hown (hts _ (es_KL_w h2)) hd (hK _ _ _ _ h H locs ls hL (es_okc h1 hst) hM hm hP hS)
theorem es_s_ldc2_w {ix : Nat} (C : es_Ctx p R s m args meth c D ad cA A nL m0 cells slots cc own d S) (hK : ∀ pc L st M, K pc L st M → es_G p l e R s m args below meth c D ad cA A nL m0 cells slots Qf pc L st M) (hd : decode cc pc = .ok (.ldc2_w ix, len)) (hx : es_xok own pc (.ldc2_w ix) len x = true) (h : es_step (es_lay S) 140 (es_Call d) ret Q K pc L st M (.ldc2_w ix) len x) : es_G p l e R s m args below meth c D ad cA A nL m0 cells slots Qf pc L st M := by
  obtain ⟨hex, hb, hml, hown, hts, hU, hinj, hA, hSc, hR⟩ := C
  intro H locs ls hL hst hM hm hP hS
  simp only [es_xok, Bool.and_eq_true, decide_eq_true_eq] at hx
  obtain ⟨⟨h0, h1⟩, h2⟩ := hx
  have h0 := Nat.eq_of_beq_eq_true h0
  subst h0
  exact lv_ldc2 (v := Int64.ofInt x.2.2.2) hex hb hown (hts _ (es_KJ_w h2)) hd (hK _ _ _ _ h H locs ls hL (es_okc (by constructor <;> omega) hst) hM hm hP hS)
theorem es_s_lconst {n : Fin 2} (C : es_Ctx p R s m args meth c D ad cA A nL m0 cells slots cc own d S) (hK : ∀ pc L st M, K pc L st M → es_G p l e R s m args below meth c D ad cA A nL m0 cells slots Qf pc L st M) (hd : decode cc pc = .ok (.lconst n, len)) (hx : es_xok own pc (.lconst n) len x = true) (h : es_step (es_lay S) 140 (es_Call d) ret Q K pc L st M (.lconst n) len x) : es_G p l e R s m args below meth c D ad cA A nL m0 cells slots Qf pc L st M := by
  obtain ⟨hex, hb, hml, hown, hts, hU, hinj, hA, hSc, hR⟩ := C
  intro H locs ls hL hst hM hm hP hS
  have hl : len = 1 := (Nat.eq_of_beq_eq_true hx).symm
  subst hl
  exact lv_lconst (v := Int64.ofInt (n.val : Int)) hex hb hd rfl (hK _ _ _ _ h H locs ls hL (es_okc (by constructor <;> omega) hst) hM hm hP hS)
theorem es_s_iload {n : Nat} (C : es_Ctx p R s m args meth c D ad cA A nL m0 cells slots cc own d S) (hK : ∀ pc L st M, K pc L st M → es_G p l e R s m args below meth c D ad cA A nL m0 cells slots Qf pc L st M) (hd : decode cc pc = .ok (.iload n, len)) (hx : es_xok own pc (.iload n) len x = true) (h : es_step (es_lay S) 140 (es_Call d) ret Q K pc L st M (.iload n) len x) : es_G p l e R s m args below meth c D ad cA A nL m0 cells slots Qf pc L st M := by
  obtain ⟨hex, hb, hml, hown, hts, hU, hinj, hA, hSc, hR⟩ := C
  intro H locs ls hL hst hM hm hP hS
  have hl : len = 2 := (Nat.eq_of_beq_eq_true hx).symm
  subst hl
  simp only [es_step] at h
  split at h
  · rename_i v hv
    obtain ⟨h1, h2⟩ := hL.2.2.2 _ _ hv
    exact lv_iload hex hb hd h1 (hK _ _ _ _ h H locs ls hL (es_okc h2 hst) hM hm hP hS)
  · exact h.elim
theorem es_s_iload_n {n : Fin 4} (C : es_Ctx p R s m args meth c D ad cA A nL m0 cells slots cc own d S) (hK : ∀ pc L st M, K pc L st M → es_G p l e R s m args below meth c D ad cA A nL m0 cells slots Qf pc L st M) (hd : decode cc pc = .ok (.iload_n n, len)) (hx : es_xok own pc (.iload_n n) len x = true) (h : es_step (es_lay S) 140 (es_Call d) ret Q K pc L st M (.iload_n n) len x) : es_G p l e R s m args below meth c D ad cA A nL m0 cells slots Qf pc L st M := by
  obtain ⟨hex, hb, hml, hown, hts, hU, hinj, hA, hSc, hR⟩ := C
  intro H locs ls hL hst hM hm hP hS
  have hl : len = 1 := (Nat.eq_of_beq_eq_true hx).symm
  subst hl
  simp only [es_step] at h
  split at h
  · rename_i v hv
    obtain ⟨h1, h2⟩ := hL.2.2.2 _ _ hv
    exact lv_iload_n hex hb hd rfl h1 (hK _ _ _ _ h H locs ls hL (es_okc h2 hst) hM hm hP hS)
  · exact h.elim
theorem es_s_lload {n : Nat} (C : es_Ctx p R s m args meth c D ad cA A nL m0 cells slots cc own d S) (hK : ∀ pc L st M, K pc L st M → es_G p l e R s m args below meth c D ad cA A nL m0 cells slots Qf pc L st M) (hd : decode cc pc = .ok (.lload n, len)) (hx : es_xok own pc (.lload n) len x = true) (h : es_step (es_lay S) 140 (es_Call d) ret Q K pc L st M (.lload n) len x) : es_G p l e R s m args below meth c D ad cA A nL m0 cells slots Qf pc L st M := by
  obtain ⟨hex, hb, hml, hown, hts, hU, hinj, hA, hSc, hR⟩ := C
  intro H locs ls hL hst hM hm hP hS
  have hl : len = 2 := (Nat.eq_of_beq_eq_true hx).symm
  subst hl
  simp only [es_step] at h
  split at h
  · rename_i v hv
    obtain ⟨h1, h2⟩ := hL.2.2.2 _ _ hv
    exact lv_lload hex hb hd h1 (hK _ _ _ _ h H locs ls hL (es_okc h2 hst) hM hm hP hS)
  · exact h.elim
theorem es_s_lload_n {n : Fin 4} (C : es_Ctx p R s m args meth c D ad cA A nL m0 cells slots cc own d S) (hK : ∀ pc L st M, K pc L st M → es_G p l e R s m args below meth c D ad cA A nL m0 cells slots Qf pc L st M) (hd : decode cc pc = .ok (.lload_n n, len)) (hx : es_xok own pc (.lload_n n) len x = true) (h : es_step (es_lay S) 140 (es_Call d) ret Q K pc L st M (.lload_n n) len x) : es_G p l e R s m args below meth c D ad cA A nL m0 cells slots Qf pc L st M := by
  obtain ⟨hex, hb, hml, hown, hts, hU, hinj, hA, hSc, hR⟩ := C
  intro H locs ls hL hst hM hm hP hS
  have hl : len = 1 := (Nat.eq_of_beq_eq_true hx).symm
  subst hl
  simp only [es_step] at h
  split at h
  · rename_i v hv
    obtain ⟨h1, h2⟩ := hL.2.2.2 _ _ hv
    exact lv_lload_n hex hb hd rfl h1 (hK _ _ _ _ h H locs ls hL (es_okc h2 hst) hM hm hP hS)
  · exact h.elim
theorem es_s_aload {n : Nat} (C : es_Ctx p R s m args meth c D ad cA A nL m0 cells slots cc own d S) (hK : ∀ pc L st M, K pc L st M → es_G p l e R s m args below meth c D ad cA A nL m0 cells slots Qf pc L st M) (hd : decode cc pc = .ok (.aload n, len)) (hx : es_xok own pc (.aload n) len x = true) (h : es_step (es_lay S) 140 (es_Call d) ret Q K pc L st M (.aload n) len x) : es_G p l e R s m args below meth c D ad cA A nL m0 cells slots Qf pc L st M := by
  obtain ⟨hex, hb, hml, hown, hts, hU, hinj, hA, hSc, hR⟩ := C
  intro H locs ls hL hst hM hm hP hS
  have hl : len = 2 := (Nat.eq_of_beq_eq_true hx).symm
  subst hl
  simp only [es_step] at h
  split at h
  · rename_i v hv
    obtain ⟨h1, h2⟩ := hL.2.2.2 _ _ hv
    exact lv_aload hex hb hd h1 (hK _ _ _ _ h H locs ls hL (es_okc h2 hst) hM hm hP hS)
  · exact h.elim
theorem es_s_aload_n {n : Fin 4} (C : es_Ctx p R s m args meth c D ad cA A nL m0 cells slots cc own d S) (hK : ∀ pc L st M, K pc L st M → es_G p l e R s m args below meth c D ad cA A nL m0 cells slots Qf pc L st M) (hd : decode cc pc = .ok (.aload_n n, len)) (hx : es_xok own pc (.aload_n n) len x = true) (h : es_step (es_lay S) 140 (es_Call d) ret Q K pc L st M (.aload_n n) len x) : es_G p l e R s m args below meth c D ad cA A nL m0 cells slots Qf pc L st M := by
  obtain ⟨hex, hb, hml, hown, hts, hU, hinj, hA, hSc, hR⟩ := C
  intro H locs ls hL hst hM hm hP hS
  have hl : len = 1 := (Nat.eq_of_beq_eq_true hx).symm
  subst hl
  simp only [es_step] at h
  split at h
  · rename_i v hv
    obtain ⟨h1, h2⟩ := hL.2.2.2 _ _ hv
    exact lv_aload_n hex hb hd rfl h1 (hK _ _ _ _ h H locs ls hL (es_okc h2 hst) hM hm hP hS)
  · exact h.elim
theorem es_s_istore {n : Nat} (C : es_Ctx p R s m args meth c D ad cA A nL m0 cells slots cc own d S) (hK : ∀ pc L st M, K pc L st M → es_G p l e R s m args below meth c D ad cA A nL m0 cells slots Qf pc L st M) (hd : decode cc pc = .ok (.istore n, len)) (hx : es_xok own pc (.istore n) len x = true) (h : es_step (es_lay S) 140 (es_Call d) ret Q K pc L st M (.istore n) len x) : es_G p l e R s m args below meth c D ad cA A nL m0 cells slots Qf pc L st M := by
  obtain ⟨hex, hb, hml, hown, hts, hU, hinj, hA, hSc, hR⟩ := C
  intro H locs ls hL hst hM hm hP hS
  have hl : len = 2 := (Nat.eq_of_beq_eq_true hx).symm
  subst hl
  simp only [es_step] at h
  split at h
  · rename_i v r
    cases hc : (Nat.blt n L.length && es_nolong L n) with
    | false => rw [hc] at h; exact h.elim
    | true =>
      rw [hc] at h
      simp only [Bool.and_eq_true] at hc
      obtain ⟨o1, o2⟩ := es_ok1 hst
      have hlt : n < nL := by rw [← hL.1]; simpa [Nat.blt_eq] using hc.1
      exact lv_istore hex hb hd hL.has hlt rfl (fun ls' hl' => hK _ _ _ _ h H locs ls' (es_LR.put1 (v := .inl v) hL.1 (fun i w hw => (hL.2.2.2 i w hw).2) hc.2 o1 hl') o2 hM hm hP hS)
  · exact h.elim
theorem es_s_istore_n {n : Fin 4} (C : es_Ctx p R s m args meth c D ad cA A nL m0 cells slots cc own d S) (hK : ∀ pc L st M, K pc L st M → es_G p l e R s m args below meth c D ad cA A nL m0 cells slots Qf pc L st M) (hd : decode cc pc = .ok (.istore_n n, len)) (hx : es_xok own pc (.istore_n n) len x = true) (h : es_step (es_lay S) 140 (es_Call d) ret Q K pc L st M (.istore_n n) len x) : es_G p l e R s m args below meth c D ad cA A nL m0 cells slots Qf pc L st M := by
  obtain ⟨hex, hb, hml, hown, hts, hU, hinj, hA, hSc, hR⟩ := C
  intro H locs ls hL hst hM hm hP hS
  have hl : len = 1 := (Nat.eq_of_beq_eq_true hx).symm
  subst hl
  simp only [es_step] at h
  split at h
  · rename_i v r
    cases hc : (Nat.blt n.val L.length && es_nolong L n.val) with
    | false => rw [hc] at h; exact h.elim
    | true =>
      rw [hc] at h
      simp only [Bool.and_eq_true] at hc
      obtain ⟨o1, o2⟩ := es_ok1 hst
      have hlt : n.val < nL := by rw [← hL.1]; simpa [Nat.blt_eq] using hc.1
      exact lv_istore_n hex hb hd rfl hL.has hlt rfl (fun ls' hl' => hK _ _ _ _ h H locs ls' (es_LR.put1 (v := .inl v) hL.1 (fun i w hw => (hL.2.2.2 i w hw).2) hc.2 o1 hl') o2 hM hm hP hS)
  · exact h.elim
theorem es_s_lstore {n : Nat} (C : es_Ctx p R s m args meth c D ad cA A nL m0 cells slots cc own d S) (hK : ∀ pc L st M, K pc L st M → es_G p l e R s m args below meth c D ad cA A nL m0 cells slots Qf pc L st M) (hd : decode cc pc = .ok (.lstore n, len)) (hx : es_xok own pc (.lstore n) len x = true) (h : es_step (es_lay S) 140 (es_Call d) ret Q K pc L st M (.lstore n) len x) : es_G p l e R s m args below meth c D ad cA A nL m0 cells slots Qf pc L st M := by
  obtain ⟨hex, hb, hml, hown, hts, hU, hinj, hA, hSc, hR⟩ := C
  intro H locs ls hL hst hM hm hP hS
  have hl : len = 2 := (Nat.eq_of_beq_eq_true hx).symm
  subst hl
  simp only [es_step] at h
  split at h
  · rename_i v r
    cases hc : (Nat.blt (n + 1) L.length && es_nolong L n) with
    | false => rw [hc] at h; exact h.elim
    | true =>
      rw [hc] at h
      simp only [Bool.and_eq_true] at hc
      obtain ⟨o1, o2⟩ := es_ok1 hst
      have hlt : n + 1 < nL := by rw [← hL.1]; simpa [Nat.blt_eq] using hc.1
      exact lv_lstore hex hb hd hL.has hlt rfl (fun ls' hl' => hK _ _ _ _ h H locs ls' (es_LR.put2 (v := .inr (.inl v)) hL.1 (fun i w hw => (hL.2.2.2 i w hw).2) hc.2 o1 hl') o2 hM hm hP hS)
  · exact h.elim
theorem es_s_lstore_n {n : Fin 4} (C : es_Ctx p R s m args meth c D ad cA A nL m0 cells slots cc own d S) (hK : ∀ pc L st M, K pc L st M → es_G p l e R s m args below meth c D ad cA A nL m0 cells slots Qf pc L st M) (hd : decode cc pc = .ok (.lstore_n n, len)) (hx : es_xok own pc (.lstore_n n) len x = true) (h : es_step (es_lay S) 140 (es_Call d) ret Q K pc L st M (.lstore_n n) len x) : es_G p l e R s m args below meth c D ad cA A nL m0 cells slots Qf pc L st M := by
  obtain ⟨hex, hb, hml, hown, hts, hU, hinj, hA, hSc, hR⟩ := C
  intro H locs ls hL hst hM hm hP hS
  have hl : len = 1 := (Nat.eq_of_beq_eq_true hx).symm
  subst hl
  simp only [es_step] at h
  split at h
  · rename_i v r
    cases hc : (Nat.blt (n.val + 1) L.length && es_nolong L n.val) with
    | false => rw [hc] at h; exact h.elim
    | true =>
      rw [hc] at h
      simp only [Bool.and_eq_true] at hc
      obtain ⟨o1, o2⟩ := es_ok1 hst
      have hlt : n.val + 1 < nL := by rw [← hL.1]; simpa [Nat.blt_eq] using hc.1
      exact lv_lstore_n hex hb hd rfl hL.has hlt rfl (fun ls' hl' => hK _ _ _ _ h H locs ls' (es_LR.put2 (v := .inr (.inl v)) hL.1 (fun i w hw => (hL.2.2.2 i w hw).2) hc.2 o1 hl') o2 hM hm hP hS)
  · exact h.elim
theorem es_s_iinc {n : Nat} {v : Int} (C : es_Ctx p R s m args meth c D ad cA A nL m0 cells slots cc own d S) (hK : ∀ pc L st M, K pc L st M → es_G p l e R s m args below meth c D ad cA A nL m0 cells slots Qf pc L st M) (hd : decode cc pc = .ok (.iinc n v, len)) (hx : es_xok own pc (.iinc n v) len x = true) (h : es_step (es_lay S) 140 (es_Call d) ret Q K pc L st M (.iinc n v) len x) : es_G p l e R s m args below meth c D ad cA A nL m0 cells slots Qf pc L st M := by
  obtain ⟨hex, hb, hml, hown, hts, hU, hinj, hA, hSc, hR⟩ := C
  intro H locs ls hL hst hM hm hP hS
  have hl : len = 3 := (Nat.eq_of_beq_eq_true hx).symm
  subst hl
  simp only [es_step] at h
  split at h
  · rename_i y hy
    cases hc : (Nat.blt n L.length && es_nolong L n) with
    | false => rw [hc] at h; exact h.elim
    | true =>
      rw [hc] at h
      simp only [Bool.and_eq_true] at hc
      have hlt : n < nL := by rw [← hL.1]; simpa [Nat.blt_eq] using hc.1
      obtain ⟨k, hk⟩ := List.getElem?_of_mem (es_al_mem (ad := ad) hy)
      exact lv_iinc (v := Int32.ofInt (w32 (y + v))) hex hb hd hL.has hk (es_add32 y v).symm hlt rfl (fun ls' hl' => hK _ _ _ _ h H locs ls' (es_LR.put1 (v := .inl (w32 (y + v))) hL.1 (fun i w hw => (hL.2.2.2 i w hw).2) hc.2 (es_rw32 _) hl') hst hM hm hP hS)
  · exact h.elim
theorem es_s_iadd  (C : es_Ctx p R s m args meth c D ad cA A nL m0 cells slots cc own d S) (hK : ∀ pc L st M, K pc L st M → es_G p l e R s m args below meth c D ad cA A nL m0 cells slots Qf pc L st M) (hd : decode cc pc = .ok (.iadd, len)) (hx : es_xok own pc (.iadd) len x = true) (h : es_step (es_lay S) 140 (es_Call d) ret Q K pc L st M (.iadd) len x) : es_G p l e R s m args below meth c D ad cA A nL m0 cells slots Qf pc L st M := by
  obtain ⟨hex, hb, hml, hown, hts, hU, hinj, hA, hSc, hR⟩ := C
  intro H locs ls hL hst hM hm hP hS
  have hl : len = 1 := (Nat.eq_of_beq_eq_true hx).symm
  subst hl
  simp only [es_step] at h
  split at h
  · rename_i b a r
    obtain ⟨o1, o2⟩ := es_ok1 hst
    obtain ⟨o2, o3⟩ := es_ok1 o2
    have k := hK _ _ _ _ h H locs ls hL (es_okc (es_rw32 _ : es_r32 (w32 (a + b))) o3) hM hm hP hS
    simp only [List.map_cons, es_V] at k ⊢
    rw [show Int32.ofInt (w32 (a + b)) = _ from es_add32 a b] at k
    exact lv_iadd hex hb hd k
  · exact h.elim
theorem es_s_isub  (C : es_Ctx p R s m args meth c D ad cA A nL m0 cells slots cc own d S) (hK : ∀ pc L st M, K pc L st M → es_G p l e R s m args below meth c D ad cA A nL m0 cells slots Qf pc L st M) (hd : decode cc pc = .ok (.isub, len)) (hx : es_xok own pc (.isub) len x = true) (h : es_step (es_lay S) 140 (es_Call d) ret Q K pc L st M (.isub) len x) : es_G p l e R s m args below meth c D ad cA A nL m0 cells slots Qf pc L st M := by
  obtain ⟨hex, hb, hml, hown, hts, hU, hinj, hA, hSc, hR⟩ := C
  intro H locs ls hL hst hM hm hP hS
  have hl : len = 1 := (Nat.eq_of_beq_eq_true hx).symm
  subst hl
  simp only [es_step] at h
  split at h
  · rename_i b a r
    obtain ⟨o1, o2⟩ := es_ok1 hst
    obtain ⟨o2, o3⟩ := es_ok1 o2
    have k := hK _ _ _ _ h H locs ls hL (es_okc (es_rw32 _ : es_r32 (w32 (a - b))) o3) hM hm hP hS
    simp only [List.map_cons, es_V] at k ⊢
    rw [show Int32.ofInt (w32 (a - b)) = _ from es_sub32 a b] at k
    exact lv_isub hex hb hd k
  · exact h.elim
theorem es_s_imul  (C : es_Ctx p R s m args meth c D ad cA A nL m0 cells slots cc own d S) (hK : ∀ pc L st M, K pc L st M → es_G p l e R s m args below meth c D ad cA A nL m0 cells slots Qf pc L st M) (hd : decode cc pc = .ok (.imul, len)) (hx : es_xok own pc (.imul) len x = true) (h : es_step (es_lay S) 140 (es_Call d) ret Q K pc L st M (.imul) len x) : es_G p l e R s m args below meth c D ad cA A nL m0 cells slots Qf pc L st M := by
  obtain ⟨hex, hb, hml, hown, hts, hU, hinj, hA, hSc, hR⟩ := C
  intro H locs ls hL hst hM hm hP hS
  have hl : len = 1 := (Nat.eq_of_beq_eq_true hx).symm
  subst hl
  simp only [es_step] at h
  split at h
  · rename_i b a r
    obtain ⟨o1, o2⟩ := es_ok1 hst
    obtain ⟨o2, o3⟩ := es_ok1 o2
    have k := hK _ _ _ _ h H locs ls hL (es_okc (es_rw32 _ : es_r32 (w32 (a * b))) o3) hM hm hP hS
    simp only [List.map_cons, es_V] at k ⊢
    rw [show Int32.ofInt (w32 (a * b)) = _ from es_mul32 a b] at k
    exact lv_imul hex hb hd k
  · exact h.elim
theorem es_s_iand  (C : es_Ctx p R s m args meth c D ad cA A nL m0 cells slots cc own d S) (hK : ∀ pc L st M, K pc L st M → es_G p l e R s m args below meth c D ad cA A nL m0 cells slots Qf pc L st M) (hd : decode cc pc = .ok (.iand, len)) (hx : es_xok own pc (.iand) len x = true) (h : es_step (es_lay S) 140 (es_Call d) ret Q K pc L st M (.iand) len x) : es_G p l e R s m args below meth c D ad cA A nL m0 cells slots Qf pc L st M := by
  obtain ⟨hex, hb, hml, hown, hts, hU, hinj, hA, hSc, hR⟩ := C
  intro H locs ls hL hst hM hm hP hS
  have hl : len = 1 := (Nat.eq_of_beq_eq_true hx).symm
  subst hl
  simp only [es_step] at h
  split at h
  · rename_i b a r
    obtain ⟨o1, o2⟩ := es_ok1 hst
    obtain ⟨o2, o3⟩ := es_ok1 o2
    have k := hK _ _ _ _ h H locs ls hL (es_okc (es_rt32 _ : es_r32 (es_and a b)) o3) hM hm hP hS
    simp only [List.map_cons, es_V] at k ⊢
    rw [show Int32.ofInt (es_and a b) = _ from es_o32 _] at k
    exact lv_iand hex hb hd k
  · exact h.elim
theorem es_s_ior  (C : es_Ctx p R s m args meth c D ad cA A nL m0 cells slots cc own d S) (hK : ∀ pc L st M, K pc L st M → es_G p l e R s m args below meth c D ad cA A nL m0 cells slots Qf pc L st M) (hd : decode cc pc = .ok (.ior, len)) (hx : es_xok own pc (.ior) len x = true) (h : es_step (es_lay S) 140 (es_Call d) ret Q K pc L st M (.ior) len x) : es_G p l e R s m args below meth c D ad cA A nL m0 cells slots Qf pc L st M := by
  obtain ⟨hex, hb, hml, hown, hts, hU, hinj, hA, hSc, hR⟩ := C
  intro H locs ls hL hst hM hm hP hS
  have hl : len = 1 := (Nat.eq_of_beq_eq_true hx).symm
  subst hl
  simp only [es_step] at h
  split at h
  · rename_i b a r
    obtain ⟨o1, o2⟩ := es_ok1 hst
    obtain ⟨o2, o3⟩ := es_ok1 o2
    have k := hK _ _ _ _ h H locs ls hL (es_okc (es_rt32 _ : es_r32 (es_or a b)) o3) hM hm hP hS
    simp only [List.map_cons, es_V] at k ⊢
    rw [show Int32.ofInt (es_or a b) = _ from es_o32 _] at k
    exact lv_ior hex hb hd k
  · exact h.elim
theorem es_s_ixor  (C : es_Ctx p R s m args meth c D ad cA A nL m0 cells slots cc own d S) (hK : ∀ pc L st M, K pc L st M → es_G p l e R s m args below meth c D ad cA A nL m0 cells slots Qf pc L st M) (hd : decode cc pc = .ok (.ixor, len)) (hx : es_xok own pc (.ixor) len x = true) (h : es_step (es_lay S) 140 (es_Call d) ret Q K pc L st M (.ixor) len x) : es_G p l e R s m args below meth c D ad cA A nL m0 cells slots Qf pc L st M := by
  obtain ⟨hex, hb, hml, hown, hts, hU, hinj, hA, hSc, hR⟩ := C
  intro H locs ls hL hst hM hm hP hS
  have hl : len = 1 := (Nat.eq_of_beq_eq_true hx).symm
  subst hl
  simp only [es_step] at h
  split at h
  · rename_i b a r
    obtain ⟨o1, o2⟩ := es_ok1 hst
    obtain ⟨o2, o3⟩ := es_ok1 o2
    have k := hK _ _ _ _ h H locs ls hL (es_okc (es_rt32 _ : es_r32 (es_xor a b)) o3) hM hm hP hS
    simp only [List.map_cons, es_V] at k ⊢
    rw [show Int32.ofInt (es_xor a b) = _ from es_o32 _] at k
    exact lv_ixor hex hb hd k
  · exact h.elim
theorem es_s_ishl  (C : es_Ctx p R s m args meth c D ad cA A nL m0 cells slots cc own d S) (hK : ∀ pc L st M, K pc L st M → es_G p l e R s m args below meth c D ad cA A nL m0 cells slots Qf pc L st M) (hd : decode cc pc = .ok (.ishl, len)) (hx : es_xok own pc (.ishl) len x = true) (h : es_step (es_lay S) 140 (es_Call d) ret Q K pc L st M (.ishl) len x) : es_G p l e R s m args below meth c D ad cA A nL m0 cells slots Qf pc L st M := by
  obtain ⟨hex, hb, hml, hown, hts, hU, hinj, hA, hSc, hR⟩ := C
  intro H locs ls hL hst hM hm hP hS
  have hl : len = 1 := (Nat.eq_of_beq_eq_true hx).symm
  subst hl
  simp only [es_step] at h
  split at h
  · rename_i b a r
    obtain ⟨o1, o2⟩ := es_ok1 hst
    obtain ⟨o2, o3⟩ := es_ok1 o2
    have k := hK _ _ _ _ h H locs ls hL (es_okc (es_rt32 _ : es_r32 (es_shl a b)) o3) hM hm hP hS
    simp only [List.map_cons, es_V] at k ⊢
    rw [show Int32.ofInt (es_shl a b) = _ from es_o32 _] at k
    exact lv_ishl hex hb hd k
  · exact h.elim
theorem es_s_ishr  (C : es_Ctx p R s m args meth c D ad cA A nL m0 cells slots cc own d S) (hK : ∀ pc L st M, K pc L st M → es_G p l e R s m args below meth c D ad cA A nL m0 cells slots Qf pc L st M) (hd : decode cc pc = .ok (.ishr, len)) (hx : es_xok own pc (.ishr) len x = true) (h : es_step (es_lay S) 140 (es_Call d) ret Q K pc L st M (.ishr) len x) : es_G p l e R s m args below meth c D ad cA A nL m0 cells slots Qf pc L st M := by
  obtain ⟨hex, hb, hml, hown, hts, hU, hinj, hA, hSc, hR⟩ := C
  intro H locs ls hL hst hM hm hP hS
  have hl : len = 1 := (Nat.eq_of_beq_eq_true hx).symm
  subst hl
  simp only [es_step] at h
  split at h
  · rename_i b a r
    obtain ⟨o1, o2⟩ := es_ok1 hst
    obtain ⟨o2, o3⟩ := es_ok1 o2
    have k := hK _ _ _ _ h H locs ls hL (es_okc (es_rt32 _ : es_r32 (es_shr a b)) o3) hM hm hP hS
    simp only [List.map_cons, es_V] at k ⊢
    rw [show Int32.ofInt (es_shr a b) = _ from es_o32 _] at k
    exact lv_ishr hex hb hd k
  · exact h.elim
theorem es_s_idiv  (C : es_Ctx p R s m args meth c D ad cA A nL m0 cells slots cc own d S) (hK : ∀ pc L st M, K pc L st M → es_G p l e R s m args below meth c D ad cA A nL m0 cells slots Qf pc L st M) (hd : decode cc pc = .ok (.idiv, len)) (hx : es_xok own pc (.idiv) len x = true) (h : es_step (es_lay S) 140 (es_Call d) ret Q K pc L st M (.idiv) len x) : es_G p l e R s m args below meth c D ad cA A nL m0 cells slots Qf pc L st M := by
  obtain ⟨hex, hb, hml, hown, hts, hU, hinj, hA, hSc, hR⟩ := C
  intro H locs ls hL hst hM hm hP hS
  have hl : len = 1 := (Nat.eq_of_beq_eq_true hx).symm
  subst hl
  simp only [es_step] at h
  split at h
  · rename_i b a r
    obtain ⟨o1, o2⟩ := es_ok1 hst
    obtain ⟨o2, o3⟩ := es_ok1 o2
    have k := hK _ _ _ _ h.2 H locs ls hL (es_okc (es_rt32 _ : es_r32 (es_div a b)) o3) hM hm hP hS
    simp only [List.map_cons, es_V] at k ⊢
    rw [show Int32.ofInt (es_div a b) = _ from es_o32 _] at k
    exact lv_idiv hex hb hd (fun q => h.1 ((es_z32 o1).mp q)) k
  · exact h.elim
theorem es_s_irem  (C : es_Ctx p R s m args meth c D ad cA A nL m0 cells slots cc own d S) (hK : ∀ pc L st M, K pc L st M → es_G p l e R s m args below meth c D ad cA A nL m0 cells slots Qf pc L st M) (hd : decode cc pc = .ok (.irem, len)) (hx : es_xok own pc (.irem) len x = true) (h : es_step (es_lay S) 140 (es_Call d) ret Q K pc L st M (.irem) len x) : es_G p l e R s m args below meth c D ad cA A nL m0 cells slots Qf pc L st M := by
  obtain ⟨hex, hb, hml, hown, hts, hU, hinj, hA, hSc, hR⟩ := C
  intro H locs ls hL hst hM hm hP hS
  have hl : len = 1 := (Nat.eq_of_beq_eq_true hx).symm
  subst hl
  simp only [es_step] at h
  split at h
  · rename_i b a r
    obtain ⟨o1, o2⟩ := es_ok1 hst
    obtain ⟨o2, o3⟩ := es_ok1 o2
    have k := hK _ _ _ _ h.2 H locs ls hL (es_okc (es_rt32 _ : es_r32 (es_rem a b)) o3) hM hm hP hS
    simp only [List.map_cons, es_V] at k ⊢
    rw [show Int32.ofInt (es_rem a b) = _ from es_o32 _] at k
    exact lv_irem hex hb hd (fun q => h.1 ((es_z32 o1).mp q)) k
  · exact h.elim
theorem es_s_iushr  (C : es_Ctx p R s m args meth c D ad cA A nL m0 cells slots cc own d S) (hK : ∀ pc L st M, K pc L st M → es_G p l e R s m args below meth c D ad cA A nL m0 cells slots Qf pc L st M) (hd : decode cc pc = .ok (.iushr, len)) (hx : es_xok own pc (.iushr) len x = true) (h : es_step (es_lay S) 140 (es_Call d) ret Q K pc L st M (.iushr) len x) : es_G p l e R s m args below meth c D ad cA A nL m0 cells slots Qf pc L st M := by
  obtain ⟨hex, hb, hml, hown, hts, hU, hinj, hA, hSc, hR⟩ := C
  intro H locs ls hL hst hM hm hP hS
  have hl : len = 1 := (Nat.eq_of_beq_eq_true hx).symm
  subst hl
  simp only [es_step] at h
  split at h
  · rename_i b a r
    obtain ⟨o1, o2⟩ := es_ok1 hst
    obtain ⟨o2, o3⟩ := es_ok1 o2
    exact lv_iushr (v := Int32.ofInt (es_ushr a b)) hex hb hd (es_o32 _).symm (hK _ _ _ _ h H locs ls hL (es_okc (es_rt32 _ : es_r32 (es_ushr a b)) o3) hM hm hP hS)
  · exact h.elim
theorem es_s_ineg  (C : es_Ctx p R s m args meth c D ad cA A nL m0 cells slots cc own d S) (hK : ∀ pc L st M, K pc L st M → es_G p l e R s m args below meth c D ad cA A nL m0 cells slots Qf pc L st M) (hd : decode cc pc = .ok (.ineg, len)) (hx : es_xok own pc (.ineg) len x = true) (h : es_step (es_lay S) 140 (es_Call d) ret Q K pc L st M (.ineg) len x) : es_G p l e R s m args below meth c D ad cA A nL m0 cells slots Qf pc L st M := by
  obtain ⟨hex, hb, hml, hown, hts, hU, hinj, hA, hSc, hR⟩ := C
  intro H locs ls hL hst hM hm hP hS
  have hl : len = 1 := (Nat.eq_of_beq_eq_true hx).symm
  subst hl
  simp only [es_step] at h
  split at h
  · rename_i a r
    obtain ⟨o1, o2⟩ := es_ok1 hst
    have k := hK _ _ _ _ h H locs ls hL (es_okc (es_rw32 _ : es_r32 (w32 (- a))) o2) hM hm hP hS
    simp only [List.map_cons, es_V] at k ⊢
    rw [es_neg32] at k
    exact lv_ineg hex hb hd k
  · exact h.elim
theorem es_s_i2l  (C : es_Ctx p R s m args meth c D ad cA A nL m0 cells slots cc own d S) (hK : ∀ pc L st M, K pc L st M → es_G p l e R s m args below meth c D ad cA A nL m0 cells slots Qf pc L st M) (hd : decode cc pc = .ok (.i2l, len)) (hx : es_xok own pc (.i2l) len x = true) (h : es_step (es_lay S) 140 (es_Call d) ret Q K pc L st M (.i2l) len x) : es_G p l e R s m args below meth c D ad cA A nL m0 cells slots Qf pc L st M := by
  obtain ⟨hex, hb, hml, hown, hts, hU, hinj, hA, hSc, hR⟩ := C
  intro H locs ls hL hst hM hm hP hS
  have hl : len = 1 := (Nat.eq_of_beq_eq_true hx).symm
  subst hl
  simp only [es_step] at h
  split at h
  · rename_i a r
    obtain ⟨o1, o2⟩ := es_ok1 hst
    exact lv_i2l (v := Int64.ofInt a) hex hb hd (es_i2l o1) (hK _ _ _ _ h H locs ls hL (es_okc (show es_r64 a from ⟨by have := o1.1; omega, by have := o1.2; omega⟩) o2) hM hm hP hS)
  · exact h.elim
theorem es_s_i2b  (C : es_Ctx p R s m args meth c D ad cA A nL m0 cells slots cc own d S) (hK : ∀ pc L st M, K pc L st M → es_G p l e R s m args below meth c D ad cA A nL m0 cells slots Qf pc L st M) (hd : decode cc pc = .ok (.i2b, len)) (hx : es_xok own pc (.i2b) len x = true) (h : es_step (es_lay S) 140 (es_Call d) ret Q K pc L st M (.i2b) len x) : es_G p l e R s m args below meth c D ad cA A nL m0 cells slots Qf pc L st M := by
  obtain ⟨hex, hb, hml, hown, hts, hU, hinj, hA, hSc, hR⟩ := C
  intro H locs ls hL hst hM hm hP hS
  have hl : len = 1 := (Nat.eq_of_beq_eq_true hx).symm
  subst hl
  simp only [es_step] at h
  split at h
  · rename_i a r
    obtain ⟨o1, o2⟩ := es_ok1 hst
    exact lv_i2b (v := Int32.ofInt (es_i2b a)) hex hb hd (es_o32 _).symm (hK _ _ _ _ h H locs ls hL (es_okc (es_rt32 _ : es_r32 (es_i2b a)) o2) hM hm hP hS)
  · exact h.elim
theorem es_s_i2s  (C : es_Ctx p R s m args meth c D ad cA A nL m0 cells slots cc own d S) (hK : ∀ pc L st M, K pc L st M → es_G p l e R s m args below meth c D ad cA A nL m0 cells slots Qf pc L st M) (hd : decode cc pc = .ok (.i2s, len)) (hx : es_xok own pc (.i2s) len x = true) (h : es_step (es_lay S) 140 (es_Call d) ret Q K pc L st M (.i2s) len x) : es_G p l e R s m args below meth c D ad cA A nL m0 cells slots Qf pc L st M := by
  obtain ⟨hex, hb, hml, hown, hts, hU, hinj, hA, hSc, hR⟩ := C
  intro H locs ls hL hst hM hm hP hS
  have hl : len = 1 := (Nat.eq_of_beq_eq_true hx).symm
  subst hl
  simp only [es_step] at h
  split at h
  · rename_i a r
    obtain ⟨o1, o2⟩ := es_ok1 hst
    exact lv_i2s (v := Int32.ofInt (es_i2s a)) hex hb hd (es_o32 _).symm (hK _ _ _ _ h H locs ls hL (es_okc (es_rt32 _ : es_r32 (es_i2s a)) o2) hM hm hP hS)
  · exact h.elim
theorem es_s_lor  (C : es_Ctx p R s m args meth c D ad cA A nL m0 cells slots cc own d S) (hK : ∀ pc L st M, K pc L st M → es_G p l e R s m args below meth c D ad cA A nL m0 cells slots Qf pc L st M) (hd : decode cc pc = .ok (.lor, len)) (hx : es_xok own pc (.lor) len x = true) (h : es_step (es_lay S) 140 (es_Call d) ret Q K pc L st M (.lor) len x) : es_G p l e R s m args below meth c D ad cA A nL m0 cells slots Qf pc L st M := by
  obtain ⟨hex, hb, hml, hown, hts, hU, hinj, hA, hSc, hR⟩ := C
  intro H locs ls hL hst hM hm hP hS
  have hl : len = 1 := (Nat.eq_of_beq_eq_true hx).symm
  subst hl
  simp only [es_step] at h
  split at h
  · rename_i b a r
    obtain ⟨o1, o2⟩ := es_ok1 hst
    obtain ⟨o2, o3⟩ := es_ok1 o2
    have k := hK _ _ _ _ h H locs ls hL (es_okc (show es_ok (.inr (.inl (es_lor a b))) from es_rt64 _) o3) hM hm hP hS
    simp only [List.map_cons, es_V] at k ⊢
    rw [show Int64.ofInt (es_lor a b) = _ from es_o64 _] at k
    exact lv_lor hex hb hd k
  · exact h.elim
theorem es_s_land  (C : es_Ctx p R s m args meth c D ad cA A nL m0 cells slots cc own d S) (hK : ∀ pc L st M, K pc L st M → es_G p l e R s m args below meth c D ad cA A nL m0 cells slots Qf pc L st M) (hd : decode cc pc = .ok (.land, len)) (hx : es_xok own pc (.land) len x = true) (h : es_step (es_lay S) 140 (es_Call d) ret Q K pc L st M (.land) len x) : es_G p l e R s m args below meth c D ad cA A nL m0 cells slots Qf pc L st M := by
  obtain ⟨hex, hb, hml, hown, hts, hU, hinj, hA, hSc, hR⟩ := C
  intro H locs ls hL hst hM hm hP hS
  have hl : len = 1 := (Nat.eq_of_beq_eq_true hx).symm
  subst hl
  simp only [es_step] at h
  split at h
  · rename_i b a r
    obtain ⟨o1, o2⟩ := es_ok1 hst
    obtain ⟨o2, o3⟩ := es_ok1 o2
    have k := hK _ _ _ _ h H locs ls hL (es_okc (show es_ok (.inr (.inl (es_land a b))) from es_rt64 _) o3) hM hm hP hS
    simp only [List.map_cons, es_V] at k ⊢
    rw [show Int64.ofInt (es_land a b) = _ from es_o64 _] at k
    exact lv_land hex hb hd k
  · exact h.elim
theorem es_s_lshl  (C : es_Ctx p R s m args meth c D ad cA A nL m0 cells slots cc own d S) (hK : ∀ pc L st M, K pc L st M → es_G p l e R s m args below meth c D ad cA A nL m0 cells slots Qf pc L st M) (hd : decode cc pc = .ok (.lshl, len)) (hx : es_xok own pc (.lshl) len x = true) (h : es_step (es_lay S) 140 (es_Call d) ret Q K pc L st M (.lshl) len x) : es_G p l e R s m args below meth c D ad cA A nL m0 cells slots Qf pc L st M := by
  obtain ⟨hex, hb, hml, hown, hts, hU, hinj, hA, hSc, hR⟩ := C
  intro H locs ls hL hst hM hm hP hS
  have hl : len = 1 := (Nat.eq_of_beq_eq_true hx).symm
  subst hl
  simp only [es_step] at h
  split at h
  · rename_i b a r
    obtain ⟨o1, o2⟩ := es_ok1 hst
    obtain ⟨o2, o3⟩ := es_ok1 o2
    exact lv_lshl (v := Int64.ofInt (es_lshl a b)) hex hb hd (es_o64 _).symm (hK _ _ _ _ h H locs ls hL (es_okc (show es_ok (.inr (.inl (es_lshl a b))) from es_rt64 _) o3) hM hm hP hS)
  · exact h.elim
theorem es_s_lshr  (C : es_Ctx p R s m args meth c D ad cA A nL m0 cells slots cc own d S) (hK : ∀ pc L st M, K pc L st M → es_G p l e R s m args below meth c D ad cA A nL m0 cells slots Qf pc L st M) (hd : decode cc pc = .ok (.lshr, len)) (hx : es_xok own pc (.lshr) len x = true) (h : es_step (es_lay S) 140 (es_Call d) ret Q K pc L st M (.lshr) len x) : es_G p l e R s m args below meth c D ad cA A nL m0 cells slots Qf pc L st M := by
  obtain ⟨hex, hb, hml, hown, hts, hU, hinj, hA, hSc, hR⟩ := C
  intro H locs ls hL hst hM hm hP hS
  have hl : len = 1 := (Nat.eq_of_beq_eq_true hx).symm
  subst hl
  simp only [es_step] at h
  split at h
  · rename_i b a r
    obtain ⟨o1, o2⟩ := es_ok1 hst
    obtain ⟨o2, o3⟩ := es_ok1 o2
    exact lv_lshr (v := Int64.ofInt (es_lshr a b)) hex hb hd (es_o64 _).symm (hK _ _ _ _ h H locs ls hL (es_okc (show es_ok (.inr (.inl (es_lshr a b))) from es_rt64 _) o3) hM hm hP hS)
  · exact h.elim
theorem es_s_lcmp  (C : es_Ctx p R s m args meth c D ad cA A nL m0 cells slots cc own d S) (hK : ∀ pc L st M, K pc L st M → es_G p l e R s m args below meth c D ad cA A nL m0 cells slots Qf pc L st M) (hd : decode cc pc = .ok (.lcmp, len)) (hx : es_xok own pc (.lcmp) len x = true) (h : es_step (es_lay S) 140 (es_Call d) ret Q K pc L st M (.lcmp) len x) : es_G p l e R s m args below meth c D ad cA A nL m0 cells slots Qf pc L st M := by
  obtain ⟨hex, hb, hml, hown, hts, hU, hinj, hA, hSc, hR⟩ := C
  intro H locs ls hL hst hM hm hP hS
  have hl : len = 1 := (Nat.eq_of_beq_eq_true hx).symm
  subst hl
  simp only [es_step] at h
  split at h
  · rename_i b a r
    obtain ⟨o1, o2⟩ := es_ok1 hst
    obtain ⟨o2, o3⟩ := es_ok1 o2
    have k := hK _ _ _ _ h H locs ls hL (es_okc (es_rlcmp a b) o3) hM hm hP hS
    simp only [List.map_cons, es_V] at k ⊢
    rw [← es_cmp64 o2 o1] at k
    exact W.lcmp hex hb hd k
  · exact h.elim
theorem es_s_dup  (C : es_Ctx p R s m args meth c D ad cA A nL m0 cells slots cc own d S) (hK : ∀ pc L st M, K pc L st M → es_G p l e R s m args below meth c D ad cA A nL m0 cells slots Qf pc L st M) (hd : decode cc pc = .ok (.dup, len)) (hx : es_xok own pc (.dup) len x = true) (h : es_step (es_lay S) 140 (es_Call d) ret Q K pc L st M (.dup) len x) : es_G p l e R s m args below meth c D ad cA A nL m0 cells slots Qf pc L st M := by
  obtain ⟨hex, hb, hml, hown, hts, hU, hinj, hA, hSc, hR⟩ := C
  intro H locs ls hL hst hM hm hP hS
  have hl : len = 1 := (Nat.eq_of_beq_eq_true hx).symm
  subst hl
  simp only [es_step] at h
  split at h
  · obtain ⟨o1, o2⟩ := es_ok1 hst
    exact lv_dup hex hb hd rfl (hK _ _ _ _ h H locs ls hL (es_okc o1 hst) hM hm hP hS)
  · obtain ⟨o1, o2⟩ := es_ok1 hst
    exact lv_dup hex hb hd rfl (hK _ _ _ _ h H locs ls hL (es_okc o1 hst) hM hm hP hS)
  · exact h.elim
theorem es_s_dup2  (C : es_Ctx p R s m args meth c D ad cA A nL m0 cells slots cc own d S) (hK : ∀ pc L st M, K pc L st M → es_G p l e R s m args below meth c D ad cA A nL m0 cells slots Qf pc L st M) (hd : decode cc pc = .ok (.dup2, len)) (hx : es_xok own pc (.dup2) len x = true) (h : es_step (es_lay S) 140 (es_Call d) ret Q K pc L st M (.dup2) len x) : es_G p l e R s m args below meth c D ad cA A nL m0 cells slots Qf pc L st M := by
  obtain ⟨hex, hb, hml, hown, hts, hU, hinj, hA, hSc, hR⟩ := C
  intro H locs ls hL hst hM hm hP hS
  have hl : len = 1 := (Nat.eq_of_beq_eq_true hx).symm
  subst hl
  simp only [es_step] at h
  split at h
  · obtain ⟨o1, o2⟩ := es_ok1 hst
    obtain ⟨o2, o3⟩ := es_ok1 o2
    exact lv_dup2_11 hex hb hd rfl rfl (hK _ _ _ _ h H locs ls hL (es_okc o1 (es_okc o2 hst)) hM hm hP hS)
  · exact h.elim
theorem es_s_pop  (C : es_Ctx p R s m args meth c D ad cA A nL m0 cells slots cc own d S) (hK : ∀ pc L st M, K pc L st M → es_G p l e R s m args below meth c D ad cA A nL m0 cells slots Qf pc L st M) (hd : decode cc pc = .ok (.pop, len)) (hx : es_xok own pc (.pop) len x = true) (h : es_step (es_lay S) 140 (es_Call d) ret Q K pc L st M (.pop) len x) : es_G p l e R s m args below meth c D ad cA A nL m0 cells slots Qf pc L st M := by
  obtain ⟨hex, hb, hml, hown, hts, hU, hinj, hA, hSc, hR⟩ := C
  intro H locs ls hL hst hM hm hP hS
  have hl : len = 1 := (Nat.eq_of_beq_eq_true hx).symm
  subst hl
  simp only [es_step] at h
  split at h
  · obtain ⟨o1, o2⟩ := es_ok1 hst
    exact lv_pop hex hb hd rfl (hK _ _ _ _ h H locs ls hL o2 hM hm hP hS)
  · exact h.elim
theorem es_s_goto {off : Int} (C : es_Ctx p R s m args meth c D ad cA A nL m0 cells slots cc own d S) (hK : ∀ pc L st M, K pc L st M → es_G p l e R s m args below meth c D ad cA A nL m0 cells slots Qf pc L st M) (hd : decode cc pc = .ok (.goto off, len)) (hx : es_xok own pc (.goto off) len x = true) (h : es_step (es_lay S) 140 (es_Call d) ret Q K pc L st M (.goto off) len x) : es_G p l e R s m args below meth c D ad cA A nL m0 cells slots Qf pc L st M := by
  obtain ⟨hex, hb, hml, hown, hts, hU, hinj, hA, hSc, hR⟩ := C
  intro H locs ls hL hst hM hm hP hS
  simp only [es_xok, Bool.and_eq_true, decide_eq_true_eq] at hx
  obtain ⟨h0, h1⟩ := hx
  have h0 := Nat.eq_of_beq_eq_true h0
  subst h0
  exact lv_goto hex hb hd h1 (hK _ _ _ _ h H locs ls hL hst hM hm hP hS)
theorem es_0 : (0 : Int32) = Int32.ofInt 0 := rfl
theorem es_s_if_eq {off : Int} (C : es_Ctx p R s m args meth c D ad cA A nL m0 cells slots cc own d S) (hK : ∀ pc L st M, K pc L st M → es_G p l e R s m args below meth c D ad cA A nL m0 cells slots Qf pc L st M) (hd : decode cc pc = .ok (.ifCond .eq off, len)) (hx : es_xok own pc (.ifCond .eq off) len x = true) (h : es_step (es_lay S) 140 (es_Call d) ret Q K pc L st M (.ifCond .eq off) len x) : es_G p l e R s m args below meth c D ad cA A nL m0 cells slots Qf pc L st M := by
  obtain ⟨hex, hb, hml, hown, hts, hU, hinj, hA, hSc, hR⟩ := C
  intro H locs ls hL hst hM hm hP hS
  simp only [es_xok, Bool.and_eq_true, decide_eq_true_eq] at hx
  obtain ⟨h0, h1⟩ := hx
  have h0 := Nat.eq_of_beq_eq_true h0
  subst h0
  simp only [es_step] at h
  split at h
  · rename_i a r
    obtain ⟨o1, o2⟩ := es_ok1 hst
    exact lv_if_eq hex hb hd h1 (fun z => hK _ _ _ _ (h.1 ((es_z32 o1).mp z)) H locs ls hL o2 hM hm hP hS) (fun z => hK _ _ _ _ (h.2 (fun q => z ((es_z32 o1).mpr q))) H locs ls hL o2 hM hm hP hS)
  · exact h.elim
theorem es_s_if_ne {off : Int} (C : es_Ctx p R s m args meth c D ad cA A nL m0 cells slots cc own d S) (hK : ∀ pc L st M, K pc L st M → es_G p l e R s m args below meth c D ad cA A nL m0 cells slots Qf pc L st M) (hd : decode cc pc = .ok (.ifCond .ne off, len)) (hx : es_xok own pc (.ifCond .ne off) len x = true) (h : es_step (es_lay S) 140 (es_Call d) ret Q K pc L st M (.ifCond .ne off) len x) : es_G p l e R s m args below meth c D ad cA A nL m0 cells slots Qf pc L st M := by
  obtain ⟨hex, hb, hml, hown, hts, hU, hinj, hA, hSc, hR⟩ := C
  intro H locs ls hL hst hM hm hP hS
  simp only [es_xok, Bool.and_eq_true, decide_eq_true_eq] at hx
  obtain ⟨h0, h1⟩ := hx
  have h0 := Nat.eq_of_beq_eq_true h0
  subst h0
  simp only [es_step] at h
  split at h
  · rename_i a r
    obtain ⟨o1, o2⟩ := es_ok1 hst
    exact lv_if_ne hex hb hd h1 (fun z => hK _ _ _ _ (h.1 (fun q => z ((es_z32 o1).mpr q))) H locs ls hL o2 hM hm hP hS) (fun z => hK _ _ _ _ (h.2 ((es_z32 o1).mp z)) H locs ls hL o2 hM hm hP hS)
  · exact h.elim
theorem es_s_if_lt {off : Int} (C : es_Ctx p R s m args meth c D ad cA A nL m0 cells slots cc own d S) (hK : ∀ pc L st M, K pc L st M → es_G p l e R s m args below meth c D ad cA A nL m0 cells slots Qf pc L st M) (hd : decode cc pc = .ok (.ifCond .lt off, len)) (hx : es_xok own pc (.ifCond .lt off) len x = true) (h : es_step (es_lay S) 140 (es_Call d) ret Q K pc L st M (.ifCond .lt off) len x) : es_G p l e R s m args below meth c D ad cA A nL m0 cells slots Qf pc L st M := by
  obtain ⟨hex, hb, hml, hown, hts, hU, hinj, hA, hSc, hR⟩ := C
  intro H locs ls hL hst hM hm hP hS
  simp only [es_xok, Bool.and_eq_true, decide_eq_true_eq] at hx
  obtain ⟨h0, h1⟩ := hx
  have h0 := Nat.eq_of_beq_eq_true h0
  subst h0
  simp only [es_step] at h
  split at h
  · rename_i a r
    obtain ⟨o1, o2⟩ := es_ok1 hst
    exact lv_if_lt hex hb hd h1 (fun z => hK _ _ _ _ (h.1 ((es_lt32 o1 es_r0).mp z)) H locs ls hL o2 hM hm hP hS) (fun z => hK _ _ _ _ (h.2 (fun q => z ((es_lt32 o1 es_r0).mpr q))) H locs ls hL o2 hM hm hP hS)
  · exact h.elim
theorem es_s_if_ge {off : Int} (C : es_Ctx p R s m args meth c D ad cA A nL m0 cells slots cc own d S) (hK : ∀ pc L st M, K pc L st M → es_G p l e R s m args below meth c D ad cA A nL m0 cells slots Qf pc L st M) (hd : decode cc pc = .ok (.ifCond .ge off, len)) (hx : es_xok own pc (.ifCond .ge off) len x = true) (h : es_step (es_lay S) 140 (es_Call d) ret Q K pc L st M (.ifCond .ge off) len x) : es_G p l e R s m args below meth c D ad cA A nL m0 cells slots Qf pc L st M := by
  obtain ⟨hex, hb, hml, hown, hts, hU, hinj, hA, hSc, hR⟩ := C
  intro H locs ls hL hst hM hm hP hS
  simp only [es_xok, Bool.and_eq_true, decide_eq_true_eq] at hx
  obtain ⟨h0, h1⟩ := hx
  have h0 := Nat.eq_of_beq_eq_true h0
  subst h0
  simp only [es_step] at h
  split at h
  · rename_i a r
    obtain ⟨o1, o2⟩ := es_ok1 hst
    exact lv_if_ge hex hb hd h1 (fun z => hK _ _ _ _ (h.1 ((es_le32 es_r0 o1).mp z)) H locs ls hL o2 hM hm hP hS) (fun z => hK _ _ _ _ (h.2 (fun q => z ((es_le32 es_r0 o1).mpr q))) H locs ls hL o2 hM hm hP hS)
  · exact h.elim
theorem es_s_if_gt {off : Int} (C : es_Ctx p R s m args meth c D ad cA A nL m0 cells slots cc own d S) (hK : ∀ pc L st M, K pc L st M → es_G p l e R s m args below meth c D ad cA A nL m0 cells slots Qf pc L st M) (hd : decode cc pc = .ok (.ifCond .gt off, len)) (hx : es_xok own pc (.ifCond .gt off) len x = true) (h : es_step (es_lay S) 140 (es_Call d) ret Q K pc L st M (.ifCond .gt off) len x) : es_G p l e R s m args below meth c D ad cA A nL m0 cells slots Qf pc L st M := by
  obtain ⟨hex, hb, hml, hown, hts, hU, hinj, hA, hSc, hR⟩ := C
  intro H locs ls hL hst hM hm hP hS
  simp only [es_xok, Bool.and_eq_true, decide_eq_true_eq] at hx
  obtain ⟨h0, h1⟩ := hx
  have h0 := Nat.eq_of_beq_eq_true h0
  subst h0
  simp only [es_step] at h
  split at h
  · rename_i a r
    obtain ⟨o1, o2⟩ := es_ok1 hst
    exact lv_if_gt hex hb hd h1 (fun z => hK _ _ _ _ (h.1 ((es_lt32 es_r0 o1).mp z)) H locs ls hL o2 hM hm hP hS) (fun z => hK _ _ _ _ (h.2 (fun q => z ((es_lt32 es_r0 o1).mpr q))) H locs ls hL o2 hM hm hP hS)
  · exact h.elim
theorem es_s_if_le {off : Int} (C : es_Ctx p R s m args meth c D ad cA A nL m0 cells slots cc own d S) (hK : ∀ pc L st M, K pc L st M → es_G p l e R s m args below meth c D ad cA A nL m0 cells slots Qf pc L st M) (hd : decode cc pc = .ok (.ifCond .le off, len)) (hx : es_xok own pc (.ifCond .le off) len x = true) (h : es_step (es_lay S) 140 (es_Call d) ret Q K pc L st M (.ifCond .le off) len x) : es_G p l e R s m args below meth c D ad cA A nL m0 cells slots Qf pc L st M := by
  obtain ⟨hex, hb, hml, hown, hts, hU, hinj, hA, hSc, hR⟩ := C
  intro H locs ls hL hst hM hm hP hS
  simp only [es_xok, Bool.and_eq_true, decide_eq_true_eq] at hx
  obtain ⟨h0, h1⟩ := hx
  have h0 := Nat.eq_of_beq_eq_true h0
  subst h0
  simp only [es_step] at h
  split at h
  · rename_i a r
    obtain ⟨o1, o2⟩ := es_ok1 hst
    exact lv_if_le hex hb hd h1 (fun z => hK _ _ _ _ (h.1 ((es_le32 o1 es_r0).mp z)) H locs ls hL o2 hM hm hP hS) (fun z => hK _ _ _ _ (h.2 (fun q => z ((es_le32 o1 es_r0).mpr q))) H locs ls hL o2 hM hm hP hS)
  · exact h.elim
theorem es_s_icmp_eq {off : Int} (C : es_Ctx p R s m args meth c D ad cA A nL m0 cells slots cc own d S) (hK : ∀ pc L st M, K pc L st M → es_G p l e R s m args below meth c D ad cA A nL m0 cells slots Qf pc L st M) (hd : decode cc pc = .ok (.if_icmp .eq off, len)) (hx : es_xok own pc (.if_icmp .eq off) len x = true) (h : es_step (es_lay S) 140 (es_Call d) ret Q K pc L st M (.if_icmp .eq off) len x) : es_G p l e R s m args below meth c D ad cA A nL m0 cells slots Qf pc L st M := by
  obtain ⟨hex, hb, hml, hown, hts, hU, hinj, hA, hSc, hR⟩ := C
  intro H locs ls hL hst hM hm hP hS
  simp only [es_xok, Bool.and_eq_true, decide_eq_true_eq] at hx
  obtain ⟨h0, h1⟩ := hx
  have h0 := Nat.eq_of_beq_eq_true h0
  subst h0
  simp only [es_step] at h
  split at h
  · rename_i b a r
    obtain ⟨o1, o2⟩ := es_ok1 hst
    obtain ⟨o2, o3⟩ := es_ok1 o2
    exact lv_icmp_eq hex hb hd h1 (fun z => hK _ _ _ _ (h.1 ((es_eq32 o2 o1).mp z)) H locs ls hL o3 hM hm hP hS) (fun z => hK _ _ _ _ (h.2 (fun q => z ((es_eq32 o2 o1).mpr q))) H locs ls hL o3 hM hm hP hS)
  · exact h.elim
theorem es_s_icmp_ne {off : Int} (C : es_Ctx p R s m args meth c D ad cA A nL m0 cells slots cc own d S) (hK : ∀ pc L st M, K pc L st M → es_G p l e R s m args below meth c D ad cA A nL m0 cells slots Qf pc L st M) (hd : decode cc pc = .ok (.if_icmp .ne off, len)) (hx : es_xok own pc (.if_icmp .ne off) len x = true) (h : es_step (es_lay S) 140 (es_Call d) ret Q K pc L st M (.if_icmp .ne off) len x) : es_G p l e R s m args below meth c D ad cA A nL m0 cells slots Qf pc L st M := by
  obtain ⟨hex, hb, hml, hown, hts, hU, hinj, hA, hSc, hR⟩ := C
  intro H locs ls hL hst hM hm hP hS
  simp only [es_xok, Bool.and_eq_true, decide_eq_true_eq] at hx
  obtain ⟨h0, h1⟩ := hx
  have h0 := Nat.eq_of_beq_eq_true h0
  subst h0
  simp only [es_step] at h
  split at h
  · rename_i b a r
    obtain ⟨o1, o2⟩ := es_ok1 hst
    obtain ⟨o2, o3⟩ := es_ok1 o2
    exact lv_icmp_ne hex hb hd h1 (fun z => hK _ _ _ _ (h.1 (fun q => z ((es_eq32 o2 o1).mpr q))) H locs ls hL o3 hM hm hP hS) (fun z => hK _ _ _ _ (h.2 ((es_eq32 o2 o1).mp z)) H locs ls hL o3 hM hm hP hS)
  · exact h.elim
theorem es_s_icmp_lt {off : Int} (C : es_Ctx p R s m args meth c D ad cA A nL m0 cells slots cc own d S) (hK : ∀ pc L st M, K pc L st M → es_G p l e R s m args below meth c D ad cA A nL m0 cells slots Qf pc L st M) (hd : decode cc pc = .ok (.if_icmp .lt off, len)) (hx : es_xok own pc (.if_icmp .lt off) len x = true) (h : es_step (es_lay S) 140 (es_Call d) ret Q K pc L st M (.if_icmp .lt off) len x) : es_G p l e R s m args below meth c D ad cA A nL m0 cells slots Qf pc L st M := by
  obtain ⟨hex, hb, hml, hown, hts, hU, hinj, hA, hSc, hR⟩ := C
  intro H locs ls hL hst hM hm hP hS
  simp only [es_xok, Bool.and_eq_true, decide_eq_true_eq] at hx
  obtain ⟨h0, h1⟩ := hx
  have h0 := Nat.eq_of_beq_eq_true h0
  subst h0
  simp only [es_step] at h
  split at h
  · rename_i b a r
    obtain ⟨o1, o2⟩ := es_ok1 hst
    obtain ⟨o2, o3⟩ := es_ok1 o2
    exact lv_icmp_lt hex hb hd h1 (fun z => hK _ _ _ _ (h.1 ((es_lt32 o2 o1).mp z)) H locs ls hL o3 hM hm hP hS) (fun z => hK _ _ _ _ (h.2 (fun q => z ((es_lt32 o2 o1).mpr q))) H locs ls hL o3 hM hm hP hS)
  · exact h.elim
theorem es_s_icmp_ge {off : Int} (C : es_Ctx p R s m args meth c D ad cA A nL m0 cells slots cc own d S) (hK : ∀ pc L st M, K pc L st M → es_G p l e R s m args below meth c D ad cA A nL m0 cells slots Qf pc L st M) (hd : decode cc pc = .ok (.if_icmp .ge off, len)) (hx : es_xok own pc (.if_icmp .ge off) len x = true) (h : es_step (es_lay S) 140 (es_Call d) ret Q K pc L st M (.if_icmp .ge off) len x) : es_G p l e R s m args below meth c D ad cA A nL m0 cells slots Qf pc L st M := by
  obtain ⟨hex, hb, hml, hown, hts, hU, hinj, hA, hSc, hR⟩ := C
  intro H locs ls hL hst hM hm hP hS
  simp only [es_xok, Bool.and_eq_true, decide_eq_true_eq] at hx
  obtain ⟨h0, h1⟩ := hx
  have h0 := Nat.eq_of_beq_eq_true h0
  subst h0
  simp only [es_step] at h
  split at h
  · rename_i b a r
    obtain ⟨o1, o2⟩ := es_ok1 hst
    obtain ⟨o2, o3⟩ := es_ok1 o2
    exact lv_icmp_ge hex hb hd h1 (fun z => hK _ _ _ _ (h.1 ((es_le32 o1 o2).mp z)) H locs ls hL o3 hM hm hP hS) (fun z => hK _ _ _ _ (h.2 (fun q => z ((es_le32 o1 o2).mpr q))) H locs ls hL o3 hM hm hP hS)
  · exact h.elim
theorem es_s_icmp_gt {off : Int} (C : es_Ctx p R s m args meth c D ad cA A nL m0 cells slots cc own d S) (hK : ∀ pc L st M, K pc L st M → es_G p l e R s m args below meth c D ad cA A nL m0 cells slots Qf pc L st M) (hd : decode cc pc = .ok (.if_icmp .gt off, len)) (hx : es_xok own pc (.if_icmp .gt off) len x = true) (h : es_step (es_lay S) 140 (es_Call d) ret Q K pc L st M (.if_icmp .gt off) len x) : es_G p l e R s m args below meth c D ad cA A nL m0 cells slots Qf pc L st M := by
  obtain ⟨hex, hb, hml, hown, hts, hU, hinj, hA, hSc, hR⟩ := C
  intro H locs ls hL hst hM hm hP hS
  simp only [es_xok, Bool.and_eq_true, decide_eq_true_eq] at hx
  obtain ⟨h0, h1⟩ := hx
  have h0 := Nat.eq_of_beq_eq_true h0
  subst h0
  simp only [es_step] at h
  split at h
  · rename_i b a r
    obtain ⟨o1, o2⟩ := es_ok1 hst
    obtain ⟨o2, o3⟩ := es_ok1 o2
    exact lv_icmp_gt hex hb hd h1 (fun z => hK _ _ _ _ (h.1 ((es_lt32 o1 o2).mp z)) H locs ls hL o3 hM hm hP hS) (fun z => hK _ _ _ _ (h.2 (fun q => z ((es_lt32 o1 o2).mpr q))) H locs ls hL o3 hM hm hP hS)
  · exact h.elim
theorem es_s_icmp_le {off : Int} (C : es_Ctx p R s m args meth c D ad cA A nL m0 cells slots cc own d S) (hK : ∀ pc L st M, K pc L st M → es_G p l e R s m args below meth c D ad cA A nL m0 cells slots Qf pc L st M) (hd : decode cc pc = .ok (.if_icmp .le off, len)) (hx : es_xok own pc (.if_icmp .le off) len x = true) (h : es_step (es_lay S) 140 (es_Call d) ret Q K pc L st M (.if_icmp .le off) len x) : es_G p l e R s m args below meth c D ad cA A nL m0 cells slots Qf pc L st M := by
  obtain ⟨hex, hb, hml, hown, hts, hU, hinj, hA, hSc, hR⟩ := C
  intro H locs ls hL hst hM hm hP hS
  simp only [es_xok, Bool.and_eq_true, decide_eq_true_eq] at hx
  obtain ⟨h0, h1⟩ := hx
  have h0 := Nat.eq_of_beq_eq_true h0
  subst h0
  simp only [es_step] at h
  split at h
  · rename_i b a r
    obtain ⟨o1, o2⟩ := es_ok1 hst
    obtain ⟨o2, o3⟩ := es_ok1 o2
    exact lv_icmp_le hex hb hd h1 (fun z => hK _ _ _ _ (h.1 ((es_le32 o2 o1).mp z)) H locs ls hL o3 hM hm hP hS) (fun z => hK _ _ _ _ (h.2 (fun q => z ((es_le32 o2 o1).mpr q))) H locs ls hL o3 hM hm hP hS)
  · exact h.elim
end
