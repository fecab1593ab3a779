/-! THE CONSTRUCTORS (4), printed: the small classes. wx_: the cells that a constructor leaves, tx_: the classes of its arrays -/
def wx_Town (h0 : Nat) (q : Nat → Nat) (c : Nat → ClassId) : va_W := [(h0, .inr (1, [.int 0, .int 0, .int 0, .int 0, .ref (q 0), .ref (q 1), .ref (q 2), .ref (q 3), .ref (q 4), .ref (q 5), .ref (q 6), .ref (q 7), .ref (q 8), .ref (q 9), .ref (q 10), .ref (q 11)])),
  (q 0, .inl (c 0, 18, .inl fun _ => 0)),
  (q 1, .inl (c 1, 18, .inl fun _ => 0)),
  (q 2, .inl (c 2, 18, .inl fun _ => 0)),
  (q 3, .inl (c 3, 18, .inl fun _ => 0)),
  (q 4, .inl (c 4, 18, .inl fun _ => 0)),
  (q 5, .inl (c 5, 18, .inl fun _ => 0)),
  (q 6, .inl (c 6, 144, .inl fun _ => Int32.ofInt (-1))),
  (q 7, .inl (c 7, 1728, .inl fun _ => Int32.ofInt (-2))),
  (q 8, .inl (c 8, 10, .inl fun _ => 0)),
  (q 9, .inl (c 9, 10, .inl fun _ => 0)),
  (q 10, .inl (c 10, 10, .inl fun _ => 0)),
  (q 11, .inl (c 11, 36, .inl fun _ => Int32.ofInt (-1)))]
def tx_Town (c : Nat → ClassId) : List (ClassId × FieldType) := [(c 0, .int), (c 1, .int), (c 2, .int), (c 3, .int), (c 4, .int), (c 5, .int), (c 6, .int), (c 7, .int), (c 8, .int), (c 9, .int), (c 10, .int), (c 11, .int)]
set_option maxHeartbeats 4000000 in
set_option maxRecDepth 20000 in
theorem bk_Town (l : Launch) : bd_Ct l ⟨"EveryStreet$Town", "<init>", "()V"⟩ prog_10_method_1_code 1 3 12 2046 1 [.int 0, .int 0, .int 0, .int 0, .null, .null, .null, .null, .null, .null, .null, .null, .null, .null, .null, .null] [] (wx_Town) tx_Town := by
  intro D h0 sz
  refine Met.ofW (cc := prog_10_method_1_code) (maxL := 1) (ret := none) (by decide) rfl ?_
  intro p e s m args below meth c s₁ B hml hv
  obtain ⟨rfl, hsz, hP, hK⟩ := hv
  have hts : ∀ w ∈ es_WT, w.before _ s = true := fun w hw => atoms_spec (ws := Cond.code _ prog_10_method_1_code 1 none :: es_WT) B.pre w (List.mem_cons_of_mem _ hw)
  have C : bd_C p s m _ meth c prog_10_method_1_code 1 1 := ⟨B.exec, B.bytes, hml, findClass_of_methodNamed B.named, hts, (name_of_methodNamed B.named B.method).1⟩
  have hx := B.exec
  have hb := B.bytes
  have hr := B.returns
  have hlocks := B.notSynchronized
  subst hsz
  have hD := bd_D1 (q := h0) (e0 := .inr (1, [.int 0, .int 0, .int 0, .int 0, .null, .null, .null, .null, .null, .null, .null, .null, .null, .null, .null, .null])) (sz := s.heap.size)
  generalize hAe : va_A [(h0, .inr (1, [.int 0, .int 0, .int 0, .int 0, .null, .null, .null, .null, .null, .null, .null, .null, .null, .null, .null, .null]))] s.heap.size = A at hD ⊢
  have hA : ∀ q : Nat, s.heap.size ≤ q → A q := fun q h => by rw [← hAe]; exact Or.inr h
  have hS : va_S A s.heap s.heap [] := va_S.rf
  have hl := lv_entry ([.ref h0]) (n := 1) (Nat.le_of_ble_eq_true rfl)
  rw [lg_entry_eq]
  generalize (lg_sl ([.ref h0]) ++ List.replicate (1 - (lg_sl ([.ref h0])).length) Slot.unset).toArray = ls at hl ⊢
  have hl : lv_has ls 1 [(0, .ref h0)] := hl
  refine bd_O C hl.1 (lv_at hl 0 rfl) (ix := 3) (es_WT_at (p := 1035) (by decide +kernel)) (by decide +kernel) ⟨Nat.le_of_ble_eq_true rfl, Nat.le_of_ble_eq_true rfl⟩ ?_
  refine bd_A C hK hP hD hS hA (lv_at hl 0 rfl) (lp := 2) (N := 18) (k := 4) (ix := 9) (ip := .bipush 18) (aty := .int) (ty := .int) (by decide +kernel) (Or.inl rfl) (by decide +kernel) (Nat.le_of_ble_eq_true rfl) (Nat.le_of_ble_eq_true rfl) (Nat.le_of_ble_eq_true rfl) (fun q0 c0 H locs hK hP hD hS => ?_)
  refine bd_A C hK hP hD hS hA (lv_at hl 0 rfl) (lp := 2) (N := 18) (k := 5) (ix := 15) (ip := .bipush 18) (aty := .int) (ty := .int) (by decide +kernel) (Or.inl rfl) (by decide +kernel) (Nat.le_of_ble_eq_true rfl) (Nat.le_of_ble_eq_true rfl) (Nat.le_of_ble_eq_true rfl) (fun q1 c1 H locs hK hP hD hS => ?_)
  refine bd_A C hK hP hD hS hA (lv_at hl 0 rfl) (lp := 2) (N := 18) (k := 6) (ix := 18) (ip := .bipush 18) (aty := .int) (ty := .int) (by decide +kernel) (Or.inl rfl) (by decide +kernel) (Nat.le_of_ble_eq_true rfl) (Nat.le_of_ble_eq_true rfl) (Nat.le_of_ble_eq_true rfl) (fun q2 c2 H locs hK hP hD hS => ?_)
  refine bd_A C hK hP hD hS hA (lv_at hl 0 rfl) (lp := 2) (N := 18) (k := 7) (ix := 21) (ip := .bipush 18) (aty := .int) (ty := .int) (by decide +kernel) (Or.inl rfl) (by decide +kernel) (Nat.le_of_ble_eq_true rfl) (Nat.le_of_ble_eq_true rfl) (Nat.le_of_ble_eq_true rfl) (fun q3 c3 H locs hK hP hD hS => ?_)
  refine bd_A C hK hP hD hS hA (lv_at hl 0 rfl) (lp := 2) (N := 18) (k := 8) (ix := 24) (ip := .bipush 18) (aty := .int) (ty := .int) (by decide +kernel) (Or.inl rfl) (by decide +kernel) (Nat.le_of_ble_eq_true rfl) (Nat.le_of_ble_eq_true rfl) (Nat.le_of_ble_eq_true rfl) (fun q4 c4 H locs hK hP hD hS => ?_)
  refine bd_A C hK hP hD hS hA (lv_at hl 0 rfl) (lp := 2) (N := 18) (k := 9) (ix := 27) (ip := .bipush 18) (aty := .int) (ty := .int) (by decide +kernel) (Or.inl rfl) (by decide +kernel) (Nat.le_of_ble_eq_true rfl) (Nat.le_of_ble_eq_true rfl) (Nat.le_of_ble_eq_true rfl) (fun q5 c5 H locs hK hP hD hS => ?_)
  refine bd_A C hK hP hD hS hA (lv_at hl 0 rfl) (lp := 3) (N := 144) (k := 10) (ix := 30) (ip := .sipush 144) (aty := .int) (ty := .int) (by decide +kernel) (Or.inl rfl) (by decide +kernel) (Nat.le_of_ble_eq_true rfl) (Nat.le_of_ble_eq_true rfl) (Nat.le_of_ble_eq_true rfl) (fun q6 c6 H locs hK hP hD hS => ?_)
  refine bd_A C hK hP hD hS hA (lv_at hl 0 rfl) (lp := 3) (N := 1728) (k := 11) (ix := 33) (ip := .sipush 1728) (aty := .int) (ty := .int) (by decide +kernel) (Or.inl rfl) (by decide +kernel) (Nat.le_of_ble_eq_true rfl) (Nat.le_of_ble_eq_true rfl) (Nat.le_of_ble_eq_true rfl) (fun q7 c7 H locs hK hP hD hS => ?_)
  refine bd_A C hK hP hD hS hA (lv_at hl 0 rfl) (lp := 2) (N := 10) (k := 12) (ix := 36) (ip := .bipush 10) (aty := .int) (ty := .int) (by decide +kernel) (Or.inl rfl) (by decide +kernel) (Nat.le_of_ble_eq_true rfl) (Nat.le_of_ble_eq_true rfl) (Nat.le_of_ble_eq_true rfl) (fun q8 c8 H locs hK hP hD hS => ?_)
  refine bd_A C hK hP hD hS hA (lv_at hl 0 rfl) (lp := 2) (N := 10) (k := 13) (ix := 39) (ip := .bipush 10) (aty := .int) (ty := .int) (by decide +kernel) (Or.inl rfl) (by decide +kernel) (Nat.le_of_ble_eq_true rfl) (Nat.le_of_ble_eq_true rfl) (Nat.le_of_ble_eq_true rfl) (fun q9 c9 H locs hK hP hD hS => ?_)
  refine bd_A C hK hP hD hS hA (lv_at hl 0 rfl) (lp := 2) (N := 10) (k := 14) (ix := 42) (ip := .bipush 10) (aty := .int) (ty := .int) (by decide +kernel) (Or.inl rfl) (by decide +kernel) (Nat.le_of_ble_eq_true rfl) (Nat.le_of_ble_eq_true rfl) (Nat.le_of_ble_eq_true rfl) (fun q10 c10 H locs hK hP hD hS => ?_)
  refine bd_A C hK hP hD hS hA (lv_at hl 0 rfl) (lp := 2) (N := 36) (k := 15) (ix := 45) (ip := .bipush 36) (aty := .int) (ty := .int) (by decide +kernel) (Or.inl rfl) (by decide +kernel) (Nat.le_of_ble_eq_true rfl) (Nat.le_of_ble_eq_true rfl) (Nat.le_of_ble_eq_true rfl) (fun q11 c11 H locs hK hP hD hS => ?_)
  refine bd_F C hK hP hD hS (lv_at hl 0 rfl) hl.1 (lp := 1) (k := 10) (ix := 30) (im := 48) (i := 6) (t0 := 6) (ip := .iconst (-1)) (v := -1) (by decide +kernel) (es_WT_at (p := 1036) (by decide +kernel)) rfl rfl rfl (by decide) ⟨(Nat.le_of_ble_eq_true rfl), (Nat.le_of_ble_eq_true rfl), (Nat.le_of_ble_eq_true rfl), (Nat.le_of_ble_eq_true rfl)⟩ (fun H locs hP hD hS => ?_)
  refine bd_F C hK hP hD hS (lv_at hl 0 rfl) hl.1 (lp := 2) (k := 11) (ix := 33) (im := 48) (i := 7) (t0 := 7) (ip := .bipush (-2)) (v := -2) (by decide +kernel) (es_WT_at (p := 1036) (by decide +kernel)) rfl rfl rfl (by decide) ⟨(Nat.le_of_ble_eq_true rfl), (Nat.le_of_ble_eq_true rfl), (Nat.le_of_ble_eq_true rfl), (Nat.le_of_ble_eq_true rfl)⟩ (fun H locs hP hD hS => ?_)
  refine bd_F C hK hP hD hS (lv_at hl 0 rfl) hl.1 (lp := 1) (k := 15) (ix := 45) (im := 48) (i := 11) (t0 := 11) (ip := .iconst (-1)) (v := -1) (by decide +kernel) (es_WT_at (p := 1036) (by decide +kernel)) rfl rfl rfl (by decide) ⟨(Nat.le_of_ble_eq_true rfl), (Nat.le_of_ble_eq_true rfl), (Nat.le_of_ble_eq_true rfl), (Nat.le_of_ble_eq_true rfl)⟩ (fun H locs hP hD hS => ?_)
  refine W.widen (k := 12) (n := 2046) (Nat.le_of_ble_eq_true rfl) (Nat.le_of_ble_eq_true rfl) ?_
  exact W.vret hx hb hr (fun t ht hW => ⟨⟨(fun i => [q0, q1, q2, q3, q4, q5, q6, q7, q8, q9, q10, q11].getD i 0, fun i => [c0, c1, c2, c3, c4, c5, c6, c7, c8, c9, c10, c11].getD i 0), rfl, trivial, by show va_P D es_cl _ t.heap; rw [ht]; exact hP, va_K.moved hW.alike hK, hD⟩, hS.F ht⟩) hS.2.2 (by decide +kernel)
def wx_State (h0 : Nat) (q : Nat → Nat) (c : Nat → ClassId) : va_W := [(h0, .inr (2, [.int 0, .int 0, .int 0, .int 0, .int 0, .int 0, .ref (q 0), .ref (q 1), .ref (q 2), .ref (q 3), .ref (q 4), .ref (q 5), .ref (q 6), .ref (q 7), .ref (q 8)])),
  (q 0, .inl (c 0, 60, .inl fun _ => 0)),
  (q 1, .inl (c 1, 60, .inl fun _ => 0)),
  (q 2, .inl (c 2, 10, .inl fun _ => 0)),
  (q 3, .inl (c 3, 12, .inl fun _ => 0)),
  (q 4, .inl (c 4, 12, .inl fun _ => 0)),
  (q 5, .inl (c 5, 24, .inl fun _ => Int32.ofInt 100)),
  (q 6, .inl (c 6, 18, .inl fun _ => 0)),
  (q 7, .inl (c 7, 18, .inl fun _ => Int32.ofInt 1439)),
  (q 8, .inl (c 8, 144, .inl fun _ => Int32.ofInt (-1)))]
def tx_State (c : Nat → ClassId) : List (ClassId × FieldType) := [(c 0, .int), (c 1, .int), (c 2, .int), (c 3, .int), (c 4, .int), (c 5, .int), (c 6, .int), (c 7, .int), (c 8, .int)]
set_option maxHeartbeats 4000000 in
set_option maxRecDepth 20000 in
theorem bk_State (l : Launch) : bd_Ct l ⟨"EveryStreet$State", "<init>", "()V"⟩ prog_9_method_1_code 1 3 9 358 2 [.int 0, .int 0, .int 0, .int 0, .int 0, .int 0, .null, .null, .null, .null, .null, .null, .null, .null, .null] [] (wx_State) tx_State := by
  intro D h0 sz
  refine Met.ofW (cc := prog_9_method_1_code) (maxL := 1) (ret := none) (by decide) rfl ?_
  intro p e s m args below meth c s₁ B hml hv
  obtain ⟨rfl, hsz, hP, hK⟩ := hv
  have hts : ∀ w ∈ es_WT, w.before _ s = true := fun w hw => atoms_spec (ws := Cond.code _ prog_9_method_1_code 1 none :: es_WT) B.pre w (List.mem_cons_of_mem _ hw)
  have C : bd_C p s m _ meth c prog_9_method_1_code 1 2 := ⟨B.exec, B.bytes, hml, findClass_of_methodNamed B.named, hts, (name_of_methodNamed B.named B.method).1⟩
  have hx := B.exec
  have hb := B.bytes
  have hr := B.returns
  have hlocks := B.notSynchronized
  subst hsz
  have hD := bd_D1 (q := h0) (e0 := .inr (2, [.int 0, .int 0, .int 0, .int 0, .int 0, .int 0, .null, .null, .null, .null, .null, .null, .null, .null, .null])) (sz := s.heap.size)
  generalize hAe : va_A [(h0, .inr (2, [.int 0, .int 0, .int 0, .int 0, .int 0, .int 0, .null, .null, .null, .null, .null, .null, .null, .null, .null]))] s.heap.size = A at hD ⊢
  have hA : ∀ q : Nat, s.heap.size ≤ q → A q := fun q h => by rw [← hAe]; exact Or.inr h
  have hS : va_S A s.heap s.heap [] := va_S.rf
  have hl := lv_entry ([.ref h0]) (n := 1) (Nat.le_of_ble_eq_true rfl)
  rw [lg_entry_eq]
  generalize (lg_sl ([.ref h0]) ++ List.replicate (1 - (lg_sl ([.ref h0])).length) Slot.unset).toArray = ls at hl ⊢
  have hl : lv_has ls 1 [(0, .ref h0)] := hl
  refine bd_O C hl.1 (lv_at hl 0 rfl) (ix := 3) (es_WT_at (p := 1132) (by decide +kernel)) (by decide +kernel) ⟨Nat.le_of_ble_eq_true rfl, Nat.le_of_ble_eq_true rfl⟩ ?_
  refine bd_A C hK hP hD hS hA (lv_at hl 0 rfl) (lp := 2) (N := 60) (k := 6) (ix := 9) (ip := .bipush 60) (aty := .int) (ty := .int) (by decide +kernel) (Or.inl rfl) (by decide +kernel) (Nat.le_of_ble_eq_true rfl) (Nat.le_of_ble_eq_true rfl) (Nat.le_of_ble_eq_true rfl) (fun q0 c0 H locs hK hP hD hS => ?_)
  refine bd_A C hK hP hD hS hA (lv_at hl 0 rfl) (lp := 2) (N := 60) (k := 7) (ix := 15) (ip := .bipush 60) (aty := .int) (ty := .int) (by decide +kernel) (Or.inl rfl) (by decide +kernel) (Nat.le_of_ble_eq_true rfl) (Nat.le_of_ble_eq_true rfl) (Nat.le_of_ble_eq_true rfl) (fun q1 c1 H locs hK hP hD hS => ?_)
  refine bd_A C hK hP hD hS hA (lv_at hl 0 rfl) (lp := 2) (N := 10) (k := 8) (ix := 18) (ip := .bipush 10) (aty := .int) (ty := .int) (by decide +kernel) (Or.inl rfl) (by decide +kernel) (Nat.le_of_ble_eq_true rfl) (Nat.le_of_ble_eq_true rfl) (Nat.le_of_ble_eq_true rfl) (fun q2 c2 H locs hK hP hD hS => ?_)
  refine bd_A C hK hP hD hS hA (lv_at hl 0 rfl) (lp := 2) (N := 12) (k := 9) (ix := 21) (ip := .bipush 12) (aty := .int) (ty := .int) (by decide +kernel) (Or.inl rfl) (by decide +kernel) (Nat.le_of_ble_eq_true rfl) (Nat.le_of_ble_eq_true rfl) (Nat.le_of_ble_eq_true rfl) (fun q3 c3 H locs hK hP hD hS => ?_)
  refine bd_A C hK hP hD hS hA (lv_at hl 0 rfl) (lp := 2) (N := 12) (k := 10) (ix := 24) (ip := .bipush 12) (aty := .int) (ty := .int) (by decide +kernel) (Or.inl rfl) (by decide +kernel) (Nat.le_of_ble_eq_true rfl) (Nat.le_of_ble_eq_true rfl) (Nat.le_of_ble_eq_true rfl) (fun q4 c4 H locs hK hP hD hS => ?_)
  refine bd_A C hK hP hD hS hA (lv_at hl 0 rfl) (lp := 2) (N := 24) (k := 11) (ix := 27) (ip := .bipush 24) (aty := .int) (ty := .int) (by decide +kernel) (Or.inl rfl) (by decide +kernel) (Nat.le_of_ble_eq_true rfl) (Nat.le_of_ble_eq_true rfl) (Nat.le_of_ble_eq_true rfl) (fun q5 c5 H locs hK hP hD hS => ?_)
  refine bd_A C hK hP hD hS hA (lv_at hl 0 rfl) (lp := 2) (N := 18) (k := 12) (ix := 30) (ip := .bipush 18) (aty := .int) (ty := .int) (by decide +kernel) (Or.inl rfl) (by decide +kernel) (Nat.le_of_ble_eq_true rfl) (Nat.le_of_ble_eq_true rfl) (Nat.le_of_ble_eq_true rfl) (fun q6 c6 H locs hK hP hD hS => ?_)
  refine bd_A C hK hP hD hS hA (lv_at hl 0 rfl) (lp := 2) (N := 18) (k := 13) (ix := 33) (ip := .bipush 18) (aty := .int) (ty := .int) (by decide +kernel) (Or.inl rfl) (by decide +kernel) (Nat.le_of_ble_eq_true rfl) (Nat.le_of_ble_eq_true rfl) (Nat.le_of_ble_eq_true rfl) (fun q7 c7 H locs hK hP hD hS => ?_)
  refine bd_A C hK hP hD hS hA (lv_at hl 0 rfl) (lp := 3) (N := 144) (k := 14) (ix := 36) (ip := .sipush 144) (aty := .int) (ty := .int) (by decide +kernel) (Or.inl rfl) (by decide +kernel) (Nat.le_of_ble_eq_true rfl) (Nat.le_of_ble_eq_true rfl) (Nat.le_of_ble_eq_true rfl) (fun q8 c8 H locs hK hP hD hS => ?_)
  refine bd_F C hK hP hD hS (lv_at hl 0 rfl) hl.1 (lp := 2) (k := 11) (ix := 27) (im := 39) (i := 5) (t0 := 5) (ip := .bipush 100) (v := 100) (by decide +kernel) (es_WT_at (p := 1133) (by decide +kernel)) rfl rfl rfl (by decide) ⟨(Nat.le_of_ble_eq_true rfl), (Nat.le_of_ble_eq_true rfl), (Nat.le_of_ble_eq_true rfl), (Nat.le_of_ble_eq_true rfl)⟩ (fun H locs hP hD hS => ?_)
  refine bd_F C hK hP hD hS (lv_at hl 0 rfl) hl.1 (lp := 3) (k := 13) (ix := 33) (im := 39) (i := 7) (t0 := 7) (ip := .sipush 1439) (v := 1439) (by decide +kernel) (es_WT_at (p := 1133) (by decide +kernel)) rfl rfl rfl (by decide) ⟨(Nat.le_of_ble_eq_true rfl), (Nat.le_of_ble_eq_true rfl), (Nat.le_of_ble_eq_true rfl), (Nat.le_of_ble_eq_true rfl)⟩ (fun H locs hP hD hS => ?_)
  refine bd_F C hK hP hD hS (lv_at hl 0 rfl) hl.1 (lp := 1) (k := 14) (ix := 36) (im := 39) (i := 8) (t0 := 8) (ip := .iconst (-1)) (v := -1) (by decide +kernel) (es_WT_at (p := 1133) (by decide +kernel)) rfl rfl rfl (by decide) ⟨(Nat.le_of_ble_eq_true rfl), (Nat.le_of_ble_eq_true rfl), (Nat.le_of_ble_eq_true rfl), (Nat.le_of_ble_eq_true rfl)⟩ (fun H locs hP hD hS => ?_)
  refine W.widen (k := 9) (n := 358) (Nat.le_of_ble_eq_true rfl) (Nat.le_of_ble_eq_true rfl) ?_
  exact W.vret hx hb hr (fun t ht hW => ⟨⟨(fun i => [q0, q1, q2, q3, q4, q5, q6, q7, q8].getD i 0, fun i => [c0, c1, c2, c3, c4, c5, c6, c7, c8].getD i 0), rfl, trivial, by show va_P D es_cl _ t.heap; rw [ht]; exact hP, va_K.moved hW.alike hK, hD⟩, hS.F ht⟩) hS.2.2 (by decide +kernel)
def wx_Reader (h0 : Nat) (q : Nat → Nat) (c : Nat → ClassId) : va_W := [(h0, .inr (3, [.ref (q 0), .int 0, .ref (q 1), .int 0, .int 0, .int 0])),
  (q 0, .inl (c 0, 100, .inl fun _ => 0)),
  (q 1, .inl (c 1, 105, .inl fun _ => 0))]
def tx_Reader (c : Nat → ClassId) : List (ClassId × FieldType) := [(c 0, .int), (c 1, .int)]
set_option maxHeartbeats 4000000 in
set_option maxRecDepth 20000 in
theorem bk_Reader (l : Launch) : bd_Ct l ⟨"EveryStreet$Reader", "<init>", "()V"⟩ prog_6_method_1_code 1 2 2 205 3 [.null, .int 0, .null, .int 0, .int 0, .int 0] [] (wx_Reader) tx_Reader := by
  intro D h0 sz
  refine Met.ofW (cc := prog_6_method_1_code) (maxL := 1) (ret := none) (by decide) rfl ?_
  intro p e s m args below meth c s₁ B hml hv
  obtain ⟨rfl, hsz, hP, hK⟩ := hv
  have hts : ∀ w ∈ es_WT, w.before _ s = true := fun w hw => atoms_spec (ws := Cond.code _ prog_6_method_1_code 1 none :: es_WT) B.pre w (List.mem_cons_of_mem _ hw)
  have C : bd_C p s m _ meth c prog_6_method_1_code 1 3 := ⟨B.exec, B.bytes, hml, findClass_of_methodNamed B.named, hts, (name_of_methodNamed B.named B.method).1⟩
  have hx := B.exec
  have hb := B.bytes
  have hr := B.returns
  have hlocks := B.notSynchronized
  subst hsz
  have hD := bd_D1 (q := h0) (e0 := .inr (3, [.null, .int 0, .null, .int 0, .int 0, .int 0])) (sz := s.heap.size)
  generalize hAe : va_A [(h0, .inr (3, [.null, .int 0, .null, .int 0, .int 0, .int 0]))] s.heap.size = A at hD ⊢
  have hA : ∀ q : Nat, s.heap.size ≤ q → A q := fun q h => by rw [← hAe]; exact Or.inr h
  have hS : va_S A s.heap s.heap [] := va_S.rf
  have hl := lv_entry ([.ref h0]) (n := 1) (Nat.le_of_ble_eq_true rfl)
  rw [lg_entry_eq]
  generalize (lg_sl ([.ref h0]) ++ List.replicate (1 - (lg_sl ([.ref h0])).length) Slot.unset).toArray = ls at hl ⊢
  have hl : lv_has ls 1 [(0, .ref h0)] := hl
  refine bd_O C hl.1 (lv_at hl 0 rfl) (ix := 3) (es_WT_at (p := 1213) (by decide +kernel)) (by decide +kernel) ⟨Nat.le_of_ble_eq_true rfl, Nat.le_of_ble_eq_true rfl⟩ ?_
  refine bd_A C hK hP hD hS hA (lv_at hl 0 rfl) (lp := 2) (N := 100) (k := 0) (ix := 9) (ip := .bipush 100) (aty := .int) (ty := .int) (by decide +kernel) (Or.inl rfl) (by decide +kernel) (Nat.le_of_ble_eq_true rfl) (Nat.le_of_ble_eq_true rfl) (Nat.le_of_ble_eq_true rfl) (fun q0 c0 H locs hK hP hD hS => ?_)
  refine bd_A C hK hP hD hS hA (lv_at hl 0 rfl) (lp := 2) (N := 105) (k := 2) (ix := 15) (ip := .bipush 105) (aty := .int) (ty := .int) (by decide +kernel) (Or.inl rfl) (by decide +kernel) (Nat.le_of_ble_eq_true rfl) (Nat.le_of_ble_eq_true rfl) (Nat.le_of_ble_eq_true rfl) (fun q1 c1 H locs hK hP hD hS => ?_)
  refine W.widen (k := 2) (n := 205) (Nat.le_of_ble_eq_true rfl) (Nat.le_of_ble_eq_true rfl) ?_
  exact W.vret hx hb hr (fun t ht hW => ⟨⟨(fun i => [q0, q1].getD i 0, fun i => [c0, c1].getD i 0), rfl, trivial, by show va_P D es_cl _ t.heap; rw [ht]; exact hP, va_K.moved hW.alike hK, hD⟩, hS.F ht⟩) hS.2.2 (by decide +kernel)
def wx_Row (h0 : Nat) (q : Nat → Nat) (c : Nat → ClassId) : va_W := [(h0, .inr (4, [.ref (q 0), .int 0])),
  (q 0, .inl (c 0, 120, .inl fun _ => 0))]
def tx_Row (c : Nat → ClassId) : List (ClassId × FieldType) := [(c 0, .int)]
set_option maxHeartbeats 4000000 in
set_option maxRecDepth 20000 in
theorem bk_Row (l : Launch) : bd_Ct l ⟨"EveryStreet$Row", "<init>", "()V"⟩ prog_7_method_1_code 1 2 1 120 4 [.null, .int 0] [] (wx_Row) tx_Row := by
  intro D h0 sz
  refine Met.ofW (cc := prog_7_method_1_code) (maxL := 1) (ret := none) (by decide) rfl ?_
  intro p e s m args below meth c s₁ B hml hv
  obtain ⟨rfl, hsz, hP, hK⟩ := hv
  have hts : ∀ w ∈ es_WT, w.before _ s = true := fun w hw => atoms_spec (ws := Cond.code _ prog_7_method_1_code 1 none :: es_WT) B.pre w (List.mem_cons_of_mem _ hw)
  have C : bd_C p s m _ meth c prog_7_method_1_code 1 4 := ⟨B.exec, B.bytes, hml, findClass_of_methodNamed B.named, hts, (name_of_methodNamed B.named B.method).1⟩
  have hx := B.exec
  have hb := B.bytes
  have hr := B.returns
  have hlocks := B.notSynchronized
  subst hsz
  have hD := bd_D1 (q := h0) (e0 := .inr (4, [.null, .int 0])) (sz := s.heap.size)
  generalize hAe : va_A [(h0, .inr (4, [.null, .int 0]))] s.heap.size = A at hD ⊢
  have hA : ∀ q : Nat, s.heap.size ≤ q → A q := fun q h => by rw [← hAe]; exact Or.inr h
  have hS : va_S A s.heap s.heap [] := va_S.rf
  have hl := lv_entry ([.ref h0]) (n := 1) (Nat.le_of_ble_eq_true rfl)
  rw [lg_entry_eq]
  generalize (lg_sl ([.ref h0]) ++ List.replicate (1 - (lg_sl ([.ref h0])).length) Slot.unset).toArray = ls at hl ⊢
  have hl : lv_has ls 1 [(0, .ref h0)] := hl
  refine bd_O C hl.1 (lv_at hl 0 rfl) (ix := 3) (es_WT_at (p := 1239) (by decide +kernel)) (by decide +kernel) ⟨Nat.le_of_ble_eq_true rfl, Nat.le_of_ble_eq_true rfl⟩ ?_
  refine bd_A C hK hP hD hS hA (lv_at hl 0 rfl) (lp := 2) (N := 120) (k := 0) (ix := 9) (ip := .bipush 120) (aty := .int) (ty := .int) (by decide +kernel) (Or.inl rfl) (by decide +kernel) (Nat.le_of_ble_eq_true rfl) (Nat.le_of_ble_eq_true rfl) (Nat.le_of_ble_eq_true rfl) (fun q0 c0 H locs hK hP hD hS => ?_)
  refine W.widen (k := 1) (n := 120) (Nat.le_of_ble_eq_true rfl) (Nat.le_of_ble_eq_true rfl) ?_
  exact W.vret hx hb hr (fun t ht hW => ⟨⟨(fun i => [q0].getD i 0, fun i => [c0].getD i 0), rfl, trivial, by show va_P D es_cl _ t.heap; rw [ht]; exact hP, va_K.moved hW.alike hK, hD⟩, hS.F ht⟩) hS.2.2 (by decide +kernel)
def wx_Ways (a1 : Nat) (a2 : Nat) (h0 : Nat) (q : Nat → Nat) (c : Nat → ClassId) : va_W := [(h0, .inr (5, [.ref a1, .ref a2, .ref (q 0), .ref (q 1), .ref (q 2), .int 1, .ref (q 3), .ref (q 4)])),
  (q 0, .inl (c 0, 1296, .inl fun _ => 0)),
  (q 1, .inl (c 1, 432, .inl fun _ => 0)),
  (q 2, .inl (c 2, 36, .inl fun _ => 0)),
  (q 3, .inl (c 3, 36, .inr (.inl fun _ => 0))),
  (q 4, .inl (c 4, 1024, .inr (.inl fun _ => 0)))]
def tx_Ways (c : Nat → ClassId) : List (ClassId × FieldType) := [(c 0, .int), (c 1, .int), (c 2, .int), (c 3, .long), (c 4, .long)]
set_option maxHeartbeats 4000000 in
set_option maxRecDepth 20000 in
theorem bk_Ways (l : Launch) (a1 : Nat) (a2 : Nat) : bd_Ct l ⟨"EveryStreet$Ways", "<init>", "(LEveryStreet$Town;LEveryStreet$State;)V"⟩ prog_12_method_1_code 3 2 5 2824 5 [.null, .null, .null, .null, .null, .int 0, .null, .null] [.ref a1, .ref a2] (wx_Ways a1 a2) tx_Ways := by
  intro D h0 sz
  refine Met.ofW (cc := prog_12_method_1_code) (maxL := 3) (ret := none) (by decide) rfl ?_
  intro p e s m args below meth c s₁ B hml hv
  obtain ⟨rfl, hsz, hP, hK⟩ := hv
  have hts : ∀ w ∈ es_WT, w.before _ s = true := fun w hw => atoms_spec (ws := Cond.code _ prog_12_method_1_code 3 none :: es_WT) B.pre w (List.mem_cons_of_mem _ hw)
  have C : bd_C p s m _ meth c prog_12_method_1_code 3 5 := ⟨B.exec, B.bytes, hml, findClass_of_methodNamed B.named, hts, (name_of_methodNamed B.named B.method).1⟩
  have hx := B.exec
  have hb := B.bytes
  have hr := B.returns
  have hlocks := B.notSynchronized
  subst hsz
  have hD := bd_D1 (q := h0) (e0 := .inr (5, [.null, .null, .null, .null, .null, .int 0, .null, .null])) (sz := s.heap.size)
  generalize hAe : va_A [(h0, .inr (5, [.null, .null, .null, .null, .null, .int 0, .null, .null]))] s.heap.size = A at hD ⊢
  have hA : ∀ q : Nat, s.heap.size ≤ q → A q := fun q h => by rw [← hAe]; exact Or.inr h
  have hS : va_S A s.heap s.heap [] := va_S.rf
  have hl := lv_entry ([.ref h0, .ref a1, .ref a2]) (n := 3) (Nat.le_of_ble_eq_true rfl)
  rw [lg_entry_eq]
  generalize (lg_sl ([.ref h0, .ref a1, .ref a2]) ++ List.replicate (3 - (lg_sl ([.ref h0, .ref a1, .ref a2])).length) Slot.unset).toArray = ls at hl ⊢
  have hl : lv_has ls 3 [(0, .ref h0), (1, .ref a1), (2, .ref a2)] := hl
  refine bd_O C hl.1 (lv_at hl 0 rfl) (ix := 3) (es_WT_at (p := 2014) (by decide +kernel)) (by decide +kernel) ⟨Nat.le_of_ble_eq_true rfl, Nat.le_of_ble_eq_true rfl⟩ ?_
  refine bd_A C hK hP hD hS hA (lv_at hl 0 rfl) (lp := 3) (N := 1296) (k := 2) (ix := 9) (ip := .sipush 1296) (aty := .int) (ty := .int) (by decide +kernel) (Or.inl rfl) (by decide +kernel) (Nat.le_of_ble_eq_true rfl) (Nat.le_of_ble_eq_true rfl) (Nat.le_of_ble_eq_true rfl) (fun q0 c0 H locs hK hP hD hS => ?_)
  refine bd_A C hK hP hD hS hA (lv_at hl 0 rfl) (lp := 3) (N := 432) (k := 3) (ix := 15) (ip := .sipush 432) (aty := .int) (ty := .int) (by decide +kernel) (Or.inl rfl) (by decide +kernel) (Nat.le_of_ble_eq_true rfl) (Nat.le_of_ble_eq_true rfl) (Nat.le_of_ble_eq_true rfl) (fun q1 c1 H locs hK hP hD hS => ?_)
  refine bd_A C hK hP hD hS hA (lv_at hl 0 rfl) (lp := 2) (N := 36) (k := 4) (ix := 18) (ip := .bipush 36) (aty := .int) (ty := .int) (by decide +kernel) (Or.inl rfl) (by decide +kernel) (Nat.le_of_ble_eq_true rfl) (Nat.le_of_ble_eq_true rfl) (Nat.le_of_ble_eq_true rfl) (fun q2 c2 H locs hK hP hD hS => ?_)
  refine lv_aload_n hx hb (show decode prog_12_method_1_code 30 = .ok (.aload_n 0, 1) by decide +kernel) rfl (lv_at hl 0 rfl) ?_
  refine bd_push C (v := 1) (by decide +kernel) (show decode prog_12_method_1_code 31 = .ok (.iconst 1, 1) by decide +kernel) ?_
  refine bd_putI C hK hP hD hS (k := 5) (ix := 21) (ty := .boolean) (by decide +kernel) (by decide +kernel) rfl rfl (Nat.le_of_ble_eq_true rfl) (by decide +kernel) (fun H locs hP hD hS => ?_)
  refine bd_A C hK hP hD hS hA (lv_at hl 0 rfl) (lp := 2) (N := 36) (k := 6) (ix := 25) (ip := .bipush 36) (aty := .long) (ty := .long) (by decide +kernel) (Or.inr (Or.inl rfl)) (by decide +kernel) (Nat.le_of_ble_eq_true rfl) (Nat.le_of_ble_eq_true rfl) (Nat.le_of_ble_eq_true rfl) (fun q3 c3 H locs hK hP hD hS => ?_)
  refine bd_A C hK hP hD hS hA (lv_at hl 0 rfl) (lp := 3) (N := 1024) (k := 7) (ix := 29) (ip := .sipush 1024) (aty := .long) (ty := .long) (by decide +kernel) (Or.inr (Or.inl rfl)) (by decide +kernel) (Nat.le_of_ble_eq_true rfl) (Nat.le_of_ble_eq_true rfl) (Nat.le_of_ble_eq_true rfl) (fun q4 c4 H locs hK hP hD hS => ?_)
  refine bd_R C hK hP hD hS (lv_at hl 0 rfl) (k := 0) (ix := 32) (j := 1) (a := a1) (ty := es_ty 5 0) (by decide +kernel) (lv_at hl 1 rfl) rfl (by rw [show es_ty 5 0 = (.object "EveryStreet$Town") by decide +kernel]; rfl) (by rw [show es_ty 5 0 = (.object "EveryStreet$Town") by decide +kernel]; rfl) (Nat.le_of_ble_eq_true rfl) (fun H locs hP hD hS => ?_)
  refine bd_R C hK hP hD hS (lv_at hl 0 rfl) (k := 1) (ix := 36) (j := 2) (a := a2) (ty := es_ty 5 1) (by decide +kernel) (lv_at hl 2 rfl) rfl (by rw [show es_ty 5 1 = (.object "EveryStreet$State") by decide +kernel]; rfl) (by rw [show es_ty 5 1 = (.object "EveryStreet$State") by decide +kernel]; rfl) (Nat.le_of_ble_eq_true rfl) (fun H locs hP hD hS => ?_)
  refine W.widen (k := 5) (n := 2824) (Nat.le_of_ble_eq_true rfl) (Nat.le_of_ble_eq_true rfl) ?_
  exact W.vret hx hb hr (fun t ht hW => ⟨⟨(fun i => [q0, q1, q2, q3, q4].getD i 0, fun i => [c0, c1, c2, c3, c4].getD i 0), rfl, trivial, by show va_P D es_cl _ t.heap; rw [ht]; exact hP, va_K.moved hW.alike hK, hD⟩, hS.F ht⟩) hS.2.2 (by decide +kernel)
def wx_Walks (a1 : Nat) (a2 : Nat) (a3 : Nat) (h0 : Nat) (q : Nat → Nat) (c : Nat → ClassId) : va_W := [(h0, .inr (6, [.ref a1, .ref a2, .ref a3, .ref (q 0), .ref (q 1), .ref (q 2), .ref (q 3), .int 0, .int 0, .int 0])),
  (q 0, .inl (c 0, 20, .inl fun _ => 0)),
  (q 1, .inl (c 1, 36, .inl fun _ => 0)),
  (q 2, .inl (c 2, 10, .inl fun _ => 0)),
  (q 3, .inl (c 3, 1024, .inl fun _ => 0))]
def tx_Walks (c : Nat → ClassId) : List (ClassId × FieldType) := [(c 0, .int), (c 1, .int), (c 2, .int), (c 3, .int)]
set_option maxHeartbeats 4000000 in
set_option maxRecDepth 20000 in
theorem bk_Walks (l : Launch) (a1 : Nat) (a2 : Nat) (a3 : Nat) : bd_Ct l ⟨"EveryStreet$Walks", "<init>", "(LEveryStreet$Town;LEveryStreet$Ways;[I)V"⟩ prog_11_method_1_code 4 2 4 1090 6 [.null, .null, .null, .null, .null, .null, .null, .int 0, .int 0, .int 0] [.ref a1, .ref a2, .ref a3] (wx_Walks a1 a2 a3) tx_Walks := by
  intro D h0 sz
  refine Met.ofW (cc := prog_11_method_1_code) (maxL := 4) (ret := none) (by decide) rfl ?_
  intro p e s m args below meth c s₁ B hml hv
  obtain ⟨rfl, hsz, hP, hK⟩ := hv
  have hts : ∀ w ∈ es_WT, w.before _ s = true := fun w hw => atoms_spec (ws := Cond.code _ prog_11_method_1_code 4 none :: es_WT) B.pre w (List.mem_cons_of_mem _ hw)
  have C : bd_C p s m _ meth c prog_11_method_1_code 4 6 := ⟨B.exec, B.bytes, hml, findClass_of_methodNamed B.named, hts, (name_of_methodNamed B.named B.method).1⟩
  have hx := B.exec
  have hb := B.bytes
  have hr := B.returns
  have hlocks := B.notSynchronized
  subst hsz
  have hD := bd_D1 (q := h0) (e0 := .inr (6, [.null, .null, .null, .null, .null, .null, .null, .int 0, .int 0, .int 0])) (sz := s.heap.size)
  generalize hAe : va_A [(h0, .inr (6, [.null, .null, .null, .null, .null, .null, .null, .int 0, .int 0, .int 0]))] s.heap.size = A at hD ⊢
  have hA : ∀ q : Nat, s.heap.size ≤ q → A q := fun q h => by rw [← hAe]; exact Or.inr h
  have hS : va_S A s.heap s.heap [] := va_S.rf
  have hl := lv_entry ([.ref h0, .ref a1, .ref a2, .ref a3]) (n := 4) (Nat.le_of_ble_eq_true rfl)
  rw [lg_entry_eq]
  generalize (lg_sl ([.ref h0, .ref a1, .ref a2, .ref a3]) ++ List.replicate (4 - (lg_sl ([.ref h0, .ref a1, .ref a2, .ref a3])).length) Slot.unset).toArray = ls at hl ⊢
  have hl : lv_has ls 4 [(0, .ref h0), (1, .ref a1), (2, .ref a2), (3, .ref a3)] := hl
  refine bd_O C hl.1 (lv_at hl 0 rfl) (ix := 3) (es_WT_at (p := 2049) (by decide +kernel)) (by decide +kernel) ⟨Nat.le_of_ble_eq_true rfl, Nat.le_of_ble_eq_true rfl⟩ ?_
  refine bd_A C hK hP hD hS hA (lv_at hl 0 rfl) (lp := 2) (N := 20) (k := 3) (ix := 9) (ip := .bipush 20) (aty := .int) (ty := .int) (by decide +kernel) (Or.inl rfl) (by decide +kernel) (Nat.le_of_ble_eq_true rfl) (Nat.le_of_ble_eq_true rfl) (Nat.le_of_ble_eq_true rfl) (fun q0 c0 H locs hK hP hD hS => ?_)
  refine bd_A C hK hP hD hS hA (lv_at hl 0 rfl) (lp := 2) (N := 36) (k := 4) (ix := 15) (ip := .bipush 36) (aty := .int) (ty := .int) (by decide +kernel) (Or.inl rfl) (by decide +kernel) (Nat.le_of_ble_eq_true rfl) (Nat.le_of_ble_eq_true rfl) (Nat.le_of_ble_eq_true rfl) (fun q1 c1 H locs hK hP hD hS => ?_)
  refine bd_A C hK hP hD hS hA (lv_at hl 0 rfl) (lp := 2) (N := 10) (k := 5) (ix := 18) (ip := .bipush 10) (aty := .int) (ty := .int) (by decide +kernel) (Or.inl rfl) (by decide +kernel) (Nat.le_of_ble_eq_true rfl) (Nat.le_of_ble_eq_true rfl) (Nat.le_of_ble_eq_true rfl) (fun q2 c2 H locs hK hP hD hS => ?_)
  refine bd_A C hK hP hD hS hA (lv_at hl 0 rfl) (lp := 3) (N := 1024) (k := 6) (ix := 21) (ip := .sipush 1024) (aty := .int) (ty := .int) (by decide +kernel) (Or.inl rfl) (by decide +kernel) (Nat.le_of_ble_eq_true rfl) (Nat.le_of_ble_eq_true rfl) (Nat.le_of_ble_eq_true rfl) (fun q3 c3 H locs hK hP hD hS => ?_)
  refine bd_R C hK hP hD hS (lv_at hl 0 rfl) (k := 0) (ix := 24) (j := 1) (a := a1) (ty := es_ty 6 0) (by decide +kernel) (lv_at hl 1 rfl) rfl (by rw [show es_ty 6 0 = (.object "EveryStreet$Town") by decide +kernel]; rfl) (by rw [show es_ty 6 0 = (.object "EveryStreet$Town") by decide +kernel]; rfl) (Nat.le_of_ble_eq_true rfl) (fun H locs hP hD hS => ?_)
  refine bd_R C hK hP hD hS (lv_at hl 0 rfl) (k := 1) (ix := 28) (j := 2) (a := a2) (ty := es_ty 6 1) (by decide +kernel) (lv_at hl 2 rfl) rfl (by rw [show es_ty 6 1 = (.object "EveryStreet$Ways") by decide +kernel]; rfl) (by rw [show es_ty 6 1 = (.object "EveryStreet$Ways") by decide +kernel]; rfl) (Nat.le_of_ble_eq_true rfl) (fun H locs hP hD hS => ?_)
  refine bd_R C hK hP hD hS (lv_at hl 0 rfl) (k := 2) (ix := 32) (j := 3) (a := a3) (ty := es_ty 6 2) (by decide +kernel) (lv_at hl 3 rfl) rfl (by rw [show es_ty 6 2 = (.array .int) by decide +kernel]; rfl) (by rw [show es_ty 6 2 = (.array .int) by decide +kernel]; rfl) (Nat.le_of_ble_eq_true rfl) (fun H locs hP hD hS => ?_)
  refine W.widen (k := 4) (n := 1090) (Nat.le_of_ble_eq_true rfl) (Nat.le_of_ble_eq_true rfl) ?_
  exact W.vret hx hb hr (fun t ht hW => ⟨⟨(fun i => [q0, q1, q2, q3].getD i 0, fun i => [c0, c1, c2, c3].getD i 0), rfl, trivial, by show va_P D es_cl _ t.heap; rw [ht]; exact hP, va_K.moved hW.alike hK, hD⟩, hS.F ht⟩) hS.2.2 (by decide +kernel)
def wx_Shares (a1 : Nat) (h0 : Nat) (q : Nat → Nat) (c : Nat → ClassId) : va_W := [(h0, .inr (7, [.ref a1, .ref (q 0), .ref (q 1)])),
  (q 0, .inl (c 0, 1024, .inl fun _ => 0)),
  (q 1, .inl (c 1, 4096, .inl fun _ => 0))]
def tx_Shares (c : Nat → ClassId) : List (ClassId × FieldType) := [(c 0, .int), (c 1, .int)]
set_option maxHeartbeats 4000000 in
set_option maxRecDepth 20000 in
theorem bk_Shares (l : Launch) (a1 : Nat) : bd_Ct l ⟨"EveryStreet$Shares", "<init>", "(LEveryStreet$Town;)V"⟩ prog_8_method_1_code 2 2 2 5120 7 [.null, .null, .null] [.ref a1] (wx_Shares a1) tx_Shares := by
  intro D h0 sz
  refine Met.ofW (cc := prog_8_method_1_code) (maxL := 2) (ret := none) (by decide) rfl ?_
  intro p e s m args below meth c s₁ B hml hv
  obtain ⟨rfl, hsz, hP, hK⟩ := hv
  have hts : ∀ w ∈ es_WT, w.before _ s = true := fun w hw => atoms_spec (ws := Cond.code _ prog_8_method_1_code 2 none :: es_WT) B.pre w (List.mem_cons_of_mem _ hw)
  have C : bd_C p s m _ meth c prog_8_method_1_code 2 7 := ⟨B.exec, B.bytes, hml, findClass_of_methodNamed B.named, hts, (name_of_methodNamed B.named B.method).1⟩
  have hx := B.exec
  have hb := B.bytes
  have hr := B.returns
  have hlocks := B.notSynchronized
  subst hsz
  have hD := bd_D1 (q := h0) (e0 := .inr (7, [.null, .null, .null])) (sz := s.heap.size)
  generalize hAe : va_A [(h0, .inr (7, [.null, .null, .null]))] s.heap.size = A at hD ⊢
  have hA : ∀ q : Nat, s.heap.size ≤ q → A q := fun q h => by rw [← hAe]; exact Or.inr h
  have hS : va_S A s.heap s.heap [] := va_S.rf
  have hl := lv_entry ([.ref h0, .ref a1]) (n := 2) (Nat.le_of_ble_eq_true rfl)
  rw [lg_entry_eq]
  generalize (lg_sl ([.ref h0, .ref a1]) ++ List.replicate (2 - (lg_sl ([.ref h0, .ref a1])).length) Slot.unset).toArray = ls at hl ⊢
  have hl : lv_has ls 2 [(0, .ref h0), (1, .ref a1)] := hl
  refine bd_O C hl.1 (lv_at hl 0 rfl) (ix := 3) (es_WT_at (p := 2087) (by decide +kernel)) (by decide +kernel) ⟨Nat.le_of_ble_eq_true rfl, Nat.le_of_ble_eq_true rfl⟩ ?_
  refine bd_A C hK hP hD hS hA (lv_at hl 0 rfl) (lp := 3) (N := 1024) (k := 1) (ix := 9) (ip := .sipush 1024) (aty := .int) (ty := .int) (by decide +kernel) (Or.inl rfl) (by decide +kernel) (Nat.le_of_ble_eq_true rfl) (Nat.le_of_ble_eq_true rfl) (Nat.le_of_ble_eq_true rfl) (fun q0 c0 H locs hK hP hD hS => ?_)
  refine bd_A C hK hP hD hS hA (lv_at hl 0 rfl) (lp := 3) (N := 4096) (k := 2) (ix := 15) (ip := .sipush 4096) (aty := .int) (ty := .int) (by decide +kernel) (Or.inl rfl) (by decide +kernel) (Nat.le_of_ble_eq_true rfl) (Nat.le_of_ble_eq_true rfl) (Nat.le_of_ble_eq_true rfl) (fun q1 c1 H locs hK hP hD hS => ?_)
  refine bd_R C hK hP hD hS (lv_at hl 0 rfl) (k := 0) (ix := 18) (j := 1) (a := a1) (ty := es_ty 7 0) (by decide +kernel) (lv_at hl 1 rfl) rfl (by rw [show es_ty 7 0 = (.object "EveryStreet$Town") by decide +kernel]; rfl) (by rw [show es_ty 7 0 = (.object "EveryStreet$Town") by decide +kernel]; rfl) (Nat.le_of_ble_eq_true rfl) (fun H locs hP hD hS => ?_)
  refine W.widen (k := 2) (n := 5120) (Nat.le_of_ble_eq_true rfl) (Nat.le_of_ble_eq_true rfl) ?_
  exact W.vret hx hb hr (fun t ht hW => ⟨⟨(fun i => [q0, q1].getD i 0, fun i => [c0, c1].getD i 0), rfl, trivial, by show va_P D es_cl _ t.heap; rw [ht]; exact hP, va_K.moved hW.alike hK, hD⟩, hS.F ht⟩) hS.2.2 (by decide +kernel)
def wx_Bounds (a1 : Nat) (a2 : Nat) (h0 : Nat) (q : Nat → Nat) (c : Nat → ClassId) : va_W := [(h0, .inr (8, [.ref a1, .ref a2, .ref (q 0), .ref (q 1), .ref (q 2)])),
  (q 0, .inl (c 0, 144, .inl fun _ => 0)),
  (q 1, .inl (c 1, 4096, .inl fun _ => 0)),
  (q 2, .inl (c 2, 1024, .inl fun _ => 0))]
def tx_Bounds (c : Nat → ClassId) : List (ClassId × FieldType) := [(c 0, .int), (c 1, .int), (c 2, .int)]
set_option maxHeartbeats 4000000 in
set_option maxRecDepth 20000 in
theorem bk_Bounds (l : Launch) (a1 : Nat) (a2 : Nat) : bd_Ct l ⟨"EveryStreet$Bounds", "<init>", "(LEveryStreet$Town;LEveryStreet$State;)V"⟩ prog_2_method_1_code 3 2 3 5264 8 [.null, .null, .null, .null, .null] [.ref a1, .ref a2] (wx_Bounds a1 a2) tx_Bounds := by
  intro D h0 sz
  refine Met.ofW (cc := prog_2_method_1_code) (maxL := 3) (ret := none) (by decide) rfl ?_
  intro p e s m args below meth c s₁ B hml hv
  obtain ⟨rfl, hsz, hP, hK⟩ := hv
  have hts : ∀ w ∈ es_WT, w.before _ s = true := fun w hw => atoms_spec (ws := Cond.code _ prog_2_method_1_code 3 none :: es_WT) B.pre w (List.mem_cons_of_mem _ hw)
  have C : bd_C p s m _ meth c prog_2_method_1_code 3 8 := ⟨B.exec, B.bytes, hml, findClass_of_methodNamed B.named, hts, (name_of_methodNamed B.named B.method).1⟩
  have hx := B.exec
  have hb := B.bytes
  have hr := B.returns
  have hlocks := B.notSynchronized
  subst hsz
  have hD := bd_D1 (q := h0) (e0 := .inr (8, [.null, .null, .null, .null, .null])) (sz := s.heap.size)
  generalize hAe : va_A [(h0, .inr (8, [.null, .null, .null, .null, .null]))] s.heap.size = A at hD ⊢
  have hA : ∀ q : Nat, s.heap.size ≤ q → A q := fun q h => by rw [← hAe]; exact Or.inr h
  have hS : va_S A s.heap s.heap [] := va_S.rf
  have hl := lv_entry ([.ref h0, .ref a1, .ref a2]) (n := 3) (Nat.le_of_ble_eq_true rfl)
  rw [lg_entry_eq]
  generalize (lg_sl ([.ref h0, .ref a1, .ref a2]) ++ List.replicate (3 - (lg_sl ([.ref h0, .ref a1, .ref a2])).length) Slot.unset).toArray = ls at hl ⊢
  have hl : lv_has ls 3 [(0, .ref h0), (1, .ref a1), (2, .ref a2)] := hl
  refine bd_O C hl.1 (lv_at hl 0 rfl) (ix := 3) (es_WT_at (p := 2103) (by decide +kernel)) (by decide +kernel) ⟨Nat.le_of_ble_eq_true rfl, Nat.le_of_ble_eq_true rfl⟩ ?_
  refine bd_A C hK hP hD hS hA (lv_at hl 0 rfl) (lp := 3) (N := 144) (k := 2) (ix := 9) (ip := .sipush 144) (aty := .int) (ty := .int) (by decide +kernel) (Or.inl rfl) (by decide +kernel) (Nat.le_of_ble_eq_true rfl) (Nat.le_of_ble_eq_true rfl) (Nat.le_of_ble_eq_true rfl) (fun q0 c0 H locs hK hP hD hS => ?_)
  refine bd_A C hK hP hD hS hA (lv_at hl 0 rfl) (lp := 3) (N := 4096) (k := 3) (ix := 15) (ip := .sipush 4096) (aty := .int) (ty := .int) (by decide +kernel) (Or.inl rfl) (by decide +kernel) (Nat.le_of_ble_eq_true rfl) (Nat.le_of_ble_eq_true rfl) (Nat.le_of_ble_eq_true rfl) (fun q1 c1 H locs hK hP hD hS => ?_)
  refine bd_A C hK hP hD hS hA (lv_at hl 0 rfl) (lp := 3) (N := 1024) (k := 4) (ix := 18) (ip := .sipush 1024) (aty := .int) (ty := .int) (by decide +kernel) (Or.inl rfl) (by decide +kernel) (Nat.le_of_ble_eq_true rfl) (Nat.le_of_ble_eq_true rfl) (Nat.le_of_ble_eq_true rfl) (fun q2 c2 H locs hK hP hD hS => ?_)
  refine bd_R C hK hP hD hS (lv_at hl 0 rfl) (k := 0) (ix := 21) (j := 1) (a := a1) (ty := es_ty 8 0) (by decide +kernel) (lv_at hl 1 rfl) rfl (by rw [show es_ty 8 0 = (.object "EveryStreet$Town") by decide +kernel]; rfl) (by rw [show es_ty 8 0 = (.object "EveryStreet$Town") by decide +kernel]; rfl) (Nat.le_of_ble_eq_true rfl) (fun H locs hP hD hS => ?_)
  refine bd_R C hK hP hD hS (lv_at hl 0 rfl) (k := 1) (ix := 25) (j := 2) (a := a2) (ty := es_ty 8 1) (by decide +kernel) (lv_at hl 2 rfl) rfl (by rw [show es_ty 8 1 = (.object "EveryStreet$State") by decide +kernel]; rfl) (by rw [show es_ty 8 1 = (.object "EveryStreet$State") by decide +kernel]; rfl) (Nat.le_of_ble_eq_true rfl) (fun H locs hP hD hS => ?_)
  refine W.widen (k := 3) (n := 5264) (Nat.le_of_ble_eq_true rfl) (Nat.le_of_ble_eq_true rfl) ?_
  exact W.vret hx hb hr (fun t ht hW => ⟨⟨(fun i => [q0, q1, q2].getD i 0, fun i => [c0, c1, c2].getD i 0), rfl, trivial, by show va_P D es_cl _ t.heap; rw [ht]; exact hP, va_K.moved hW.alike hK, hD⟩, hS.F ht⟩) hS.2.2 (by decide +kernel)
def wx_Level (a1 : Nat) (a2 : Nat) (h0 : Nat) (q : Nat → Nat) (c : Nat → ClassId) : va_W := [(h0, .inr (9, [.ref a1, .ref a2, .ref (q 0), .ref (q 1), .ref (q 2), .ref (q 3), .int 0, .int 0, .int 0])),
  (q 0, .inl (c 0, 396, .inl fun _ => 0)),
  (q 1, .inl (c 1, 12, .inl fun _ => 0)),
  (q 2, .inl (c 2, 12, .inl fun _ => 0)),
  (q 3, .inl (c 3, 10, .inl fun _ => 0))]
def tx_Level (c : Nat → ClassId) : List (ClassId × FieldType) := [(c 0, .int), (c 1, .int), (c 2, .int), (c 3, .int)]
set_option maxHeartbeats 4000000 in
set_option maxRecDepth 20000 in
theorem bk_Level (l : Launch) (a1 : Nat) (a2 : Nat) : bd_Ct l ⟨"EveryStreet$Level", "<init>", "(LEveryStreet$Town;LEveryStreet$Ways;)V"⟩ prog_4_method_1_code 3 2 4 430 9 [.null, .null, .null, .null, .null, .null, .int 0, .int 0, .int 0] [.ref a1, .ref a2] (wx_Level a1 a2) tx_Level := by
  intro D h0 sz
  refine Met.ofW (cc := prog_4_method_1_code) (maxL := 3) (ret := none) (by decide) rfl ?_
  intro p e s m args below meth c s₁ B hml hv
  obtain ⟨rfl, hsz, hP, hK⟩ := hv
  have hts : ∀ w ∈ es_WT, w.before _ s = true := fun w hw => atoms_spec (ws := Cond.code _ prog_4_method_1_code 3 none :: es_WT) B.pre w (List.mem_cons_of_mem _ hw)
  have C : bd_C p s m _ meth c prog_4_method_1_code 3 9 := ⟨B.exec, B.bytes, hml, findClass_of_methodNamed B.named, hts, (name_of_methodNamed B.named B.method).1⟩
  have hx := B.exec
  have hb := B.bytes
  have hr := B.returns
  have hlocks := B.notSynchronized
  subst hsz
  have hD := bd_D1 (q := h0) (e0 := .inr (9, [.null, .null, .null, .null, .null, .null, .int 0, .int 0, .int 0])) (sz := s.heap.size)
  generalize hAe : va_A [(h0, .inr (9, [.null, .null, .null, .null, .null, .null, .int 0, .int 0, .int 0]))] s.heap.size = A at hD ⊢
  have hA : ∀ q : Nat, s.heap.size ≤ q → A q := fun q h => by rw [← hAe]; exact Or.inr h
  have hS : va_S A s.heap s.heap [] := va_S.rf
  have hl := lv_entry ([.ref h0, .ref a1, .ref a2]) (n := 3) (Nat.le_of_ble_eq_true rfl)
  rw [lg_entry_eq]
  generalize (lg_sl ([.ref h0, .ref a1, .ref a2]) ++ List.replicate (3 - (lg_sl ([.ref h0, .ref a1, .ref a2])).length) Slot.unset).toArray = ls at hl ⊢
  have hl : lv_has ls 3 [(0, .ref h0), (1, .ref a1), (2, .ref a2)] := hl
  refine bd_O C hl.1 (lv_at hl 0 rfl) (ix := 3) (es_WT_at (p := 2125) (by decide +kernel)) (by decide +kernel) ⟨Nat.le_of_ble_eq_true rfl, Nat.le_of_ble_eq_true rfl⟩ ?_
  refine bd_A C hK hP hD hS hA (lv_at hl 0 rfl) (lp := 3) (N := 396) (k := 2) (ix := 9) (ip := .sipush 396) (aty := .int) (ty := .int) (by decide +kernel) (Or.inl rfl) (by decide +kernel) (Nat.le_of_ble_eq_true rfl) (Nat.le_of_ble_eq_true rfl) (Nat.le_of_ble_eq_true rfl) (fun q0 c0 H locs hK hP hD hS => ?_)
  refine bd_A C hK hP hD hS hA (lv_at hl 0 rfl) (lp := 2) (N := 12) (k := 3) (ix := 15) (ip := .bipush 12) (aty := .int) (ty := .int) (by decide +kernel) (Or.inl rfl) (by decide +kernel) (Nat.le_of_ble_eq_true rfl) (Nat.le_of_ble_eq_true rfl) (Nat.le_of_ble_eq_true rfl) (fun q1 c1 H locs hK hP hD hS => ?_)
  refine bd_A C hK hP hD hS hA (lv_at hl 0 rfl) (lp := 2) (N := 12) (k := 4) (ix := 18) (ip := .bipush 12) (aty := .int) (ty := .int) (by decide +kernel) (Or.inl rfl) (by decide +kernel) (Nat.le_of_ble_eq_true rfl) (Nat.le_of_ble_eq_true rfl) (Nat.le_of_ble_eq_true rfl) (fun q2 c2 H locs hK hP hD hS => ?_)
  refine bd_A C hK hP hD hS hA (lv_at hl 0 rfl) (lp := 2) (N := 10) (k := 5) (ix := 21) (ip := .bipush 10) (aty := .int) (ty := .int) (by decide +kernel) (Or.inl rfl) (by decide +kernel) (Nat.le_of_ble_eq_true rfl) (Nat.le_of_ble_eq_true rfl) (Nat.le_of_ble_eq_true rfl) (fun q3 c3 H locs hK hP hD hS => ?_)
  refine bd_R C hK hP hD hS (lv_at hl 0 rfl) (k := 0) (ix := 24) (j := 1) (a := a1) (ty := es_ty 9 0) (by decide +kernel) (lv_at hl 1 rfl) rfl (by rw [show es_ty 9 0 = (.object "EveryStreet$Town") by decide +kernel]; rfl) (by rw [show es_ty 9 0 = (.object "EveryStreet$Town") by decide +kernel]; rfl) (Nat.le_of_ble_eq_true rfl) (fun H locs hP hD hS => ?_)
  refine bd_R C hK hP hD hS (lv_at hl 0 rfl) (k := 1) (ix := 28) (j := 2) (a := a2) (ty := es_ty 9 1) (by decide +kernel) (lv_at hl 2 rfl) rfl (by rw [show es_ty 9 1 = (.object "EveryStreet$Ways") by decide +kernel]; rfl) (by rw [show es_ty 9 1 = (.object "EveryStreet$Ways") by decide +kernel]; rfl) (Nat.le_of_ble_eq_true rfl) (fun H locs hP hD hS => ?_)
  refine W.widen (k := 4) (n := 430) (Nat.le_of_ble_eq_true rfl) (Nat.le_of_ble_eq_true rfl) ?_
  exact W.vret hx hb hr (fun t ht hW => ⟨⟨(fun i => [q0, q1, q2, q3].getD i 0, fun i => [c0, c1, c2, c3].getD i 0), rfl, trivial, by show va_P D es_cl _ t.heap; rw [ht]; exact hP, va_K.moved hW.alike hK, hD⟩, hS.F ht⟩) hS.2.2 (by decide +kernel)
def wx_Orders (a1 : Nat) (a2 : Nat) (a3 : Nat) (h0 : Nat) (q : Nat → Nat) (c : Nat → ClassId) : va_W := [(h0, .inr (10, [.ref a1, .ref a2, .ref a3, .ref (q 0), .ref (q 1), .ref (q 2), .int 0])),
  (q 0, .inl (c 0, 10, .inl fun _ => 0)),
  (q 1, .inl (c 1, 10, .inl fun _ => 0)),
  (q 2, .inl (c 2, 10, .inl fun _ => 0))]
def tx_Orders (c : Nat → ClassId) : List (ClassId × FieldType) := [(c 0, .int), (c 1, .int), (c 2, .int)]
set_option maxHeartbeats 4000000 in
set_option maxRecDepth 20000 in
theorem bk_Orders (l : Launch) (a1 : Nat) (a2 : Nat) (a3 : Nat) : bd_Ct l ⟨"EveryStreet$Orders", "<init>", "(LEveryStreet$Town;LEveryStreet$State;LEveryStreet$Ways;)V"⟩ prog_5_method_1_code 4 2 3 30 10 [.null, .null, .null, .null, .null, .null, .int 0] [.ref a1, .ref a2, .ref a3] (wx_Orders a1 a2 a3) tx_Orders := by
  intro D h0 sz
  refine Met.ofW (cc := prog_5_method_1_code) (maxL := 4) (ret := none) (by decide) rfl ?_
  intro p e s m args below meth c s₁ B hml hv
  obtain ⟨rfl, hsz, hP, hK⟩ := hv
  have hts : ∀ w ∈ es_WT, w.before _ s = true := fun w hw => atoms_spec (ws := Cond.code _ prog_5_method_1_code 4 none :: es_WT) B.pre w (List.mem_cons_of_mem _ hw)
  have C : bd_C p s m _ meth c prog_5_method_1_code 4 10 := ⟨B.exec, B.bytes, hml, findClass_of_methodNamed B.named, hts, (name_of_methodNamed B.named B.method).1⟩
  have hx := B.exec
  have hb := B.bytes
  have hr := B.returns
  have hlocks := B.notSynchronized
  subst hsz
  have hD := bd_D1 (q := h0) (e0 := .inr (10, [.null, .null, .null, .null, .null, .null, .int 0])) (sz := s.heap.size)
  generalize hAe : va_A [(h0, .inr (10, [.null, .null, .null, .null, .null, .null, .int 0]))] s.heap.size = A at hD ⊢
  have hA : ∀ q : Nat, s.heap.size ≤ q → A q := fun q h => by rw [← hAe]; exact Or.inr h
  have hS : va_S A s.heap s.heap [] := va_S.rf
  have hl := lv_entry ([.ref h0, .ref a1, .ref a2, .ref a3]) (n := 4) (Nat.le_of_ble_eq_true rfl)
  rw [lg_entry_eq]
  generalize (lg_sl ([.ref h0, .ref a1, .ref a2, .ref a3]) ++ List.replicate (4 - (lg_sl ([.ref h0, .ref a1, .ref a2, .ref a3])).length) Slot.unset).toArray = ls at hl ⊢
  have hl : lv_has ls 4 [(0, .ref h0), (1, .ref a1), (2, .ref a2), (3, .ref a3)] := hl
  refine bd_O C hl.1 (lv_at hl 0 rfl) (ix := 3) (es_WT_at (p := 2159) (by decide +kernel)) (by decide +kernel) ⟨Nat.le_of_ble_eq_true rfl, Nat.le_of_ble_eq_true rfl⟩ ?_
  refine bd_A C hK hP hD hS hA (lv_at hl 0 rfl) (lp := 2) (N := 10) (k := 3) (ix := 9) (ip := .bipush 10) (aty := .int) (ty := .int) (by decide +kernel) (Or.inl rfl) (by decide +kernel) (Nat.le_of_ble_eq_true rfl) (Nat.le_of_ble_eq_true rfl) (Nat.le_of_ble_eq_true rfl) (fun q0 c0 H locs hK hP hD hS => ?_)
  refine bd_A C hK hP hD hS hA (lv_at hl 0 rfl) (lp := 2) (N := 10) (k := 4) (ix := 15) (ip := .bipush 10) (aty := .int) (ty := .int) (by decide +kernel) (Or.inl rfl) (by decide +kernel) (Nat.le_of_ble_eq_true rfl) (Nat.le_of_ble_eq_true rfl) (Nat.le_of_ble_eq_true rfl) (fun q1 c1 H locs hK hP hD hS => ?_)
  refine bd_A C hK hP hD hS hA (lv_at hl 0 rfl) (lp := 2) (N := 10) (k := 5) (ix := 18) (ip := .bipush 10) (aty := .int) (ty := .int) (by decide +kernel) (Or.inl rfl) (by decide +kernel) (Nat.le_of_ble_eq_true rfl) (Nat.le_of_ble_eq_true rfl) (Nat.le_of_ble_eq_true rfl) (fun q2 c2 H locs hK hP hD hS => ?_)
  refine bd_R C hK hP hD hS (lv_at hl 0 rfl) (k := 0) (ix := 21) (j := 1) (a := a1) (ty := es_ty 10 0) (by decide +kernel) (lv_at hl 1 rfl) rfl (by rw [show es_ty 10 0 = (.object "EveryStreet$Town") by decide +kernel]; rfl) (by rw [show es_ty 10 0 = (.object "EveryStreet$Town") by decide +kernel]; rfl) (Nat.le_of_ble_eq_true rfl) (fun H locs hP hD hS => ?_)
  refine bd_R C hK hP hD hS (lv_at hl 0 rfl) (k := 1) (ix := 25) (j := 2) (a := a2) (ty := es_ty 10 1) (by decide +kernel) (lv_at hl 2 rfl) rfl (by rw [show es_ty 10 1 = (.object "EveryStreet$State") by decide +kernel]; rfl) (by rw [show es_ty 10 1 = (.object "EveryStreet$State") by decide +kernel]; rfl) (Nat.le_of_ble_eq_true rfl) (fun H locs hP hD hS => ?_)
  refine bd_R C hK hP hD hS (lv_at hl 0 rfl) (k := 2) (ix := 29) (j := 3) (a := a3) (ty := es_ty 10 2) (by decide +kernel) (lv_at hl 3 rfl) rfl (by rw [show es_ty 10 2 = (.object "EveryStreet$Ways") by decide +kernel]; rfl) (by rw [show es_ty 10 2 = (.object "EveryStreet$Ways") by decide +kernel]; rfl) (Nat.le_of_ble_eq_true rfl) (fun H locs hP hD hS => ?_)
  refine W.widen (k := 3) (n := 30) (Nat.le_of_ble_eq_true rfl) (Nat.le_of_ble_eq_true rfl) ?_
  exact W.vret hx hb hr (fun t ht hW => ⟨⟨(fun i => [q0, q1, q2].getD i 0, fun i => [c0, c1, c2].getD i 0), rfl, trivial, by show va_P D es_cl _ t.heap; rw [ht]; exact hP, va_K.moved hW.alike hK, hD⟩, hS.F ht⟩) hS.2.2 (by decide +kernel)
def wx_Clock (a1 : Nat) (a2 : Nat) (a3 : Nat) (a4 : Nat) (h0 : Nat) (q : Nat → Nat) (c : Nat → ClassId) : va_W := [(h0, .inr (11, [.ref a1, .ref a2, .ref a3, .ref a4, .ref (q 0), .ref (q 1)])),
  (q 0, .inl (c 0, 36, .inl fun _ => 0)),
  (q 1, .inl (c 1, 60, .inl fun _ => 0))]
def tx_Clock (c : Nat → ClassId) : List (ClassId × FieldType) := [(c 0, .int), (c 1, .int)]
set_option maxHeartbeats 4000000 in
set_option maxRecDepth 20000 in
theorem bk_Clock (l : Launch) (a1 : Nat) (a2 : Nat) (a3 : Nat) (a4 : Nat) : bd_Ct l ⟨"EveryStreet$Clock", "<init>", "(LEveryStreet$Town;LEveryStreet$State;LEveryStreet$Ways;[I)V"⟩ prog_3_method_1_code 5 2 2 96 11 [.null, .null, .null, .null, .null, .null] [.ref a1, .ref a2, .ref a3, .ref a4] (wx_Clock a1 a2 a3 a4) tx_Clock := by
  intro D h0 sz
  refine Met.ofW (cc := prog_3_method_1_code) (maxL := 5) (ret := none) (by decide) rfl ?_
  intro p e s m args below meth c s₁ B hml hv
  obtain ⟨rfl, hsz, hP, hK⟩ := hv
  have hts : ∀ w ∈ es_WT, w.before _ s = true := fun w hw => atoms_spec (ws := Cond.code _ prog_3_method_1_code 5 none :: es_WT) B.pre w (List.mem_cons_of_mem _ hw)
  have C : bd_C p s m _ meth c prog_3_method_1_code 5 11 := ⟨B.exec, B.bytes, hml, findClass_of_methodNamed B.named, hts, (name_of_methodNamed B.named B.method).1⟩
  have hx := B.exec
  have hb := B.bytes
  have hr := B.returns
  have hlocks := B.notSynchronized
  subst hsz
  have hD := bd_D1 (q := h0) (e0 := .inr (11, [.null, .null, .null, .null, .null, .null])) (sz := s.heap.size)
  generalize hAe : va_A [(h0, .inr (11, [.null, .null, .null, .null, .null, .null]))] s.heap.size = A at hD ⊢
  have hA : ∀ q : Nat, s.heap.size ≤ q → A q := fun q h => by rw [← hAe]; exact Or.inr h
  have hS : va_S A s.heap s.heap [] := va_S.rf
  have hl := lv_entry ([.ref h0, .ref a1, .ref a2, .ref a3, .ref a4]) (n := 5) (Nat.le_of_ble_eq_true rfl)
  rw [lg_entry_eq]
  generalize (lg_sl ([.ref h0, .ref a1, .ref a2, .ref a3, .ref a4]) ++ List.replicate (5 - (lg_sl ([.ref h0, .ref a1, .ref a2, .ref a3, .ref a4])).length) Slot.unset).toArray = ls at hl ⊢
  have hl : lv_has ls 5 [(0, .ref h0), (1, .ref a1), (2, .ref a2), (3, .ref a3), (4, .ref a4)] := hl
  refine bd_O C hl.1 (lv_at hl 0 rfl) (ix := 3) (es_WT_at (p := 2187) (by decide +kernel)) (by decide +kernel) ⟨Nat.le_of_ble_eq_true rfl, Nat.le_of_ble_eq_true rfl⟩ ?_
  refine bd_A C hK hP hD hS hA (lv_at hl 0 rfl) (lp := 2) (N := 36) (k := 4) (ix := 9) (ip := .bipush 36) (aty := .int) (ty := .int) (by decide +kernel) (Or.inl rfl) (by decide +kernel) (Nat.le_of_ble_eq_true rfl) (Nat.le_of_ble_eq_true rfl) (Nat.le_of_ble_eq_true rfl) (fun q0 c0 H locs hK hP hD hS => ?_)
  refine bd_A C hK hP hD hS hA (lv_at hl 0 rfl) (lp := 2) (N := 60) (k := 5) (ix := 15) (ip := .bipush 60) (aty := .int) (ty := .int) (by decide +kernel) (Or.inl rfl) (by decide +kernel) (Nat.le_of_ble_eq_true rfl) (Nat.le_of_ble_eq_true rfl) (Nat.le_of_ble_eq_true rfl) (fun q1 c1 H locs hK hP hD hS => ?_)
  refine bd_R C hK hP hD hS (lv_at hl 0 rfl) (k := 0) (ix := 18) (j := 1) (a := a1) (ty := es_ty 11 0) (by decide +kernel) (lv_at hl 1 rfl) rfl (by rw [show es_ty 11 0 = (.object "EveryStreet$Town") by decide +kernel]; rfl) (by rw [show es_ty 11 0 = (.object "EveryStreet$Town") by decide +kernel]; rfl) (Nat.le_of_ble_eq_true rfl) (fun H locs hP hD hS => ?_)
  refine bd_R C hK hP hD hS (lv_at hl 0 rfl) (k := 1) (ix := 22) (j := 2) (a := a2) (ty := es_ty 11 1) (by decide +kernel) (lv_at hl 2 rfl) rfl (by rw [show es_ty 11 1 = (.object "EveryStreet$State") by decide +kernel]; rfl) (by rw [show es_ty 11 1 = (.object "EveryStreet$State") by decide +kernel]; rfl) (Nat.le_of_ble_eq_true rfl) (fun H locs hP hD hS => ?_)
  refine bd_R C hK hP hD hS (lv_at hl 0 rfl) (k := 2) (ix := 26) (j := 3) (a := a3) (ty := es_ty 11 2) (by decide +kernel) (lv_at hl 3 rfl) rfl (by rw [show es_ty 11 2 = (.object "EveryStreet$Ways") by decide +kernel]; rfl) (by rw [show es_ty 11 2 = (.object "EveryStreet$Ways") by decide +kernel]; rfl) (Nat.le_of_ble_eq_true rfl) (fun H locs hP hD hS => ?_)
  refine lv_aload_n hx hb (show decode prog_3_method_1_code 35 = .ok (.aload_n 0, 1) by decide +kernel) rfl (lv_at hl 0 rfl) ?_
  refine lv_aload hx hb (show decode prog_3_method_1_code 36 = .ok (.aload 4, 2) by decide +kernel) (lv_at hl 4 rfl) ?_
  refine bd_putF C hK hP hD hS (k := 3) (ix := 30) (ty := (.array .int)) (by decide +kernel) (by decide +kernel) rfl rfl (Nat.le_of_ble_eq_true rfl) (by decide +kernel) (fun H locs hP hD hS => ?_)
  refine W.widen (k := 2) (n := 96) (Nat.le_of_ble_eq_true rfl) (Nat.le_of_ble_eq_true rfl) ?_
  exact W.vret hx hb hr (fun t ht hW => ⟨⟨(fun i => [q0, q1].getD i 0, fun i => [c0, c1].getD i 0), rfl, trivial, by show va_P D es_cl _ t.heap; rw [ht]; exact hP, va_K.moved hW.alike hK, hD⟩, hS.F ht⟩) hS.2.2 (by decide +kernel)
