/-! ANY STEP, ANY WALK, ANY METHOD -/
section
variable {p : Program} {l : Launch} {e : Env} {R : Room} {s : State} {m : MethodId} {args : Array Value} {below : List Frame} {meth : Method} {c : Code} {D : va_G} {ad : Nat → Nat} {cA : Nat → ClassId} {A : Nat → Prop} {nL : Nat} {m0 : Int → Int} {cells slots : Nat} {Qf : State → Prop} {cc : ByteArray} {own d : Nat} {S : Option Int}
variable {ret : Option FieldType} {Q : Int → es_M → Prop}
/-- what a method's end is -/
def es_Ret (p : Program) (l : Launch) (e : Env) (R : Room) (s : State) (m : MethodId) (args : Array Value) (below : List Frame) (meth : Method) (c : Code) (D : va_G) (ad : Nat → Nat) (cA : Nat → ClassId) (A : Nat → Prop) (m0 : Int → Int) (cells slots : Nat) (Qf : State → Prop) (cc : ByteArray) (ret : Option FieldType) (Q : Int → es_M → Prop) : Prop :=
  ∀ (pc : Nat) (ls : Array Slot) (H : Heap) (locs : List Loc) (M : es_M) (v : Int) (i : Instr) (sv : List AV), decode cc pc = .ok (i, 1) → es_rt ret i sv v → Q v M → (∀ w ∈ sv, es_ok w) → es_rng M → M 140 = m0 → va_P D es_cl (es_ws ad cA M) H → va_S A s.heap H locs →
    W p l e R s m args below meth c H locs cells slots Qf (F0 m pc ls (sv.map (es_V ad)))
theorem es_step_ok {K : Nat → es_L → List AV → es_M → Prop} {pc : Nat} {L : es_L} {st : List AV} {M : es_M} {i : Instr} {len : Nat} {x : es_X} (C : es_Ctx p R s m args meth c D ad cA A nL m0 cells slots cc own d S) (hret : es_Ret p l e R s m args below meth c D ad cA A m0 cells slots Qf cc ret Q)
    (hK : ∀ pc L st M, K pc L st M → es_G p l e R s m args below meth c D ad cA A nL m0 cells slots Qf pc L st M) (hd : decode cc pc = .ok (i, len)) (hx : es_xok own pc i len x = true) (h : es_step (es_lay S) 140 (es_Call d) ret Q K pc L st M i len x) :
    es_G p l e R s m args below meth c D ad cA A nL m0 cells slots Qf pc L st M := by
  cases i with
  | iconst v => exact es_s_iconst C hK hd hx h
  | bipush v => exact es_s_bipush C hK hd hx h
  | sipush v => exact es_s_sipush C hK hd hx h
  | ldc v => exact es_s_ldc C hK hd hx h
  | ldc_w v => exact es_s_ldc_w C hK hd hx h
  | ldc2_w v => exact es_s_ldc2_w C hK hd hx h
  | lconst v => exact es_s_lconst C hK hd hx h
  | iload v => exact es_s_iload C hK hd hx h
  | iload_n v => exact es_s_iload_n C hK hd hx h
  | lload v => exact es_s_lload C hK hd hx h
  | lload_n v => exact es_s_lload_n C hK hd hx h
  | aload v => exact es_s_aload C hK hd hx h
  | aload_n v => exact es_s_aload_n C hK hd hx h
  | istore v => exact es_s_istore C hK hd hx h
  | istore_n v => exact es_s_istore_n C hK hd hx h
  | lstore v => exact es_s_lstore C hK hd hx h
  | lstore_n v => exact es_s_lstore_n C hK hd hx h
  | iinc n v => exact es_s_iinc C hK hd hx h
  | iadd => exact es_s_iadd C hK hd hx h
  | isub => exact es_s_isub C hK hd hx h
  | imul => exact es_s_imul C hK hd hx h
  | iand => exact es_s_iand C hK hd hx h
  | ior => exact es_s_ior C hK hd hx h
  | ixor => exact es_s_ixor C hK hd hx h
  | ishl => exact es_s_ishl C hK hd hx h
  | ishr => exact es_s_ishr C hK hd hx h
  | iushr => exact es_s_iushr C hK hd hx h
  | idiv => exact es_s_idiv C hK hd hx h
  | irem => exact es_s_irem C hK hd hx h
  | ineg => exact es_s_ineg C hK hd hx h
  | i2l => exact es_s_i2l C hK hd hx h
  | i2b => exact es_s_i2b C hK hd hx h
  | i2s => exact es_s_i2s C hK hd hx h
  | lor => exact es_s_lor C hK hd hx h
  | land => exact es_s_land C hK hd hx h
  | lshl => exact es_s_lshl C hK hd hx h
  | lshr => exact es_s_lshr C hK hd hx h
  | lcmp => exact es_s_lcmp C hK hd hx h
  | dup => exact es_s_dup C hK hd hx h
  | dup2 => exact es_s_dup2 C hK hd hx h
  | pop => exact es_s_pop C hK hd hx h
  | goto v => exact es_s_goto C hK hd hx h
  | ifCond c v => cases c with
    | eq => exact es_s_if_eq C hK hd hx h
    | ne => exact es_s_if_ne C hK hd hx h
    | lt => exact es_s_if_lt C hK hd hx h
    | ge => exact es_s_if_ge C hK hd hx h
    | gt => exact es_s_if_gt C hK hd hx h
    | le => exact es_s_if_le C hK hd hx h
  | if_icmp c v => cases c with
    | eq => exact es_s_icmp_eq C hK hd hx h
    | ne => exact es_s_icmp_ne C hK hd hx h
    | lt => exact es_s_icmp_lt C hK hd hx h
    | ge => exact es_s_icmp_ge C hK hd hx h
    | gt => exact es_s_icmp_gt C hK hd hx h
    | le => exact es_s_icmp_le C hK hd hx h
  | tableswitch a b c d => exact es_s_tableswitch C hK hd hx h
  | lookupswitch a b => exact es_s_lookupswitch C hK hd hx h
  | iaload => exact es_s_iaload C hK hd hx h
  | baload => exact es_s_baload C hK hd hx h
  | laload => exact es_s_laload C hK hd hx h
  | aaload => exact es_s_aaload C hK hd hx h
  | iastore => exact es_s_iastore C hK hd hx h
  | bastore => exact es_s_bastore C hK hd hx h
  | lastore => exact es_s_lastore C hK hd hx h
  | arraylength => exact es_s_arraylength C hK hd hx h
  | getfield v => exact es_s_getfield C hK hd hx h
  | putfield v => exact es_s_putfield C hK hd hx h
  | invokevirtual v => exact es_s_invokevirtual C hK hd hx h
  | invokestatic v => exact es_s_invokestatic C hK hd hx h
  | ireturn =>
    have hl : len = 1 := (Nat.eq_of_beq_eq_true hx).symm
    subst hl
    intro H locs ls hL hst hM hm hP hS
    simp only [es_step] at h
    split at h
    · split at h
      · exact hret pc ls H locs M _ _ _ hd (Or.inl ⟨rfl, rfl, Or.inl rfl⟩) h hst hM hm hP hS
      · exact hret pc ls H locs M _ _ _ hd (Or.inl ⟨rfl, rfl, Or.inr ⟨rfl, h.1⟩⟩) h.2 hst hM hm hP hS
      · exact h.elim
    · exact h.elim
  | lreturn =>
    have hl : len = 1 := (Nat.eq_of_beq_eq_true hx).symm
    subst hl
    intro H locs ls hL hst hM hm hP hS
    simp only [es_step] at h
    split at h
    · split at h
      · exact hret pc ls H locs M _ _ _ hd (Or.inr (Or.inl ⟨rfl, rfl, rfl⟩)) h hst hM hm hP hS
      · exact h.elim
    · exact h.elim
  | return_ =>
    have hl : len = 1 := (Nat.eq_of_beq_eq_true hx).symm
    subst hl
    intro H locs ls hL hst hM hm hP hS
    simp only [es_step] at h
    split at h
    · split at h
      · exact hret pc ls H locs M _ _ _ hd (Or.inr (Or.inr ⟨rfl, rfl, rfl, rfl⟩)) h hst hM hm hP hS
      · exact h.elim
    · exact h.elim
  | _ => exact (h : False).elim
theorem es_look_mem : ∀ (cd : List es_R) (pc : Nat) (q : Instr × Nat × es_X), es_look cd pc = some q → (pc, q) ∈ cd
  | [], _, _, h => by simp [es_look] at h
  | r :: cd, pc, q, h => by
    unfold es_look at h
    cases hb : Nat.beq r.1 pc with
    | true =>
      rw [hb] at h
      simp only [cond_true, Option.some.injEq] at h
      have := Nat.eq_of_beq_eq_true hb
      subst this
      subst h
      exact List.mem_cons_self
    | false =>
      rw [hb] at h
      exact List.mem_cons_of_mem _ (es_look_mem cd pc q h)
theorem es_mask_len : ∀ (m : List Bool) (L : es_L), m.length = L.length → (es_mask m L).length = L.length
  | [], [], _ => rfl
  | [], _ :: _, h => by simp at h
  | _ :: _, [], h => by simp at h
  | true :: m, _ :: L, h => by simp at h; simp [es_mask, es_mask_len m L h]
  | false :: m, _ :: L, h => by simp at h; simp [es_mask, es_mask_len m L h]
theorem es_stop_mem : ∀ (stop : List (Nat × List Bool)) (pc : Nat) (m : List Bool), es_stop stop pc = some m → ∃ q ∈ stop, m = q.2
  | [], _, _, h => by simp [es_stop] at h
  | r :: stop, pc, m, h => by
    unfold es_stop at h
    cases hb : Nat.beq r.1 pc with
    | true => rw [hb] at h; simp only [cond_true, Option.some.injEq] at h; exact ⟨r, List.mem_cons_self, h.symm⟩
    | false =>
      rw [hb] at h
      obtain ⟨q, h1, h2⟩ := es_stop_mem stop pc m h
      exact ⟨q, List.mem_cons_of_mem _ h1, h2⟩
theorem es_wp_ok {cd : List es_R} {stop : List (Nat × List Bool)} (hst : stop.all (fun q => Nat.beq q.2.length nL) = true) (hcd : es_cok own cc cd) (C : es_Ctx p R s m args meth c D ad cA A nL m0 cells slots cc own d S) (hret : es_Ret p l e R s m args below meth c D ad cA A m0 cells slots Qf cc ret Q) :
    ∀ (n pc : Nat) (L : es_L) (st : List AV) (M : es_M), es_wp (es_lay S) 140 (es_Call d) ret Q cd stop (es_G p l e R s m args below meth c D ad cA A nL m0 cells slots Qf) n pc L st M → es_G p l e R s m args below meth c D ad cA A nL m0 cells slots Qf pc L st M
  | 0, pc, L, st, M, h => h
  | n + 1, pc, L, st, M, h => by
    unfold es_wp at h
    split at h
    · exact h.elim
    · rename_i q hq
      obtain ⟨h1, h2⟩ := hcd _ (es_look_mem cd pc q hq)
      refine es_step_ok C hret (fun pc' L' st' M' h' => ?_) h1 h2 h
      cases hm : es_stop stop pc' with
      | none =>
        simp only [hm] at h'
        exact es_wp_ok hst hcd C hret n pc' L' st' M' h'
      | some k =>
        simp only [hm] at h'
        intro H locs ls hL
        obtain ⟨q', hq', e'⟩ := es_stop_mem stop pc' k hm
        have hlen := Nat.eq_of_beq_eq_true (List.all_eq_true.mp hst q' hq')
        exact h' H locs ls (hL.mask (by rw [es_mask_len _ _ (by rw [e', hlen, hL.1]), hL.1]) (es_mask_of k L'))
end
