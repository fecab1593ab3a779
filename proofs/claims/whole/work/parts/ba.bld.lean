/-! THE CONSTRUCTORS (1): rows for objects that are being made. A world here is a list of cells; the object itself comes first -/
theorem es_wI : Cond.arrayClass .int ∈ es_WT := es_WT_at (p := 1126) (by decide +kernel)
theorem es_wJ : Cond.arrayClass .long ∈ es_WT := es_WT_at (p := 2043) (by decide +kernel)
theorem es_wZ : Cond.arrayClass .boolean ∈ es_WT := es_WT_at (p := 7112) (by decide +kernel)
theorem es_wO1 : Cond.instanceMethod Lib.objectInit ∈ es_WT := es_WT_at (p := 1028) (by decide +kernel)
theorem es_wO2 : Cond.code Lib.objectInit ⟨#[0xb1]⟩ 1 none ∈ es_WT := es_WT_at (p := 1029) (by decide +kernel)
/-- a constant is pushed -/
def bd_pok (own : Nat) (ip : Instr) (lp : Nat) (v : Int) : Bool := match ip with
  | .iconst x => Nat.beq lp 1 && decide (x = v)
  | .bipush x => Nat.beq lp 2 && decide (x = v ∧ -128 ≤ x ∧ x ≤ 127)
  | .sipush x => Nat.beq lp 3 && decide (x = v ∧ -32768 ≤ x ∧ x ≤ 32767)
  | .ldc ix => Nat.beq lp 2 && es_KL.any (fun q => Nat.beq q.1 own && Nat.beq q.2.1 ix && decide (q.2.2.1 = v))
  | _ => false
/-- where a constructor's walk stands -/
def bd_C (p : Program) (s : State) (m : MethodId) (args : Array Value) (meth : Method) (c : Code) (cc : ByteArray) (nL own : Nat) : Prop :=
  p.tables.exec = Jvm.exec ∧ c.code = cc ∧ c.maxLocals = nL ∧ s.vm.findClass (es_cn own) = some m.cls ∧ (∀ w ∈ es_WT, w.before args s = true) ∧ meth.name = "<init>"
section
variable {p : Program} {l : Launch} {e : Env} {R : Room} {s : State} {m : MethodId} {args : Array Value} {below : List Frame} {meth : Method} {c : Code} {H H0 : Heap} {locs : List Loc} {cells slots : Nat} {Q : State → Prop}
variable {cc : ByteArray} {nL own pc : Nat} {ls : Array Slot} {rest : List Value} {D : va_G} {A : Nat → Prop} {tys : List (ClassId × FieldType)} {wr : va_W} {h0 : Nat} {fs : List Value}
theorem bd_push (C : bd_C p s m args meth c cc nL own) {ip : Instr} {lp : Nat} {v : Int} (ok : bd_pok own ip lp v = true) (hd : decode cc pc = .ok (ip, lp)) (kk : W p l e R s m args below meth c H locs cells slots Q (F0 m (pc + lp) ls (.int (Int32.ofInt v) :: rest))) : W p l e R s m args below meth c H locs cells slots Q (F0 m pc ls rest) := by
  obtain ⟨hx, hb, hml, hown, hts, hin⟩ := C
  unfold bd_pok at ok
  split at ok
  · rename_i x
    simp only [Bool.and_eq_true, Nat.beq_eq, decide_eq_true_eq] at ok
    obtain ⟨rfl, rfl⟩ := ok
    exact lv_iconst (v := Int32.ofInt x) hx hb hd rfl kk
  · rename_i x
    simp only [Bool.and_eq_true, Nat.beq_eq, decide_eq_true_eq] at ok
    obtain ⟨rfl, rfl, h1⟩ := ok
    exact lv_bipush (v := Int32.ofInt x) hx hb hd (es_b8 h1) kk
  · rename_i x
    simp only [Bool.and_eq_true, Nat.beq_eq, decide_eq_true_eq] at ok
    obtain ⟨rfl, rfl, h1⟩ := ok
    exact lv_sipush (v := Int32.ofInt x) hx hb hd (es_b16 h1) kk
  · rename_i ix
    rw [Bool.and_eq_true] at ok
    have h0 := Nat.eq_of_beq_eq_true ok.1
    subst h0
    exact lv_ldc (v := Int32.ofInt v) hx hb hown (hts _ (es_KL_w ok.2)) hd kk
  · cases ok
/-- what a field that is put must have -/
abbrev bd_f (own k ix : Nat) (fin : Bool) : Prop := (es_FL.any fun q => Nat.beq q.1 own && Nat.beq q.2.1 ix && Nat.beq q.2.2.1 own && Nat.beq q.2.2.2.1 k) = true ∧ k < es_nf own ∧ own < 13 ∧ (es_fd own k).2.2.2 = fin ∧ (es_fd own k).1 = es_cn own
theorem bd_putF (C : bd_C p s m args meth c cc nL own) (hK : va_K D es_cl tys s) (hP : va_P D es_cl ((h0, .inr (own, fs)) :: wr) H) (hD : va_D A ((h0, .inr (own, fs)) :: wr)) (hS : va_S A H0 H locs) {k ix : Nat} {ty : FieldType} {v : Value} (hf : bd_f own k ix true) (hty : es_ty own k = ty) (hn : narrow ty v = v) (hfit : fits ty v = true) (hl : k < fs.length) (hd : decode cc pc = .ok (.putfield ix, 3))
    (kk : ∀ (H1 : Heap) (locs1 : List Loc), va_P D es_cl ((h0, .inr (own, fs.set k v)) :: wr) H1 → va_D A ((h0, .inr (own, fs.set k v)) :: wr) → va_S A H0 H1 locs1 → W p l e R s m args below meth c H1 locs1 cells slots Q (F0 m (pc + 3) ls rest)) : W p l e R s m args below meth c H locs cells slots Q (F0 m pc ls (v :: .ref h0 :: rest)) := by
  obtain ⟨hx, hb, hml, hown, hts, hin⟩ := C
  obtain ⟨f1, f2, f3, f4, f5⟩ := hf
  obtain ⟨g1, g2, g3, g4⟩ := es_cfacts f3
  have hlink := hts _ (es_FL_w f1)
  exact va_putF (D := D) (ci := own) (v := v) (ty := ty) hx hb hts g2 (es_ty own) g3 g4 hown hK hP hD hS 0 rfl g1 k f2 hlink (fun _ z => z) f4 hin f5 (by rw [← hty]; exact g3 k f2) hn hfit hl hd kk
theorem bd_putI (C : bd_C p s m args meth c cc nL own) (hK : va_K D es_cl tys s) (hP : va_P D es_cl ((h0, .inr (own, fs)) :: wr) H) (hD : va_D A ((h0, .inr (own, fs)) :: wr)) (hS : va_S A H0 H locs) {k ix : Nat} {ty : FieldType} {v : Value} (hf : bd_f own k ix false) (hty : es_ty own k = ty) (hn : narrow ty v = v) (hfit : fits ty v = true) (hl : k < fs.length) (hd : decode cc pc = .ok (.putfield ix, 3))
    (kk : ∀ (H1 : Heap) (locs1 : List Loc), va_P D es_cl ((h0, .inr (own, fs.set k v)) :: wr) H1 → va_D A ((h0, .inr (own, fs.set k v)) :: wr) → va_S A H0 H1 locs1 → W p l e R s m args below meth c H1 locs1 cells slots Q (F0 m (pc + 3) ls rest)) : W p l e R s m args below meth c H locs cells slots Q (F0 m pc ls (v :: .ref h0 :: rest)) := by
  obtain ⟨hx, hb, hml, hown, hts, hin⟩ := C
  obtain ⟨f1, f2, f3, f4, f5⟩ := hf
  obtain ⟨g1, g2, g3, g4⟩ := es_cfacts f3
  have hlink := hts _ (es_FL_w f1)
  exact va_put (D := D) (ci := own) (v := v) (ty := ty) hx hb hts g2 (es_ty own) g3 g4 hown hK hP hD hS 0 rfl g1 k f2 hlink (fun _ z => z) f4 (by rw [← hty]; exact g3 k f2) hn hfit hl hd kk
theorem bd_getf (C : bd_C p s m args meth c cc nL own) (hK : va_K D es_cl tys s) (hP : va_P D es_cl ((h0, .inr (own, fs)) :: wr) H) {k ix : Nat} {v : Value} (hf : (es_FL.any fun q => Nat.beq q.1 own && Nat.beq q.2.1 ix && Nat.beq q.2.2.1 own && Nat.beq q.2.2.2.1 k) = true ∧ k < es_nf own ∧ own < 13) (hv : fs[k]? = some v) (hd : decode cc pc = .ok (.getfield ix, 3))
    (kk : W p l e R s m args below meth c H locs cells slots Q (F0 m (pc + 3) ls (v :: rest))) : W p l e R s m args below meth c H locs cells slots Q (F0 m pc ls (.ref h0 :: rest)) := by
  obtain ⟨hx, hb, hml, hown, hts, hin⟩ := C
  obtain ⟨f1, f2, f3⟩ := hf
  obtain ⟨g1, g2, g3, g4⟩ := es_cfacts f3
  have hlink := hts _ (es_FL_w f1)
  exact va_get (D := D) (ci := own) (v := v) hx hb hts g2 hown hK hP 0 rfl g1 k f2 hlink (fun _ z => z) hv hd kk
/-- this.field = new int[n], and its like: aload_0, n, newarray, putfield -/
abbrev bd_a (cc : ByteArray) (own pc lp N k ix : Nat) (ip : Instr) (aty : ArrayType) : Prop :=
  decode cc pc = .ok (.aload_n 0, 1) ∧ decode cc (pc + 1) = .ok (ip, lp) ∧ bd_pok own ip lp N = true ∧ decode cc (pc + 1 + lp) = .ok (.newarray aty, 2) ∧ decode cc (pc + 1 + lp + 2) = .ok (.putfield ix, 3) ∧ bd_f own k ix true ∧ N < 1000000
def bd_ar : ArrayType → Nat → vp_A
  | .long, N => (N, .inr (.inl fun _ => 0))
  | _, N => (N, .inl fun _ => 0)
theorem bd_A (C : bd_C p s m args meth c cc nL own) (hK : va_K D es_cl tys s) (hP : va_P D es_cl ((h0, .inr (own, fs)) :: wr) H) (hD : va_D A ((h0, .inr (own, fs)) :: wr)) (hS : va_S A H0 H locs) (hA : ∀ q, H0.size ≤ q → A q) (hl : ls[0]? = some (.val (.ref h0))) {lp N k ix : Nat} {ip : Instr} {aty : ArrayType} {ty : FieldType} (hok : bd_a cc own pc lp N k ix ip aty) (hz : aty = .int ∨ aty = .long ∨ aty = .boolean) (hty : es_ty own k = .array ty) (hk : k < fs.length) (hcells : cells + 1 ≤ R.cells) (hslots : slots + N ≤ R.slots)
    (kk : ∀ (q : Nat) (cA : ClassId) (H1 : Heap) (locs1 : List Loc), va_K D es_cl (tys ++ [(cA, newarray.typeOf aty)]) s → va_P D es_cl ((h0, .inr (own, fs.set k (.ref q))) :: (wr ++ [(q, .inl (cA, bd_ar aty N))])) H1 → va_D A ((h0, .inr (own, fs.set k (.ref q))) :: (wr ++ [(q, .inl (cA, bd_ar aty N))])) → va_S A H0 H1 locs1 → W p l e R s m args below meth c H1 locs1 (cells + 1) (slots + N) Q (F0 m (pc + 1 + lp + 5) ls [])) : W p l e R s m args below meth c H locs cells slots Q (F0 m pc ls []) := by
  obtain ⟨d0, d1, d2, d3, d4, hf, hN⟩ := hok
  have C' := C
  obtain ⟨hx, hb, hml, hown, hts, hin⟩ := C'
  refine lv_aload_n hx hb d0 rfl hl ?_
  refine bd_push C d2 d1 ?_
  have r : es_r32 (N : Int) := ⟨by omega, by omega⟩
  have hneg : ¬ Int32.ofInt (N : Int) < 0 := by rw [show (0 : Int32) = Int32.ofInt 0 from rfl, es_lt32 r es_r0]; omega
  have hcl : (Int32.ofInt (N : Int)).toNatClampNeg = N := by rw [es_cl' r]; omega
  have har : (Cond.arrayClass (newarray.typeOf aty)).before args s = true := by
    rcases hz with rfl | rfl | rfl
    · exact hts _ es_wI
    · exact hts _ es_wJ
    · exact hts _ es_wZ
  refine va_newa (a0 := bd_ar aty N) (N' := N) hx hb har rfl hK hP hD hS hA (fun cA => ?_) hneg hcl ?_ hcells hslots d3 (fun q cA H1 hK1 hP1 hD1 hS1 => ?_)
  · rcases hz with rfl | rfl | rfl <;> rfl
  · rcases hz with rfl | rfl | rfl
    · show N * 4 ≤ _; omega
    · show N * 8 ≤ _; omega
    · show N * 1 ≤ _; omega
  · exact bd_putF C hK1 hP1 hD1 hS1 hf hty rfl rfl hk d4 (fun H2 locs2 hP2 hD2 hS2 => kk q cA H2 locs2 hK1 hP2 hD2 hS2)
end
