/-! THE CONSTRUCTORS (2): Arrays.fill on a cell of its own; fields out of arguments; a fill -/
theorem bd_cell {cA : ClassId} {n : Nat} {f g : Nat → Int32} (h : ∀ j, j < n → f j = g j) : vp_cell cA (n, .inl f) = vp_cell cA (n, .inl g) := by
  rw [vp_cell_i, vp_cell_i]
  unfold arrV
  congr 1
  apply Array.ext
  · simp
  · intro i h1 h2
    simp at h1 ⊢
    rw [h i h1]
def bd_fy : MethodName := ⟨"java/util/Arrays", "fill", "([II)V"⟩
def bd_fc : ByteArray := (es_mi[290]?.map fun q => q.2.1).getD ⟨#[]⟩
theorem bd_fq : ∃ q, es_mi[290]? = some q ∧ q.1 = bd_fy ∧ q.2.1 = bd_fc ∧ q.2.2.1 = 4 ∧ q.2.2.2.1 = none := ⟨_, rfl, rfl, rfl, rfl, rfl⟩
def bd_fw : List Cond := Cond.code bd_fy bd_fc 4 none :: es_WT
theorem bd_fWT : Cond.code bd_fy bd_fc 4 none ∈ es_WT := by
  obtain ⟨q, h1, h2, h3, h4, h5⟩ := bd_fq
  have := es_mw q (List.mem_of_getElem? h1)
  rw [h2, h3, h4, h5] at this
  exact this
abbrev bd_fx : Prop := decode bd_fc 0 = .ok (.iconst 0, 1) ∧ decode bd_fc 1 = .ok (.istore_n 2, 1) ∧ decode bd_fc 2 = .ok (.aload_n 0, 1) ∧ decode bd_fc 3 = .ok (.arraylength, 1) ∧ decode bd_fc 4 = .ok (.istore_n 3, 1) ∧ decode bd_fc 5 = .ok (.iload_n 2, 1) ∧ decode bd_fc 6 = .ok (.iload_n 3, 1) ∧ decode bd_fc 7 = .ok (.if_icmp .ge 13, 3) ∧ decode bd_fc 10 = .ok (.aload_n 0, 1) ∧ decode bd_fc 11 = .ok (.iload_n 2, 1) ∧ decode bd_fc 12 = .ok (.iload_n 1, 1) ∧ decode bd_fc 13 = .ok (.iastore, 1) ∧ decode bd_fc 14 = .ok (.iinc 2 1, 3) ∧ decode bd_fc 17 = .ok (.goto (-12), 3) ∧ decode bd_fc 20 = .ok (.return_, 1)
theorem bd_fd : bd_fx := by decide +kernel
def bd_one (a : Nat) : Nat → Prop := fun q => q = a
theorem bd_fill (l : Launch) (D : va_G) (a n : Nat) (cA : ClassId) (f : Nat → Int32) (v : Int32) (hn : n < 1000000) : Met l bd_fy bd_fw ({ frames := 1, cells := 0, slots := 0, locals := 64 }) (va_Pc [.ref a, .int v] (fun U => va_P D es_cl [(a, .inl (cA, n, .inl f))] U.heap ∧ va_K D es_cl [(cA, .int)] U)) (va_Qv (fun _ : Unit => True) (fun _ t => va_P D es_cl [(a, .inl (cA, n, .inl fun _ => v))] t.heap) (bd_one a)) 0 0 (bd_one a) := by
  refine Met.ofW (cc := bd_fc) (maxL := 4) (ret := none) (by decide) rfl ?_
  intro p e s m args below meth c s₁ B hml hv
  obtain ⟨rfl, hP, hK⟩ := hv
  have hx := B.exec
  have hb := B.bytes
  have hr := B.returns
  have hlocks := B.notSynchronized
  have hD : va_D (bd_one a) [(a, .inl (cA, n, .inl f))] := by
    refine ⟨fun i j x y hx hy _ => ?_, fun k x hx => ?_⟩
    · have := (List.getElem?_eq_some_iff.mp hx).1
      have := (List.getElem?_eq_some_iff.mp hy).1
      simp at *; omega
    · have h1 := List.mem_of_getElem? hx
      simp at h1
      rw [h1]; rfl
  have hS : va_S (bd_one a) s.heap s.heap [] := va_S.rf
  obtain ⟨d0, d1, d2, d3, d4, d5, d6, d7, d10, d11, d12, d13, d14, d17, d20⟩ := bd_fd
  have hl := lv_entry ([.ref a, .int v]) (n := 4) (Nat.le_of_ble_eq_true rfl)
  rw [lg_entry_eq]
  generalize (lg_sl ([.ref a, .int v]) ++ List.replicate (4 - (lg_sl ([.ref a, .int v])).length) Slot.unset).toArray = ls at hl ⊢
  have hl : lv_has ls 4 [(0, .ref a), (1, .int v)] := hl
  refine lv_iconst (v := Int32.ofInt 0) hx hb d0 rfl ?_
  refine lv_istore_n (lv' := [(2, .int (Int32.ofInt 0)), (0, .ref a), (1, .int v)]) hx hb d1 rfl hl (by decide) rfl (fun ls hl => ?_)
  refine lv_aload_n hx hb d2 rfl (lv_at hl 1 rfl) ?_
  refine va_alen hx hb hK hP 0 0 rfl rfl (v := Int32.ofInt (n : Int)) rfl d3 ?_
  refine lv_istore_n (lv' := [(3, .int (Int32.ofInt (n : Int))), (2, .int (Int32.ofInt 0)), (0, .ref a), (1, .int v)]) hx hb d4 rfl hl (by decide) rfl (fun ls hl => ?_)
  have loop : ∀ (k i : Nat) (g : Nat → Int32) (ls : Array Slot) (H : Heap) (locs : List Loc), i + k = n → (∀ j, j < i → g j = v) → lv_has ls 4 [(2, .int (Int32.ofInt (i : Int))), (3, .int (Int32.ofInt (n : Int))), (0, .ref a), (1, .int v)] → va_P D es_cl [(a, .inl (cA, n, .inl g))] H → va_D (bd_one a) [(a, .inl (cA, n, .inl g))] → va_S (bd_one a) s.heap H locs → W p l e (headSpec bd_fw { frames := 1, cells := 0, slots := 0, locals := 64 }).room s m [Value.ref a, Value.int v].toArray below meth c H locs 0 0 (MQ below (va_Qv (fun _ : Unit => True) (fun _ t => va_P D es_cl [(a, .inl (cA, n, .inl fun _ => v))] t.heap) (bd_one a)) [Value.ref a, Value.int v].toArray s 0 0 (bd_one a)) (F0 m 5 ls []) := by
    intro k
    induction k with
    | zero =>
      intro i g ls H locs hi hg hl hP hD hS
      have e : i = n := by omega
      subst e
      refine lv_iload_n hx hb d5 rfl (lv_at hl 0 rfl) (lv_iload_n hx hb d6 rfl (lv_at hl 1 rfl) (lv_icmp_ge hx hb d7 (tgt := 20) rfl (fun _ => ?_) (fun z => absurd (Int32.le_refl _) z)))
      refine W.vret hx hb hr (fun t ht hW => ⟨⟨(), rfl, trivial, ?_⟩, hS.F ht⟩) hS.2.2 d20
      show va_P D es_cl [(a, .inl (cA, i, .inl fun _ => v))] t.heap
      rw [ht]
      intro k q hq
      cases k with
      | zero =>
        have e : (a, (Sum.inl (cA, i, Sum.inl fun _ => v) : va_E)) = q := Option.some.inj hq
        subst e
        have h0 := hP 0 _ rfl
        show H[a]? = some (vp_cell cA (i, .inl fun _ => v))
        rw [← bd_cell (f := g) hg]
        exact h0
      | succ k => cases hq
    | succ k ih =>
      intro i g ls H locs hi hg hl hP hD hS
      have ri : es_r32 (i : Int) := ⟨by omega, by omega⟩
      have rn : es_r32 (n : Int) := ⟨by omega, by omega⟩
      refine lv_iload_n hx hb d5 rfl (lv_at hl 0 rfl) (lv_iload_n hx hb d6 rfl (lv_at hl 1 rfl) (lv_icmp_ge hx hb d7 (tgt := 20) rfl (fun z => absurd ((es_le32 rn ri).mp z) (by omega)) (fun _ => ?_)))
      refine lv_aload_n hx hb d10 rfl (lv_at hl 2 rfl) (lv_iload_n hx hb d11 rfl (lv_at hl 0 rfl) (lv_iload_n hx hb d12 rfl (lv_at hl 3 rfl) ?_))
      refine va_iast hx hb hK hP hD hS 0 0 rfl rfl (es_in ri (by omega) (n := (n : Int)) (by omega)) d13 (fun H1 locs1 hP1 hD1 hS1 => ?_)
      refine lv_iinc (k := 0) (v := Int32.ofInt ((i + 1 : Nat) : Int)) (lv' := [(2, .int (Int32.ofInt ((i + 1 : Nat) : Int))), (3, .int (Int32.ofInt (n : Int))), (0, .ref a), (1, .int v)]) hx hb d14 hl rfl (by rw [← Int32.ofInt_add]; rfl) (by decide) rfl (fun ls hl => ?_)
      refine lv_goto hx hb d17 (tgt := 5) rfl ?_
      have ecl : (Int32.ofInt (i : Int)).toNatClampNeg = i := by rw [es_cl' ri]; omega
      rw [ecl] at hP1 hD1
      refine ih (i + 1) (upd g i v) ls H1 locs1 (by omega) (fun j hj => ?_) hl hP1 hD1 hS1
      by_cases e : j = i
      · subst e; exact pk_us
      · rw [pk_un e]; exact hg j (by omega)
  exact loop n 0 f ls s.heap [] (by omega) (fun j hj => by omega) (lv_sub hl [1, 0, 2, 3] rfl) hP hD hS
section
variable {p : Program} {l : Launch} {e : Env} {R : Room} {s : State} {m : MethodId} {args : Array Value} {below : List Frame} {meth : Method} {c : Code} {H H0 : Heap} {locs : List Loc} {cells slots : Nat} {Q : State → Prop}
variable {cc : ByteArray} {nL own pc : Nat} {ls : Array Slot} {rest : List Value} {D : va_G} {A : Nat → Prop} {tys : List (ClassId × FieldType)} {wr : va_W} {h0 : Nat} {fs : List Value}
/-- this.field = an argument -/
abbrev bd_r (cc : ByteArray) (own pc k ix : Nat) (j : Fin 4) : Prop := decode cc pc = .ok (.aload_n 0, 1) ∧ decode cc (pc + 1) = .ok (.aload_n j, 1) ∧ decode cc (pc + 2) = .ok (.putfield ix, 3) ∧ bd_f own k ix true
theorem bd_R (C : bd_C p s m args meth c cc nL own) (hK : va_K D es_cl tys s) (hP : va_P D es_cl ((h0, .inr (own, fs)) :: wr) H) (hD : va_D A ((h0, .inr (own, fs)) :: wr)) (hS : va_S A H0 H locs) (hl : ls[0]? = some (.val (.ref h0))) {k ix : Nat} {j : Fin 4} {a : Nat} {ty : FieldType} (hok : bd_r cc own pc k ix j) (hj : ls[(j : Nat)]? = some (.val (.ref a))) (hty : es_ty own k = ty) (hn : narrow ty (.ref a) = .ref a) (hfit : fits ty (.ref a) = true) (hk : k < fs.length)
    (kk : ∀ (H1 : Heap) (locs1 : List Loc), va_P D es_cl ((h0, .inr (own, fs.set k (.ref a))) :: wr) H1 → va_D A ((h0, .inr (own, fs.set k (.ref a))) :: wr) → va_S A H0 H1 locs1 → W p l e R s m args below meth c H1 locs1 cells slots Q (F0 m (pc + 5) ls [])) : W p l e R s m args below meth c H locs cells slots Q (F0 m pc ls []) := by
  obtain ⟨d0, d1, d2, hf⟩ := hok
  have C' := C
  obtain ⟨hx, hb, hml, hown, hts, hin⟩ := C'
  exact lv_aload_n hx hb d0 rfl hl (lv_aload_n hx hb d1 rfl hj (bd_putF C hK hP hD hS hf hty hn hfit hk d2 kk))
/-- Object() -/
theorem bd_O (C : bd_C p s m args meth c cc nL own) (hs : ls.size = nL) (hl : ls[0]? = some (.val (.ref h0))) {ix : Nat} (hw : Cond.methodLink (es_cn own) ix Lib.objectInit ∈ es_WT) (hok : decode cc 0 = .ok (.aload_n 0, 1) ∧ decode cc 1 = .ok (.invokespecial ix, 3)) (hR : 1 ≤ R.frames ∧ 12 ≤ R.locals) (kk : W p l e R s m args below meth c H locs cells slots Q (F0 m 4 ls [])) : W p l e R s m args below meth c H locs cells slots Q (F0 m 0 ls []) := by
  obtain ⟨hx, hb, hml, hown, hts, hin⟩ := C
  refine lv_aload_n hx hb hok.1 rfl hl ?_
  refine W.objInit hx hb hown (hts _ hw) (hts _ es_wO1) (hts _ es_wO2) rfl (by rw [hml]; exact hs) rfl hok.2 hR.1 (by simpa using hR.2) ?_
  exact W.eq (g2 := F0 m 4 ls []) rfl kk
/-- Arrays.fill(this.field, v) -/
abbrev bd_l (cc : ByteArray) (own pc lp k ix im : Nat) (ip : Instr) (v : Int) : Prop := decode cc pc = .ok (.aload_n 0, 1) ∧ decode cc (pc + 1) = .ok (.getfield ix, 3) ∧ decode cc (pc + 4) = .ok (ip, lp) ∧ bd_pok own ip lp v = true ∧ decode cc (pc + 4 + lp) = .ok (.invokestatic im, 3) ∧ (es_FL.any fun q => Nat.beq q.1 own && Nat.beq q.2.1 ix && Nat.beq q.2.2.1 own && Nat.beq q.2.2.2.1 k) = true ∧ k < es_nf own ∧ own < 13
theorem bd_ini : Cond.initialized "java/util/Arrays" ∈ es_WT := es_WT_at (p := 1003) (by decide +kernel)
theorem bd_good : ∀ w ∈ es_WT, goodWord w = true := fun _ hw => (List.mem_filter.mp hw).2
theorem bd_gi {y : MethodName} {cc : ByteArray} {n : Nat} {ret : Option FieldType} (h : Cond.code y cc n ret ∈ es_WT) : GoodIn es_WT (Cond.code y cc n ret :: es_WT) := fun w hw => by
  rcases List.mem_cons.mp hw with rfl | hw
  · exact ⟨h, good_of_word (bd_good _ h)⟩
  · exact ⟨hw, good_of_word (bd_good _ hw)⟩
end
