/-! THE CONSTRUCTORS (3): a fill; a new object and its constructor's call -/
theorem bd_set {D : va_G} {cl : List vw_C} {A : Nat → Prop} {i : Nat} {ws : va_W} {a : Nat} {e0 e : va_E} {H H1 : Heap} (h : va_P D cl ws H) (hD : va_D A ws) (hp : ws[i]? = some (a, e0)) (he : va_at D cl (a, e) H1) (oq : ∀ q : Nat, q < H.size → q ≠ a → H1[q]? = H[q]?) : va_P D cl (ws.set i (a, e)) H1 := by
  intro k q hq
  rw [List.getElem?_set] at hq
  split at hq
  · split at hq
    · cases hq; exact he
    · cases hq
  · rename_i ne
    refine (h k q hq).kept (oq q.1 (h k q hq).lt (fun z => ne ?_))
    exact hD.1 i k (a, e0) q hp hq z.symm
theorem bd_join {D : va_G} {cl : List vw_C} {A0 : Nat → Prop} {X w1 : va_W} {q : Nat} {e0 : va_E} {H H1 : Heap} (hP : va_P D cl (X ++ [(q, e0)]) H) (hD : va_D A0 (X ++ [(q, e0)])) (hk : ∀ y : Nat, y < H.size → ¬ va_A [(q, e0)] H.size y → H1[y]? = H[y]?) (hF : ∀ y, va_A [(q, e0)] H.size y → A0 y) (hP1 : va_P D cl w1 H1) (hD1 : va_D (va_A [(q, e0)] H.size) w1) : va_P D cl (X ++ w1) H1 ∧ va_D A0 (X ++ w1) := by
  have pl : ∀ (i : Nat) (y : Nat × va_E), X[i]? = some y → (X ++ [(q, e0)])[i]? = some y := fun i y h => by rw [List.getElem?_append_left (List.getElem?_eq_some_iff.mp h).1]; exact h
  have lst : (X ++ [(q, e0)])[X.length]? = some (q, e0) := by simp
  have apart : ∀ (i : Nat) (y : Nat × va_E), X[i]? = some y → y.1 < H.size ∧ ¬ va_A [(q, e0)] H.size y.1 := by
    intro i y hy
    have lt := (hP i y (pl i y hy)).lt
    refine ⟨lt, fun h => ?_⟩
    rcases h with ⟨k, e, h⟩ | h
    · have e1 : y.1 = q := by
        cases k with
        | zero => have := Option.some.inj h; rw [Prod.ext_iff] at this; exact this.1.symm
        | succ k => cases h
      have := hD.1 i X.length y (q, e0) (pl i y hy) lst e1
      have := (List.getElem?_eq_some_iff.mp hy).1
      omega
    · omega
  refine ⟨va_P.app (fun i y hy => ((hP i y (pl i y hy)).kept (hk y.1 (apart i y hy).1 (apart i y hy).2))) hP1, va_D.app ⟨fun i j x y hx hy hxy => hD.1 i j x y (pl i x hx) (pl j y hy) hxy, fun i y hy => hD.2 i y (pl i y hy)⟩ (hD1.weaken (fun k y _ h => hF y.1 h)) (fun i j x y hx hy hxy => ?_)⟩
  exact (apart i x hx).2 (by rw [hxy]; exact hD1.2 j y hy)
/-- a constructor's contract: one cell comes in, the object; w1 goes out -/
def bd_Ct (l : Launch) (y : MethodName) (cc : ByteArray) (nL d mc ms ci : Nat) (fs0 av : List Value) (w1 : Nat → (Nat → Nat) → (Nat → ClassId) → va_W) (t1 : (Nat → ClassId) → List (ClassId × FieldType)) : Prop :=
  ∀ (D : va_G) (h0 sz : Nat), Met l y (Cond.code y cc nL none :: es_WT) ({ frames := d, cells := mc, slots := ms, locals := 64 * d }) (va_Pc (.ref h0 :: av) (fun U => U.heap.size = sz ∧ va_P D es_cl [(h0, .inr (ci, fs0))] U.heap ∧ va_K D es_cl [] U))
    (va_Qv (fun _ : (Nat → Nat) × (Nat → ClassId) => True) (fun u t => va_P D es_cl (w1 h0 u.1 u.2) t.heap ∧ va_K D es_cl (t1 u.2) t ∧ va_D (va_A [(h0, .inr (ci, fs0))] sz) (w1 h0 u.1 u.2)) (va_A [(h0, .inr (ci, fs0))] sz)) mc ms (va_A [(h0, .inr (ci, fs0))] sz)
theorem bd_D1 {q : Nat} {e0 : va_E} {sz : Nat} : va_D (va_A [(q, e0)] sz) [(q, e0)] := by
  refine ⟨fun i j x y hx hy _ => ?_, fun k x hx => va_A.in hx⟩
  have := (List.getElem?_eq_some_iff.mp hx).1
  have := (List.getElem?_eq_some_iff.mp hy).1
  simp at *; omega
section
variable {p : Program} {l : Launch} {e : Env} {R : Room} {s : State} {m : MethodId} {args : Array Value} {below : List Frame} {meth : Method} {c : Code} {H H0 : Heap} {locs : List Loc} {cells slots : Nat} {Q : State → Prop}
variable {cc : ByteArray} {nL own pc : Nat} {ls : Array Slot} {rest : List Value} {D : va_G} {A : Nat → Prop} {tys : List (ClassId × FieldType)} {wr : va_W} {h0 : Nat} {fs : List Value}
theorem bd_F (C : bd_C p s m args meth c cc nL own) (hK : va_K D es_cl tys s) (hP : va_P D es_cl ((h0, .inr (own, fs)) :: wr) H) (hD : va_D A ((h0, .inr (own, fs)) :: wr)) (hS : va_S A H0 H locs) (hl : ls[0]? = some (.val (.ref h0))) (hs : ls.size = nL) {lp k ix im i t0 a n : Nat} {ip : Instr} {v : Int} {cA : ClassId} {f : Nat → Int32} (hok : bd_l cc own pc lp k ix im ip v) (hw : Cond.methodLink (es_cn own) im bd_fy ∈ es_WT) (hv : fs[k]? = some (.ref a)) (hi : wr[i]? = some (a, .inl (cA, n, .inl f))) (ht : tys[t0]? = some (cA, .int)) (hn : n < 1000000) (hR : 2 ≤ R.frames ∧ 87 ≤ R.locals ∧ cells ≤ R.cells ∧ slots ≤ R.slots)
    (kk : ∀ (H1 : Heap) (locs1 : List Loc), va_P D es_cl ((h0, .inr (own, fs)) :: wr.set i (a, .inl (cA, n, .inl fun _ => Int32.ofInt v))) H1 → va_D A ((h0, .inr (own, fs)) :: wr.set i (a, .inl (cA, n, .inl fun _ => Int32.ofInt v))) → va_S A H0 H1 locs1 → W p l e R s m args below meth c H1 locs1 cells slots Q (F0 m (pc + 4 + lp + 3) ls [])) : W p l e R s m args below meth c H locs cells slots Q (F0 m pc ls []) := by
  obtain ⟨d0, d1, d2, d3, d4, f1, f2, f3⟩ := hok
  have C' := C
  obtain ⟨hx, hb, hml, hown, hts, hin⟩ := C'
  refine lv_aload_n hx hb d0 rfl hl ?_
  refine bd_getf C hK hP ⟨f1, f2, f3⟩ hv d1 ?_
  refine bd_push C d3 d2 ?_
  have hi' : ((h0, .inr (own, fs)) :: wr : va_W)[i + 1]? = some (a, .inl (cA, n, .inl f)) := hi
  have hAa : A a := hD.2 (i + 1) _ hi'
  have hPc : va_P D es_cl [(a, .inl (cA, n, .inl f))] H := fun k q hq => by
    cases k with
    | zero => have := Option.some.inj hq; rw [← this]; exact hP (i + 1) _ hi'
    | succ k => cases hq
  have hKc : va_K D es_cl [(cA, .int)] s := ⟨hK.1, fun k q hq => by
    cases k with
    | zero => have := Option.some.inj hq; rw [← this]; exact hK.2 t0 _ ht
    | succ k => cases hq⟩
  refine va_callv (S := Unit) (A1 := bd_one a) (va_runS (As := [.ref a, .int (Int32.ofInt v)]) (rest := []) (Ts := es_WT) ⟨hx, hb, hml, hown, hts⟩ (bd_fill l D a n cA f (Int32.ofInt v) hn) ⟨callB_of 2 hts (bd_gi bd_fWT) rfl rfl rfl (hts _ bd_ini) (hts _ hw) (by decide +kernel) ⟨hR.1, hR.2.1⟩, hts _ (es_WT_at (p := 1037) (by decide +kernel))⟩ ⟨fun a U g mk q => ⟨q.1, q.2.1, va_K.moved (u := U) (Vm.Alike.refl U.vm) q.2.2⟩, fun U hU hW => ⟨rfl, by rw [hU]; exact hPc, va_K.moved hW.alike hKc⟩⟩ rfl rfl hs rfl (lv_room (Nat.le_of_ble_eq_true rfl)) d4 ⟨hR.2.2.1, hR.2.2.2⟩) hS (fun q _ h => by rw [show q = a from h]; exact hAa) (fun q h => by rw [show q = a from h]; exact hAa) (fun u t H1 locs1 e1 hvm _ hB hz1 hk1 hS1 => ?_)
  have hat : va_at D es_cl (a, .inl (cA, n, .inl fun _ => Int32.ofInt v)) H1 := by rw [← e1]; exact hB 0 _ rfl
  exact kk H1 locs1 (bd_set (i := i + 1) hP hD hi' hat (fun q h1 h2 => hk1 q h1 h2)) (va_D.set (p := i + 1) hD hi') hS1
/-- new C, dup -/
abbrev bd_n (cc : ByteArray) (pc ic : Nat) : Prop := decode cc pc = .ok (.new ic, 3) ∧ decode cc (pc + 3) = .ok (.dup, 1)
theorem bd_new (C : bd_C p s m args meth c cc nL own) (hK : va_K D es_cl tys s) (hP : va_P D es_cl ((h0, .inr (own, fs)) :: wr) H) (hD : va_D A ((h0, .inr (own, fs)) :: wr)) (hS : va_S A H0 H locs) (hA : ∀ q, H0.size ≤ q → A q) {ci ic : Nat} {fs0 : List Value} (h13 : ci < 13) (hok : bd_n cc pc ic) (hw1 : Cond.classLink (es_cn own) ic (es_cn ci) ∈ es_WT) (hw2 : Cond.instantiable (es_cn ci) (es_nf ci) ∈ es_WT) (hw3 : Cond.initialized (es_cn ci) ∈ es_WT) (hfs : ∀ j, j < es_nf ci → defaultValue (es_ty ci j) = vp_V fs0 j) (hcells : cells + 1 ≤ R.cells) (hslots : slots + es_nf ci ≤ R.slots)
    (kk : ∀ (q : Nat) (H1 : Heap), va_P D es_cl ((h0, .inr (own, fs)) :: (wr ++ [(q, .inr (ci, fs0))])) H1 → va_D A ((h0, .inr (own, fs)) :: (wr ++ [(q, .inr (ci, fs0))])) → va_S A H0 H1 locs → W p l e R s m args below meth c H1 locs (cells + 1) (slots + es_nf ci) Q (F0 m (pc + 4) ls (.ref q :: .ref q :: rest))) : W p l e R s m args below meth c H locs cells slots Q (F0 m pc ls rest) := by
  obtain ⟨hx, hb, hml, hown, hts, hin⟩ := C
  obtain ⟨g1, g2, g3, g4⟩ := es_cfacts h13
  refine va_new (ci := ci) (fs := fs0) hx hb hts g2 (es_ty ci) g3 hown (hts _ hw1) (hts _ hw2) (hts _ hw3) hK hP hD hS hA g1 hfs hcells hslots hok.1 (fun q H1 hP1 hD1 hS1 => ?_)
  exact lv_dup hx hb hok.2 rfl (kk q H1 hP1 hD1 hS1)
/-- a constructor is called on the last cell -/
theorem bd_call (C : bd_C p s m args meth c cc nL own) (hK : va_K D es_cl tys s) {X : va_W} {q ci : Nat} {fs0 av : List Value} (hP : va_P D es_cl (X ++ [(q, .inr (ci, fs0))]) H) (hD : va_D A (X ++ [(q, .inr (ci, fs0))])) (hS : va_S A H0 H locs) (hA : ∀ q, H0.size ≤ q → A q) (hs : ls.size = nL) {y : MethodName} {cc' : ByteArray} {nL' d mc ms im : Nat} {w1 : Nat → (Nat → Nat) → (Nat → ClassId) → va_W} {t1 : (Nat → ClassId) → List (ClassId × FieldType)} (hM : bd_Ct l y cc' nL' d mc ms ci fs0 av w1 t1)
    (hc : Cond.code y cc' nL' none ∈ es_WT) (hi : Cond.initialized y.cls ∈ es_WT) (hl : Cond.methodLink (es_cn own) im y ∈ es_WT) (hin : Cond.instanceMethod y ∈ es_WT) (hy : y.name = "<init>") (hd : y.cls ≠ "java/lang/invoke/MethodHandle" ∧ y.cls ≠ "java/lang/invoke/VarHandle" ∧ (parseMethodDescriptor y.desc).map (fun d => d.parameters.length) = some av.length) (hR : d + 1 ≤ R.frames ∧ 8 + (nL' + 11) + 64 * d ≤ R.locals ∧ cells + mc ≤ R.cells ∧ slots + ms ≤ R.slots) (hW : (rest.map fun v => v.category).sum ≤ 8) (hdg : decode cc pc = .ok (.invokespecial im, 3))
    (kk : ∀ (u : (Nat → Nat) × (Nat → ClassId)) (H1 : Heap) (locs1 : List Loc), va_K D es_cl (tys ++ t1 u.2) s → va_P D es_cl (X ++ w1 q u.1 u.2) H1 → va_D A (X ++ w1 q u.1 u.2) → va_S A H0 H1 locs1 → W p l e R s m args below meth c H1 locs1 (cells + mc) (slots + ms) Q (F0 m (pc + 3) ls rest)) : W p l e R s m args below meth c H locs cells slots Q (F0 m pc ls (av.reverse ++ .ref q :: rest)) := by
  obtain ⟨hx, hb, hml, hown, hts, hnm⟩ := C
  have lst : (X ++ [(q, (.inr (ci, fs0) : va_E))])[X.length]? = some (q, .inr (ci, fs0)) := by simp
  have hPc : va_P D es_cl [(q, .inr (ci, fs0))] H := fun k x hq => by
    cases k with
    | zero => have := Option.some.inj hq; rw [← this]; exact hP X.length _ lst
    | succ k => cases hq
  have hF : ∀ y, va_A [(q, .inr (ci, fs0))] H.size y → A y := fun y h => by
    rcases h with ⟨k, e, h⟩ | h
    · cases k with
      | zero => have := Option.some.inj h; rw [Prod.ext_iff] at this; have e1 : q = y := this.1; rw [← e1]; exact hD.2 X.length _ lst
      | succ k => cases h
    · exact hA y (by have := hS.1; omega)
  have hKc : va_K D es_cl [] s := ⟨hK.1, fun k q hq => by cases hq⟩
  refine va_callv (va_runI (As := av) (rest := rest) (Ts := es_WT) ⟨hx, hb, hml, hown, hts⟩ (hM D q H.size) (cwI av.length hts (bd_gi hc) rfl rfl rfl (hts _ hi) (hts _ hl) (hts _ hin) hy hd ⟨hR.1, hR.2.1⟩) ⟨fun a U g mk z => ⟨z.1, z.2.1, z.2.2.1, va_K.moved (u := U) (Vm.Alike.refl U.vm) z.2.2.2⟩, fun U hU hW => ⟨rfl, by rw [hU], by rw [hU]; exact hPc, va_K.moved hW.alike hKc⟩⟩ rfl rfl hs rfl (lv_room hW) hdg ⟨hR.2.2.1, hR.2.2.2⟩) hS (fun y _ h => hF y h) hF (fun u t H1 locs1 e1 hvm _ hB hz1 hk1 hS1 => ?_)
  obtain ⟨hP1, hK1, hD1⟩ := hB
  rw [e1] at hP1
  obtain ⟨hP2, hD2⟩ := bd_join hP hD hk1 hF hP1 hD1
  exact kk u H1 locs1 (hK.app (va_K.moved hvm.symm hK1)) hP2 hD2 hS1
end
