/-! a throw of a callee, caught by the first row of the table of its caller, whose class may not be linked yet (the rounds' library has no such law) -/
section
variable {p : Program} {l : Launch} {e : Env} {R : Room} {s : State} {m : MethodId} {args : Array Value} {below : List Frame} {meth : Method} {c : Code} {H : Heap} {locs : List Loc} {cells slots : Nat} {Q : State → Prop} {pc : Nat} {ls : Array Slot} {rest : List Value}
theorem xc_swap (T : State) (v : Vm) (F G : List Frame) : ((T.setFrames F).setVm v).setFrames G = (T.setVm v).setFrames G := by
  show ((T.setVm v).setFrames F).setFrames G = _
  rw [State.setFrames_setFrames]
theorem xc_find {S : State} {f : JFrame} {q : Addr} {mt : Method} {co : Code} {x : ExceptionTableEntry} {suf : List ExceptionTableEntry} {k : ClassId} {ce : Cell} (hm : S.vm.method? f.method = some mt) (hc : mt.code = some co) (ht : co.exceptionTable.toList = x :: suf) (hx : covers x f.pc = true) (h0 : x.catchType ≠ 0)
    (hl : S.vm.ClassLinks e.platform f.method.cls x.catchType k) (hce : S.heap[q]? = some ce) (hv : ∀ z, ce.vm ≠ .statics z) (h1 : ∃ z, S.vm.classes[ce.cls]? = some z) (h2 : ∃ z, S.vm.classes[k]? = some z) (hfit : S.vm.assignable ce.cls k = true) (Q' : Handler → Pre) (E' : CtlPost) (d' : Bool) (acts : List Action) :
    Sem.wp (findHandler f q) Q' E' e d' acts S ↔ Q' (.found x.handlerPc) d' acts (S.setVm (S.vm.noted f.method.cls x.catchType (.cls k))) := by
  rw [Jvm.W.findHandler_eq hm hc, ht]
  simp only [covers] at hx
  have hal : S.vm.Alike (S.vm.noted f.method.cls x.catchType (.cls k)) := (Vm.Alike.refl S.vm).noted _ _ _
  obtain ⟨z1, e1⟩ := h1
  obtain ⟨z2, e2⟩ := h2
  obtain ⟨y1, g1, -⟩ := hal.2.2 _ _ e1
  obtain ⟨y2, g2, -⟩ := hal.2.2 _ _ e2
  have fit : (S.vm.noted f.method.cls x.catchType (.cls k)).assignable ce.cls k = true := by rw [hal.assignable]; exact hfit
  obtain ⟨a1, a2⟩ := (resolveClass_links e.toSetting hl).op (op := VmOp.resolveClass f.method.cls x.catchType) rfl
  simp [findHandler.go, hx, h0, a1, a2, hce, hv, g1, g2, fit, VmOp.dirties, VmOp.acts]
theorem xc_step {S : State} {q : Addr} {f : JFrame} {r : List Frame} {h : Nat} {v : Vm} (hf : ∀ (Q' : Handler → Pre) (E' : CtlPost) (d' : Bool) (acts : List Action), Sem.wp (findHandler f q) Q' E' e d' acts S ↔ Q' (.found h) d' acts (S.setVm v)) : (stepThrowing e S q (.java f :: r)).Is ((S.setVm v).setFrames (.java { f with pc := h, stack := [.ref q] } :: r)) [] := by
  simp only [stepThrowing, searchFrame, vmDo]
  generalize hg : Sem.go _ e false [] S = z
  obtain ⟨as, rfl, ha⟩ := Sem.eq_ok_of hg (a := Handler.found h) (s' := S.setVm v) (acts' := []) (by simp [hf _ _ _ _])
  exact ⟨rfl, ha⟩
theorem xc_catch {own name : String} {E : String} {ce : Cell} {q : Addr} (hown : s.vm.findClass own = some m.cls) {x : ExceptionTableEntry} {suf : List ExceptionTableEntry} (ht : c.exceptionTable.toList = x :: suf) (hx : covers x pc = true) (h0 : x.catchType ≠ 0)
    (hlink : (Cond.classLink own x.catchType name).before args s = true) (hcast : (Cond.castable E name).before args s = true) (hcell : H[q]? = some ce) (hv : ce.vm = .none) (hcl : s.vm.findClass E = some ce.cls)
    (kk : W p l e R s m args below meth c H locs cells slots Q (F0 m x.handlerPc ls [.ref q])) : vx_W p l e R s m args below meth c H locs cells slots Q (F0 m pc ls rest) q := by
  intro T hT X
  have hpl : e.platform.magicAccessors = ({} : Platform).magicAccessors := by rw [X.admits.platform]
  obtain ⟨c3, c4, hc3, hc4, hasg⟩ := Cond.castable_spec hcast
  cases Option.some.inj (hc3.symm.trans hcl)
  obtain ⟨c5, hc5, hcl5⟩ := Cond.classLink_spec hown hlink e.platform hpl
  cases Option.some.inj (hc4.symm.trans hc5)
  obtain ⟨dk, _, _, kt, hd, _, _, _, _, hkt, _, hopen⟩ := hcl5.here
  have hal := X.warmed.alike
  obtain ⟨kt', hkt', -⟩ := hal.2.2 _ _ hkt
  have hfit : T.vm.assignable ce.cls c4 = true := by rw [hal.assignable]; exact hasg
  have X' := X.noted (X.warmed.noted hd hopen (State.rightAt_cls hcl5))
  obtain ⟨t2, a1, b1⟩ := kk (T.setVm (T.vm.noted m.cls x.catchType (.cls c4))) hT X'
  refine ⟨t2, ?_, b1⟩
  have h : At T (F0 m pc ls rest).method c below := X.here
  obtain ⟨hgo, hw⟩ := h.throwing q
  obtain ⟨g0, hr⟩ := X.frames_eq
  have hr' : (T.setVm (T.vm.noted m.cls x.catchType (.cls c4))).frames = .java g0 :: below := hr
  have find := xc_find (e := e) (S := (T.setTop (F0 m pc ls rest)).pushFrame (.throwing q)) (f := F0 m pc ls rest) (q := q) (mt := meth) (co := c) (x := x) (suf := suf) (k := c4) (ce := ce) X.method' X.code ht hx h0 (X.warmed.classLinks hcl5) (by show T.heap[q]? = some ce; rw [hT]; exact hcell) (VmData.ne_statics_of (by rw [hv]; rfl)) (Vm.classAt_of_assignable hfit ⟨kt', hkt'⟩) ⟨kt', hkt'⟩ hfit
  refine Steps.head hgo hw ?_
  rw [stepThread_throwing (frames_entered h.top _), (xc_step find).1, hr, List.tail_cons, State.pushFrame, xc_swap, State.setTop_of_frames _ hr, xc_swap]
  rw [State.setTop_of_frames _ hr'] at a1
  exact a1
end
