/-! THE LAW (8): its entry -/
section
theorem ln_w (k i : Nat) {w : Cond} (h : (es_ck k)[i]? = some w) : w ∈ lw_tbl := es_ck_in (List.mem_of_getElem? h)
theorem ln_B : ∀ w ∈ vw_B, w ∈ lw_tbl := by
  intro w hw
  rcases List.mem_cons.mp hw with rfl | hw
  · exact ln_w 6 85 (by decide +kernel)
  · rcases List.mem_cons.mp hw with rfl | hw
    · exact ln_w 6 86 (by decide +kernel)
    · rcases List.mem_cons.mp hw with rfl | hw
      · exact ln_w 6 88 (by decide +kernel)
      · rcases List.mem_cons.mp hw with rfl | hw
        · exact ln_w 6 90 (by decide +kernel)
        · cases hw
theorem ln_N : ∀ w ∈ es_NW, w ∈ lw_tbl ∧ w.onTables = true := by
  intro w hw
  obtain ⟨q, hq, rfl⟩ := List.mem_map.mp hw
  have h := List.all_eq_true.mp es_MN_ok q hq
  simp only [decide_eq_true_eq] at h
  exact ⟨es_ck_in (List.mem_of_getElem? h), rfl⟩
def ln_p : List Nat := [1023, 1031, 1128, 1209, 1235, 2010, 2045, 2083, 2099, 2121, 2155, 2183, 6149]
theorem ln_pok : (List.range 13).all (fun k => es_at (ln_p.getD k 0) (.instantiable (es_cn k) (es_nf k))) = true := by decide +kernel
theorem ln_i {k : Nat} (h : k < 13) : Cond.instantiable (es_cn k) (es_nf k) ∈ es_WT := es_WT_at (List.all_eq_true.mp ln_pok k (List.mem_range.mpr h))
variable {p : Program} {l : Launch} {e : Env} {R : Room} {s : State} {m : MethodId} {args : Array Value} {below : List Frame} {meth : Method} {c : Code} {H H0 : Heap} {locs : List Loc} {cells slots : Nat} {Q : State → Prop}
variable {cc : ByteArray} {nL own pc : Nat} {ls : Array Slot} {rest : List Value} {D : va_G} {A : Nat → Prop} {tys : List (ClassId × FieldType)} {ws : va_W}
abbrev ln_C (p : Program) (s : State) (m : MethodId) (args : Array Value) (c : Code) (cc : ByteArray) (nL own : Nat) : Prop :=
  p.tables.exec = Jvm.exec ∧ c.code = cc ∧ c.maxLocals = nL ∧ s.vm.findClass (es_cn own) = some m.cls ∧ (∀ w ∈ es_WT, w.before args s = true)
theorem ln_new (C : ln_C p s m args c cc nL own) (hK : va_K D es_cl tys s) (hP : va_P D es_cl ws H) (hD : va_D A ws) (hS : va_S A H0 H locs) (hA : ∀ q, H0.size ≤ q → A q) {ci ic : Nat} {fs0 : List Value} (h13 : ci < 13) (hok : bd_n cc pc ic) (hw1 : Cond.classLink (es_cn own) ic (es_cn ci) ∈ es_WT) (hw3 : Cond.initialized (es_cn ci) ∈ es_WT) (hfs : ∀ j, j < es_nf ci → defaultValue (es_ty ci j) = vp_V fs0 j) (hcells : cells + 1 ≤ R.cells) (hslots : slots + es_nf ci ≤ R.slots)
    (kk : ∀ (q : Nat) (H1 : Heap), va_P D es_cl (ws ++ [(q, .inr (ci, fs0))]) H1 → va_D A (ws ++ [(q, .inr (ci, fs0))]) → va_S A H0 H1 locs → W p l e R s m args below meth c H1 locs (cells + 1) (slots + es_nf ci) Q (F0 m (pc + 4) ls (.ref q :: .ref q :: rest))) : W p l e R s m args below meth c H locs cells slots Q (F0 m pc ls rest) := by
  obtain ⟨hx, hb, hml, hown, hts⟩ := C
  obtain ⟨g1, g2, g3, g4⟩ := es_cfacts h13
  refine va_new (ci := ci) (fs := fs0) hx hb hts g2 (es_ty ci) g3 hown (hts _ hw1) (hts _ (ln_i h13)) (hts _ hw3) hK hP hD hS hA g1 hfs hcells hslots hok.1 (fun q H1 hP1 hD1 hS1 => ?_)
  exact lv_dup hx hb hok.2 rfl (kk q H1 hP1 hD1 hS1)
theorem ln_call (C : ln_C p s m args c cc nL own) (hK : va_K D es_cl tys s) {X : va_W} {q ci : Nat} {fs0 av : List Value} (hP : va_P D es_cl (X ++ [(q, .inr (ci, fs0))]) H) (hD : va_D A (X ++ [(q, .inr (ci, fs0))])) (hS : va_S A H0 H locs) (hA : ∀ q, H0.size ≤ q → A q) (hs : ls.size = nL) {y : MethodName} {cc' : ByteArray} {nL' d mc ms im : Nat} {w1 : (Nat → Nat) × (Nat → ClassId) → va_W} {t1 : (Nat → ClassId) → List (ClassId × FieldType)} {XX : State → Prop}
    (hM : Met l y (Cond.code y cc' nL' none :: es_WT) ({ frames := d, cells := mc, slots := ms, locals := 64 * d }) (va_Pc (.ref q :: av) (fun U => U.heap.size = H.size ∧ va_P D es_cl [(q, .inr (ci, fs0))] U.heap ∧ va_K D es_cl [] U ∧ XX U))
      (va_Qv (fun _ : (Nat → Nat) × (Nat → ClassId) => True) (fun u t => va_P D es_cl (w1 u) t.heap ∧ va_K D es_cl (t1 u.2) t ∧ va_D (va_A [(q, .inr (ci, fs0))] H.size) (w1 u)) (va_A [(q, .inr (ci, fs0))] H.size)) mc ms (va_A [(q, .inr (ci, fs0))] H.size))
    (hb1 : ∀ (a : Array Value) (U : State) (g : JFrame) (mk : MethodId), XX U → XX (U.calling g mk a)) (hw1 : ∀ U : State, s.WarmedH U.vm → XX U)
    (hc : Cond.code y cc' nL' none ∈ es_WT) (hi : Cond.initialized y.cls ∈ es_WT) (hl : Cond.methodLink (es_cn own) im y ∈ es_WT) (hin : Cond.instanceMethod y ∈ es_WT) (hy : y.name = "<init>") (hd : y.cls ≠ "java/lang/invoke/MethodHandle" ∧ y.cls ≠ "java/lang/invoke/VarHandle" ∧ (parseMethodDescriptor y.desc).map (fun d => d.parameters.length) = some av.length) (hR : d + 1 ≤ R.frames ∧ 8 + (nL' + 11) + 64 * d ≤ R.locals ∧ cells + mc ≤ R.cells ∧ slots + ms ≤ R.slots) (hW : (rest.map fun v => v.category).sum ≤ 8) (hdg : decode cc pc = .ok (.invokespecial im, 3))
    (kk : ∀ (u : (Nat → Nat) × (Nat → ClassId)) (H1 : Heap) (locs1 : List Loc), va_K D es_cl (tys ++ t1 u.2) s → va_P D es_cl (X ++ w1 u) H1 → va_D A (X ++ w1 u) → va_S A H0 H1 locs1 → W p l e R s m args below meth c H1 locs1 (cells + mc) (slots + ms) Q (F0 m (pc + 3) ls rest)) : W p l e R s m args below meth c H locs cells slots Q (F0 m pc ls (av.reverse ++ .ref q :: rest)) := by
  obtain ⟨hx, hb, hml, hown, hts⟩ := C
  have lst : (X ++ [(q, (.inr (ci, fs0) : va_E))])[X.length]? = some (q, .inr (ci, fs0)) := by simp
  have hPc : va_P D es_cl [(q, .inr (ci, fs0))] H := fun k x hq => by
    cases k with
    | zero => have := Option.some.inj hq; rw [← this]; exact hP X.length _ lst
    | succ k => cases hq
  have hF : ∀ y, va_A [(q, .inr (ci, fs0))] H.size y → A y := fun y h => by
    rcases h with ⟨k, e, h⟩ | h
    · cases k with
      | zero => have := Option.some.inj h; rw [Prod.ext_iff] at this; have e1 : q = y := this.1; rw [← e1]; exact hD.2 X.length _ lst
      | succ k => cases h
    · exact hA y (by have := hS.1; omega)
  have hKc : va_K D es_cl [] s := ⟨hK.1, fun k q hq => by cases hq⟩
  refine va_callv (va_runI (As := av) (rest := rest) (Ts := es_WT) ⟨hx, hb, hml, hown, hts⟩ hM (cwI av.length hts (bd_gi hc) rfl rfl rfl (hts _ hi) (hts _ hl) (hts _ hin) hy hd ⟨hR.1, hR.2.1⟩) ⟨fun a U g mk z => ⟨z.1, z.2.1, z.2.2.1, va_K.moved (u := U) (Vm.Alike.refl U.vm) z.2.2.2.1, hb1 a U g mk z.2.2.2.2⟩, fun U hU hW => ⟨rfl, by rw [hU], by rw [hU]; exact hPc, va_K.moved hW.alike hKc, hw1 U hW⟩⟩ rfl rfl hs rfl (lv_room hW) hdg ⟨hR.2.2.1, hR.2.2.2⟩) hS (fun y _ h => hF y h) hF (fun u t H1 locs1 e1 hvm _ hB hz1 hk1 hS1 => ?_)
  obtain ⟨hP1, hK1, hD1⟩ := hB
  rw [e1] at hP1
  obtain ⟨hP2, hD2⟩ := bd_join hP hD hk1 hF hP1 hD1
  exact kk u H1 locs1 (hK.app (va_K.moved hvm.symm hK1)) hP2 hD2 hS1
end
section
variable {p : Program} {l : Launch} {e : Env} {s : State} {m : MethodId} {b L : Nat} {xs : Nat → Int32} {below : List Frame} {meth : Method} {c : Code} {D : va_G}
/-- the loop's head is reached: the two fresh objects, the row of one long, the script -/
theorem ln_head (hl : l.stackTraces = false) (hL : L ≤ 2560) (C0 : lw_At p s m meth c b L xs) {ad : Nat → Nat} {cA : Nat → ClassId} {x : Int → Int} (hx : ∀ j : Nat, x (j : Int) = (xs j).toInt) (hx0 : ∀ j, es_r32 (x j)) (hb : ad 140 = b)
    (hK : va_K D es_cl (es_tys cA) s) {H : Heap} {locs : List Loc} (hP : va_P D es_cl (es_ws ad cA (fr_M x)) H) (hD : va_D (fun q : Nat => s.heap.size ≤ q) (es_ws ad cA (fr_M x))) (hS : va_S (fun q : Nat => s.heap.size ≤ q) s.heap H locs)
    {ls : Array Slot} (hls : lv_has ls 7 [(4, .int 0), (3, .ref (ad 139)), (2, .ref (ad 91)), (1, .ref (ad 0)), (0, .ref b)]) : W p l e room_1 s m #[Value.ref b] below meth c H locs 140 180511 (lw_Z below #[Value.ref b] s) (F0 m 23 ls []) := by
  obtain ⟨hex, hbc, hr, hml, hown, hts, hX, hbl, hlocks, hgv⟩ := C0
  have hwt : ∀ w ∈ es_WT, w.before #[Value.ref b] s = true := fun w hw => hts w (List.mem_filter.mp hw).1
  have at' : ∀ k, k < 140 → ∃ c, (es_ws ad cA (fr_M x))[k]? = some (ad k, es_E ad cA (fr_M x) k c) := fun k hk =>
    ⟨_, es_ws_at (List.getElem?_eq_getElem (by rw [es_len]; exact hk))⟩
  have hinj : es_inj ad := fun i j hi hj h => by
    obtain ⟨c1, h1⟩ := at' i hi
    obtain ⟨c2, h2⟩ := at' j hj
    exact hD.1 i j _ _ h1 h2 h
  have hAd : ∀ k, k < 140 → s.heap.size ≤ ad k := fun k hk => by
    obtain ⟨c1, h1⟩ := at' k hk
    exact hD.2 k _ h1
  have hU : es_U D cA s := ⟨hK, fun w hw => va_Nw.of (ln_N w hw).2 (hts w (ln_N w hw).1)⟩
  have hXX : vw_X s := vw_X.of (fun w hw => hts w (ln_B w hw))
  have hn : ∀ a : Nat, a < s.heap.size → ¬ (fun q : Nat => s.heap.size ≤ q) a := fun a h1 h2 => by
    have h2 : s.heap.size ≤ a := h2
    omega
  have hZ := vx_Zqof (A := fun q : Nat => s.heap.size ≤ q) (hts (.laysStatic Bundle.tN "UNASSIGNED_STACK" Bundle.steD) (ln_w 6 110 (by decide +kernel))) (hts (.initialized Bundle.tN) (ln_w 1 18 (by decide +kernel))) (flat_of_before _ hgv (.isRef (.static Bundle.tN "UNASSIGNED_STACK" Bundle.steD)) (by decide +kernel)) hn
  have hN := vx_Zqof (A := fun q : Nat => s.heap.size ≤ q) (hts (.laysStatic Bundle.tN "SUPPRESSED_SENTINEL" Bundle.listD) (ln_w 6 112 (by decide +kernel))) (hts (.initialized Bundle.tN) (ln_w 1 18 (by decide +kernel))) (flat_of_before _ hgv (.isRef (.static Bundle.tN "SUPPRESSED_SENTINEL" Bundle.listD)) (by decide +kernel)) hn
  have C : ∀ k n : Nat, k ≤ 601024 → n ≤ 7293034 → es_Ctx p room_1 s m #[Value.ref b] meth c D ad cA (fun q : Nat => s.heap.size ≤ q) 7 (fr_M x 140) k n code 13 40 (some (L : Int)) := fun k n hk hn =>
    ⟨hex, hbc, hml, hown, hwt, hU, hinj, hAd, fun sl hsl => ⟨L, xs, (Option.some.inj hsl).symm, by omega, by rw [hb]; exact hX, by rw [hb]; exact hbl, by rw [hb]; exact Nat.not_le.mpr hbl, hx⟩, ⟨by decide, by decide, hk, hn⟩⟩
  have go := law_loop (e := e) (below := below) hl hr hlocks C hXX hZ hN (fun j => hx0 j) (by omega) 512 0 140 180511 (fr_M x) (Int.le_refl _) (by omega) (by omega) (by omega) (fr_fresh x).inv rfl
  refine go H locs ls ⟨rfl, hls.1, hls.2.1, fun i v hv => ?_⟩ (fun w h => by cases h) (fr_rng hx0) rfl hP hS
  match i, hv with
  | 0, hv => cases hv; exact ⟨by show ls[0]? = some (.val (.ref (ad 140))); rw [hb]; exact lv_at hls 4 rfl, trivial⟩
  | 1, hv => cases hv; exact ⟨lv_at hls 3 rfl, trivial⟩
  | 2, hv => cases hv; exact ⟨lv_at hls 2 rfl, trivial⟩
  | 3, hv => cases hv; exact ⟨lv_at hls 1 rfl, trivial⟩
  | 4, hv => cases hv; exact ⟨lv_at hls 0 rfl, es_r0⟩
  | 5, hv => cases hv
  | 6, hv => cases hv
  | n + 7, hv => cases hv
end
