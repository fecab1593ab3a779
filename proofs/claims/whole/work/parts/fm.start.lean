/-! THE LAW (9), from its entry; behind it rows of kit/laws/SKELETON.whole.lean.txt, with the launch's flags carried along -/
section
variable {p : Program} {l : Launch} {e : Env} {s : State} {m : MethodId} {b L : Nat} {xs : Nat → Int32} {below : List Frame} {meth : Method} {c : Code} {D : va_G}
theorem ln_M (l : Launch) (D : va_G) (h0 sz : Nat) : Met l ⟨"EveryStreetModel", "<init>", "()V"⟩ (Cond.code ⟨"EveryStreetModel", "<init>", "()V"⟩ prog_14_method_7_code 2 none :: es_WT) ({ frames := 1, cells := 47, slots := 141161, locals := 64 * 1 }) (va_Pc [.ref h0] (fun U => U.heap.size = sz ∧ va_P D es_cl [(h0, .inr (12, mo_fs0))] U.heap ∧ va_K D es_cl [] U ∧ True))
    (va_Qv (fun _ : (Nat → Nat) × (Nat → ClassId) => True) (fun u t => va_P D es_cl (wx_EveryStreetModel h0 u.1 u.2) t.heap ∧ va_K D es_cl (tx_EveryStreetModel u.2) t ∧ va_D (va_A [(h0, .inr (12, mo_fs0))] sz) (wx_EveryStreetModel h0 u.1 u.2)) (va_A [(h0, .inr (12, mo_fs0))] sz)) 47 141161 (va_A [(h0, .inr (12, mo_fs0))] sz) :=
  MetFree.mono (bk_EveryStreetModel l D h0 sz) (fun _ _ h => ⟨h.1, h.2.1, h.2.2.1, h.2.2.2.1⟩) (fun _ _ _ _ _ h => h) (fun _ _ _ _ _ h => h)
def ln_X (U : State) : Prop := va_AO "EveryStreet$State" U ∧ va_Nw (.methodLinkNest "EveryStreet" 29 ⟨"EveryStreet$Reader", "<init>", "()V"⟩ "EveryStreet") U ∧ va_Nw (.methodLinkNest "EveryStreet" 36 ⟨"EveryStreet$Row", "<init>", "()V"⟩ "EveryStreet") U
theorem ln_X.of (hts : ∀ w ∈ lw_tbl, w.before #[Value.ref b] s = true) : ln_X s :=
  ⟨va_AO.of (hts (.arrayOver (.object "EveryStreet$State")) (ln_w 1 207 (by decide +kernel))), va_Nw.of rfl (hts _ (ln_w 1 210 (by decide +kernel))), va_Nw.of rfl (hts _ (ln_w 1 236 (by decide +kernel)))⟩
theorem ln_X.warm {U : State} (hW : s.WarmedH U.vm) (h : ln_X s) : ln_X U := ⟨va_AO.moved hW.alike h.1, va_Nw.warmM hW h.2.1, va_Nw.warmM hW h.2.2⟩
theorem ln_X.blind {U : State} {g : JFrame} {mk : MethodId} {a : Array Value} (h : ln_X U) : ln_X (U.calling g mk a) := ⟨va_AO.moved (u := U) (Vm.Alike.refl U.vm) h.1, va_Nw.same rfl rfl h.2.1, va_Nw.same rfl rfl h.2.2⟩
set_option maxHeartbeats 4000000 in
set_option maxRecDepth 100000 in
theorem whole_start {p : Program} {e : Env} {s : State} {m : MethodId} {below : List Frame} {meth : Method} {c : Code} (l : Launch) (hfl : l.stackTraces = false) {b L : Nat} {xs : Nat → Int32} (hL : L ≤ 2560) (C0 : lw_At p s m meth c b L xs) : W p l e room_1 s m #[Value.ref b] below meth c s.heap [] 0 0 (lw_Z below #[Value.ref b] s) (entryFrame m ([Value.ref b] : List Value).toArray 7) := by
  obtain ⟨hx, hb, hr, hml, hown, hts, hX, hbl, hlocks, hgv⟩ := id C0
  have hwt : ∀ w ∈ es_WT, w.before #[Value.ref b] s = true := fun w hw => hts w (List.mem_filter.mp hw).1
  have hA : ∀ q : Nat, s.heap.size ≤ q → (fun q : Nat => s.heap.size ≤ q) q := fun _ h => h
  have C : ln_C p s m #[Value.ref b] c code 7 13 := ⟨hx, hb, hml, hown, hwt⟩
  have hKn : ∀ k, k < 13 → ∃ (c : ClassId) (iS : Nat → Nat), u_Kn s (es_cn k) (es_T k) (es_nf k) c iS := fun k hk => u_known hwt (es_cfacts hk).2.1 (hwt _ (ln_i hk))
  obtain ⟨D, hD0⟩ : ∃ D : va_G, ∀ (k : Nat) (q : vw_C), es_cl[k]? = some q → u_Kn s q.1 q.2.1 q.2.2 (D.1 k) (D.2 k) := by
    refine ⟨(fun k => if h : k < 13 then (hKn k h).choose else (hKn 0 (by decide)).choose, fun k => if h : k < 13 then (hKn k h).choose_spec.choose else fun _ => 0), fun k q hq => ?_⟩
    have hk : k < 13 := (List.getElem?_eq_some_iff.mp hq).1
    rw [(es_cfacts hk).1] at hq
    cases hq
    show u_Kn s (es_cn k) (es_T k) (es_nf k) (dite _ _ _) (dite _ _ _)
    rw [dif_pos hk, dif_pos hk]
    exact (hKn k hk).choose_spec.choose_spec
  have hS : va_S (fun q : Nat => s.heap.size ≤ q) s.heap s.heap [] := va_S.rf
  have hK : va_K D es_cl [] s := ⟨hD0, fun k q h => by simp at h⟩
  have hP : va_P D es_cl [] s.heap := fun k q h => by simp at h
  have hD : va_D (fun q : Nat => s.heap.size ≤ q) [] := ⟨fun i j p q h => by simp at h, fun k q h => by simp at h⟩
  have hl := lv_entry ([.ref b]) (n := 7) (Nat.le_of_ble_eq_true rfl)
  rw [lg_entry_eq]
  generalize (lg_sl ([.ref b]) ++ List.replicate (7 - (lg_sl ([.ref b])).length) Slot.unset).toArray = ls at hl ⊢
  have hl : lv_has ls 7 [(0, .ref b)] := hl
  refine ln_new C hK hP hD hS hA (ci := 0) (ic := 8) (fs0 := [.null, .null, .null, .null, .null, .null, .null, .null, .null, .null, .null, .null]) (rest := []) (by decide) (by decide +kernel) (es_WT_at (p := 1022) (by decide +kernel)) (es_WT_at (p := 1001) (by decide +kernel)) (by decide +kernel) (Nat.le_of_ble_eq_true rfl) (Nat.le_of_ble_eq_true rfl) (fun h0 H hP hD hS => ?_)
  refine ln_call C hK (X := []) (av := []) (rest := [.ref h0]) (im := 15) (XX := ln_X) (w1 := fun u => wx_EveryStreet h0 u.1 u.2) (t1 := tx_EveryStreet) hP hD hS hA hl.1 (bk_EveryStreet l D h0 H.size) (fun a U g mk h => h.blind) (fun U hW => (ln_X.of hts).warm hW) (es_WT_at (p := 1026) (by decide +kernel)) (es_WT_at (p := 1001) (by decide +kernel)) (es_WT_at (p := 1024) (by decide +kernel)) (es_WT_at (p := 1025) (by decide +kernel)) rfl ⟨by decide, by decide, by decide +kernel⟩ ⟨Nat.le_of_ble_eq_true rfl, Nat.le_of_ble_eq_true rfl, Nat.le_of_ble_eq_true rfl, Nat.le_of_ble_eq_true rfl⟩ (Nat.le_of_ble_eq_true rfl) (show decode code 4 = .ok (.invokespecial 15, 3) by decide +kernel) (fun u H locs hK hP hD hS => ?_)
  refine lv_astore_n (lv' := [(1, .ref h0), (0, .ref b)]) hx hb (show decode code 7 = .ok (.astore_n 1, 1) by decide +kernel) rfl hl (by decide) rfl (fun ls hl => ?_)
  refine ln_new C hK hP hD hS hA (ci := 12) (ic := 16) (fs0 := mo_fs0) (rest := []) (by decide) (by decide +kernel) (es_WT_at (p := 6148) (by decide +kernel)) (es_WT_at (p := 1014) (by decide +kernel)) (by decide +kernel) (Nat.le_of_ble_eq_true rfl) (Nat.le_of_ble_eq_true rfl) (fun m0 H hP hD hS => ?_)
  refine ln_call C hK (av := []) (rest := [.ref m0]) (im := 18) (XX := fun _ => True) (w1 := fun u => wx_EveryStreetModel m0 u.1 u.2) (t1 := tx_EveryStreetModel) hP hD hS hA hl.1 (ln_M l D m0 H.size) (fun _ _ _ _ h => h) (fun _ _ => trivial) (es_WT_at (p := 6152) (by decide +kernel)) (es_WT_at (p := 1014) (by decide +kernel)) (es_WT_at (p := 6150) (by decide +kernel)) (es_WT_at (p := 6151) (by decide +kernel)) rfl ⟨by decide, by decide, by decide +kernel⟩ ⟨Nat.le_of_ble_eq_true rfl, Nat.le_of_ble_eq_true rfl, Nat.le_of_ble_eq_true rfl, Nat.le_of_ble_eq_true rfl⟩ (Nat.le_of_ble_eq_true rfl) (show decode code 12 = .ok (.invokespecial 18, 3) by decide +kernel) (fun v H locs hK hP hD hS => ?_)
  refine lv_astore_n (lv' := [(2, .ref m0), (1, .ref h0), (0, .ref b)]) hx hb (show decode code 15 = .ok (.astore_n 2, 1) by decide +kernel) rfl hl (by decide) rfl (fun ls hl => ?_)
  refine lv_iconst (v := 1) hx hb (show decode code 16 = .ok (.iconst 1, 1) by decide +kernel) (by decide) ?_
  refine va_newa (atype := .long) (ty := .long) (a0 := (1, .inr (.inl fun _ => 0))) (N' := 1) hx hb (hwt _ es_wJ) rfl hK hP hD hS hA (fun cA => rfl) (by decide) (by decide) (by decide) (Nat.le_of_ble_eq_true rfl) (Nat.le_of_ble_eq_true rfl) (show decode code 17 = .ok (.newarray .long, 2) by decide +kernel) (fun o cO H hK hP hD hS => ?_)
  refine lv_astore_n (lv' := [(3, .ref o), (2, .ref m0), (1, .ref h0), (0, .ref b)]) hx hb (show decode code 19 = .ok (.astore_n 3, 1) by decide +kernel) rfl hl (by decide) rfl (fun ls hl => ?_)
  refine lv_iconst (v := 0) hx hb (show decode code 20 = .ok (.iconst 0, 1) by decide +kernel) (by decide) ?_
  refine lv_istore (lv' := [(4, .int 0), (3, .ref o), (2, .ref m0), (1, .ref h0), (0, .ref b)]) hx hb (show decode code 21 = .ok (.istore 4, 2) by decide +kernel) hl (by decide) rfl (fun ls hl => ?_)
  refine W.widen (k := 140) (n := 180511) (Nat.le_of_ble_eq_true rfl) (Nat.le_of_ble_eq_true rfl) ?_
  have eW : es_ws (fr_ad h0 u.1 m0 v.1 o b) (fr_cA u.2 v.2 cO) (fr_M (fun j => (xs j.toNat).toInt)) = (([] ++ wx_EveryStreet h0 u.1 u.2) ++ wx_EveryStreetModel m0 v.1 v.2) ++ [(o, .inl (cO, 1, .inr (.inl fun _ => 0)))] := by
    rw [fr_ws, fr_eq, List.nil_append, List.append_assoc]
  have hP : va_P D es_cl (es_ws (fr_ad h0 u.1 m0 v.1 o b) (fr_cA u.2 v.2 cO) (fr_M (fun j => (xs j.toNat).toInt))) H := by rw [eW]; exact hP
  have hD : va_D (fun q : Nat => s.heap.size ≤ q) (es_ws (fr_ad h0 u.1 m0 v.1 o b) (fr_cA u.2 v.2 cO) (fr_M (fun j => (xs j.toNat).toInt))) := by rw [eW]; exact hD
  have hK : va_K D es_cl (es_tys (fr_cA u.2 v.2 cO)) s := by
    refine ⟨hD0, fun k z hz => ?_⟩
    have h1 := fr_tys (List.mem_of_getElem? hz)
    rw [fr_tl_eq] at h1
    have h2 : z ∈ (([] ++ tx_EveryStreet u.2) ++ tx_EveryStreetModel v.2) ++ [(cO, FieldType.long)] := by
      rw [List.nil_append, List.append_assoc]
      exact h1
    obtain ⟨k', hk'⟩ := List.getElem?_of_mem h2
    exact hK.2 k' z hk'
  exact ln_head (ad := fr_ad h0 u.1 m0 v.1 o b) hfl hL C0 (fun j => rfl) (fun j => es_rt32 _) rfl hK hP hD hS hl
end
set_option maxHeartbeats 4000000 in
theorem lw_walk (l : Launch) (hfl : l.stackTraces = false) (b : Addr) (xs : List Int32) : MetFree l x (headSpec (Jvm.Cond.code x code maxLocals ret :: tables_1) room_1) (lw_P b xs) (fun _ _ _ _ _ => True) lw_Q := by
  refine MetFree.of_bodyS (code := code) (maxLocals := maxLocals) (ret := ret) (by decide) ?_ ?_
  · intro args s m h hn
    obtain ⟨meth, c, h1, h2, h3, h4, h5, h6, -, -⟩ := Cond.code_spec hn (atoms_spec (ws := Jvm.Cond.code x code maxLocals ret :: tables_1) h _ List.mem_cons_self)
    exact ⟨meth, c, h1, h2, h3, h4, h5, h6⟩
  · intro p e s m args below meth c s₁ B hml0 hP _
    obtain ⟨rfl, hx, hbd, hgv⟩ := hP
    obtain ⟨scr, harrAt, hlist, hof, hsmall⟩ := hx
    obtain ⟨hcb, hkn, -, -⟩ := State.arrayAt?_spec harrAt
    have hown : s.vm.findClass R_law = some m.cls := findClass_of_methodNamed B.named
    have hts0 : ∀ c ∈ (Jvm.Cond.code x code maxLocals ret :: tables_1), c.before #[Value.ref b] s = true := atoms_spec (ws := Jvm.Cond.code x code maxLocals ret :: tables_1) B.pre
    have hts : ∀ w ∈ lw_tbl, w.before #[Value.ref b] s = true := k2_hts_sels lw_privs (fun w hw => hts0 w (List.mem_cons_of_mem _ hw)) lw_privs_ok
    have hml : c.maxLocals = 7 := B.maxLocals_eq (hts0 _ List.mem_cons_self)
    have X₀ : Stand p l e room_1 s m #[Value.ref b] below meth c s₁ [] 0 0 := Stand.of_body B
    have hh0 : s₁.heap = s.heap := by rw [B.state]; rfl
    have hsz : scr.slots.size = xs.length := by rw [← Array.length_toList, hlist, List.length_map]
    have hval : ∀ j : Nat, j < xs.length → scr.slots[j]? = some (.int (xs.getD j 0)) := fun j hj => by
      rw [← Array.getElem?_toList, hlist]
      simp [hj]
    have hbl : b < s.heap.size := (Array.getElem?_eq_some_iff.mp hcb).1
    have hX : va_X b xs.length (fun j => xs.getD j 0) s s.heap := ⟨scr, hcb, hof, hkn, hsz, hval⟩
    have K : W p l e room_1 s m #[Value.ref b] below meth c s₁.heap [] 0 0 (lw_Z below #[Value.ref b] s) (entryFrame m ([Value.ref b] : List Value).toArray 7) := by
      rw [hh0]
      exact whole_start l hfl hbd ⟨B.exec, B.bytes, B.returns, hml, hown, hts, hX, hbl, B.notSynchronized, hgv⟩
    obtain ⟨t, a1, o, b1, b2, b3⟩ := K s₁ rfl X₀
    exact ⟨t, o, a1, b1, b2, b3⟩
theorem lw_pre_spec {args : Array Value} {s : State} (h : (Jvm.Cond.and given_1 narrow_1).before args s = true) (hr : rest_1_c.before args s = true) : ∃ (b : Addr) (xs : List Int32), lw_P b xs args s := by
  have hs := flat_of_before _ h
  have hq := flat_of_before _ hr
  have hc : (Cond.count 1).before args s = true := hs _ (by decide +kernel)
  have harr : (Cond.arrayOf (.arg 0) .int).before args s = true := hs _ (by decide +kernel)
  have hle : (Cond.le (.length (.arg 0)) (.int 2560)).before args s = true := hs _ (by decide +kernel)
  have hlen : (Cond.isInt (.length (.arg 0))).before args s = true := hq _ (by decide +kernel)
  have hall : (Cond.all (.arg 0) (.isInt (.elem (.arg 0) (.index 0)))).before args s = true := hq _ (by decide +kernel)
  obtain ⟨b, xs, hb, hx⟩ := State.ints_of_pre rfl harr hlen hall
  have hsm : xs.length < 2 ^ 31 := hx.choose_spec.2.2.2
  have hev : (Term.length (.arg 0)).eval args s none [] s = some (.int xs.length.toInt32) := hx.length_eval hb
  have hv := Cond.le_ints hev (show (Term.int 2560).eval args s none [] s = some (.int 2560) from rfl)
  have hd : xs.length.toInt32 ≤ 2560 := by
    simpa [Cond.before, Cond.holds, hv] using hle
  have hN : xs.length ≤ 2560 := (Int32.ofNat_le_ofNat hsm (by decide)).mp (show Int32.ofNat xs.length ≤ Int32.ofNat 2560 from hd)
  exact ⟨b, xs, Cond.one_arg hc (show args[0]? = some (.ref b) from hb), hx, hN, h⟩
theorem lw_comes (l : Launch) (hfl : l.stackTraces = false) : Comes l x (Jvm.Cond.code x code maxLocals ret :: tables_1) room_1 (fun tb e args s => Calls_1 tb e args s ∧ rest_1 tb e args s ∧ Pre_1 tb e args s)
    (fun _ _ args s o t => lw_Q args s o t) := by
  intro p e ha hc hk s m args below hf hfit hheap happ hpre
  obtain ⟨b, xs, hP⟩ := lw_pre_spec hpre.2.2 hpre.2.1
  obtain ⟨k, o, h1, h2, h3, hQ⟩ := lw_walk l hfl b xs p e ha hc hk s m args below hf ((Spec.applies_iff_loose hf).mp happ).1 hP trivial
  exact ⟨k, o, h1, h2, h3, hQ⟩
theorem lw_frame {s t : State} {o : Outcome} {args : Array Value} (h : Framed s o t [] 601024 7293034) :
    Framed s o t (fieldLocs frame_1_writes args s ++ arrayLocs frame_1_arrays args s ++ staticLocs frame_1_statics s) 601024 7293034 := h
theorem lw_limb (L : Cond) (hL : ∀ (args : Array Value) (s t : State), L.after args s (.returned (some (.int 1))) t = true) :
    ArmFor flags0 classFile x code maxLocals ret World_1 tables_1 room_1 Calls_1 rest_1 Pre_1
      (fun tb e a s o t => postC L tb e a s o t ∧ Framed s o t (fieldLocs frame_1_writes a s ++ arrayLocs frame_1_arrays a s ++ staticLocs frame_1_statics s) 601024 7293034) := by
  intro l hflags _ _ p e ha hc hk s m args below hf hfit hheap happ hpre
  obtain ⟨k, o, h1, h2, h3, rfl, hF⟩ := lw_comes l (by rw [Jvm.Launch.stackTraces, hflags]; decide +kernel) p e ha hc hk s m args below hf hfit hheap happ hpre
  exact ⟨k, _, h1, h2, h3, hL args s _, lw_frame hF⟩
theorem i_vc : Claimed_1_1 ∧ Claimed_1_2 := ⟨lw_limb limb_1_1 (fun args s t => by simp [limb_1_1, Cond.after, Cond.holds, Cond.value]), lw_limb limb_1_2 (fun args s t => Cond.after_iff.mpr (by
  first | (rw [show limb_1_2 = Cond.eq .result (.int 1) from rfl, Cond.eq_ints (x := 1) (y := 1) rfl rfl]; simp; done) | (simp [limb_1_2, Cond.value, Term.eval]; done)))⟩
