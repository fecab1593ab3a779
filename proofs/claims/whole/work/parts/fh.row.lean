/-! THE LAW (5): its own method row, which catches what the class throws -/
theorem x_met {l : Launch} {y : MethodName} {ws : List Cond} {rm : Room} {Pc : Array Value → State → Prop} {Qc : Array Value → State → Outcome → State → Prop} {mc ms : Nat} {free : Addr → Prop} (h : vx_Met l y ws rm Pc Qc (fun _ _ _ => False) mc ms free) : Met l y ws rm Pc Qc mc ms free :=
  MetFree.mono h (fun _ _ h => h) (fun _ _ _ _ _ h => h) (fun _ _ _ _ _ h => by
    rcases h with h | ⟨_, _, _, _, _, h, _⟩
    · exact h
    · exact h.elim)
theorem x_blind {D : va_G} {ad : Nat → Nat} {cA : Nat → ClassId} {M : es_M} (av : List Value) : FrameBlind (va_Pc av (x_B D ad cA M)) := fun a U g mk h =>
  ⟨h.1, h.2.1, h.2.2.1.blind, fun w hw => va_Nw.same (u := U) (U := U.calling g mk a) (List.all_eq_true.mp vw_on w hw) rfl (h.2.2.2.1 w hw), vx_Zq.moved (u := U) (U := U.calling g mk a) (Vm.Alike.refl U.vm) h.2.2.2.2.1, vx_Zq.moved (u := U) (U := U.calling g mk a) (Vm.Alike.refl U.vm) h.2.2.2.2.2⟩
theorem x_wB : Cond.code x_nm prog_1_method_51_code 2 (some .int) ∈ es_WT := es_WT_at (p := 6082) (by decide +kernel)
theorem x_wG : GoodIn es_WT x_ws := by
  intro w hw
  rcases List.mem_cons.mp hw with rfl | hw
  · exact ⟨x_wB, es_WT_good x_wB⟩
  · exact ⟨hw, es_WT_good hw⟩
theorem x_wI : Cond.initialized "EveryStreet" ∈ es_WT := es_WT_at (p := 1001) (by decide +kernel)
theorem x_wL : Cond.methodLink "EveryStreetLaw" 7 x_nm ∈ es_WT := es_WT_at (p := 6079) (by decide +kernel)
theorem x_wM : Cond.instanceMethod x_nm ∈ es_WT := es_WT_at (p := 6080) (by decide +kernel)
theorem x_wS : Cond.selects "EveryStreet" x_nm x_nm ∈ es_WT := es_WT_at (p := 6081) (by decide +kernel)
def y_nm : MethodName := ⟨"EveryStreetLaw", "row", "(LEveryStreet;I[J)I"⟩
def y_hh : List (Nat × Nat × Nat × Nat) := [(0, 9, 12, 13)]
def y_ws : List Cond := Cond.codeWith y_nm method_3_code 4 (some .int) y_hh :: es_WT
def y_rm (d : Nat) : Room := { frames := d + 9, cells := 1, slots := 6, locals := 64 * (d + 9) }
theorem y_wB : Cond.codeWith y_nm method_3_code 4 (some .int) y_hh ∈ es_WT := es_WT_at (p := 6077) (by decide +kernel)
theorem y_wL : Cond.methodLink "EveryStreetLaw" 204 y_nm ∈ es_WT := es_WT_at (p := 6075) (by decide +kernel)
theorem y_wT : Cond.static y_nm ∈ es_WT := es_WT_at (p := 6076) (by decide +kernel)
theorem y_wI : Cond.initialized "EveryStreetLaw" ∈ es_WT := es_WT_at (p := 1000) (by decide +kernel)
theorem y_wG : GoodIn es_WT (va_wsS (es_cn 13) 204 y_nm y_ws) := by
  intro w hw
  unfold va_wsS at hw
  rcases List.mem_append.mp hw with hw | hw
  · rcases List.mem_cons.mp hw with rfl | hw
    · exact ⟨y_wL, es_WT_good y_wL⟩
    · rcases List.mem_cons.mp hw with rfl | hw
      · exact ⟨y_wT, es_WT_good y_wT⟩
      · rcases List.mem_cons.mp hw with rfl | hw
        · exact ⟨y_wI, es_WT_good y_wI⟩
        · cases hw
  · rcases List.mem_cons.mp hw with rfl | hw
    · exact ⟨y_wB, es_WT_good y_wB⟩
    · exact ⟨hw, es_WT_good hw⟩
def cd_LR : List es_R := [(0, .aload_n 2, 1, 0, 0, 0, 0), (1, .iconst 0, 1, 0, 0, 0, 0), (2, .aload_n 0, 1, 0, 0, 0, 0), (3, .iload_n 1, 1, 0, 0, 0, 0), (7, .i2l, 1, 0, 0, 0, 0), (8, .lastore, 1, 0, 0, 0, 0), (9, .goto 6, 3, 15, 0, 0, 0), (15, .iconst 0, 1, 0, 0, 0, 0), (16, .ireturn, 1, 0, 0, 0, 0)]
theorem ck_LR : es_cok 13 method_3_code cd_LR := by unfold es_cok; decide +kernel
def st_LR : List (Nat × List Bool) := [(4, [true, true, true, false])]
def yQ (v : Int) (M : es_M) : Int32 → es_M → Prop := fun r M' => ((0 ≤ v ∧ v < M 58 1) ∧ r = Int32.ofInt 0 ∧ M' = es_upd M 139 0 (M 59 v)) ∨ (¬ (0 ≤ v ∧ v < M 58 1) ∧ r = Int32.ofInt 1 ∧ M' = M)
theorem x_pre {D : va_G} {ad : Nat → Nat} {cA : Nat → ClassId} {M : es_M} {s : State} {A : Nat → Prop} {H : Heap} {locs : List Loc} (hA2 : ∀ q, es_A ad q → A q) (hU : es_U D cA s) (hX : vw_X s) (hZ : vx_Zq Bundle.tN "UNASSIGNED_STACK" Bundle.steD A s s.heap) (hN : vx_Zq Bundle.tN "SUPPRESSED_SENTINEL" Bundle.listD A s s.heap) (hP : va_P D es_cl (es_ws ad cA M) H) (hS : va_S A s.heap H locs) {U : State} (h1 : U.heap = H) (h2 : s.WarmedH U.vm) : x_B D ad cA M U := by
  refine ⟨by rw [h1]; exact hP, hU.warm h2, hX.warm h2, ?_, ?_⟩
  · rw [h1]; exact vx_Zq.moved h2.alike ((hZ.kept hS.2.1).narrow hA2)
  · rw [h1]; exact vx_Zq.moved h2.alike ((hN.kept hS.2.1).narrow hA2)
set_option maxHeartbeats 1000000 in
theorem y_row (l : Launch) (hl : l.stackTraces = false) {ad : Nat → Nat} {D : va_G} {cA : Nat → ClassId} (hinj : es_inj ad) {v : Int} {M : es_M} (hv : es_r32 v) (hM : es_rng M) (hr : 0 ≤ M 58 1 ∧ M 58 1 ≤ 120) (d : Nat) :
    Met l y_nm y_ws (y_rm d) (va_Pc [.ref (ad 0), .int (Int32.ofInt v), .ref (ad 139)] (x_B D ad cA M))
      (va_Qi (yQ v M) (fun M' t => es_rng M' ∧ M' 140 = M 140 ∧ va_P D es_cl (es_ws ad cA M') t.heap) (es_A ad)) 1 6 (es_A ad) := by
  refine x_met (vx_ofWH (cc := method_3_code) (maxL := 4) (ret := some .int) (hh := y_hh) (by decide) rfl ?_)
  intro p e s m args below meth c s₁ B hml hpre
  obtain ⟨rfl, hP, hU, hX, hZ, hN⟩ := hpre
  have hts := atoms_spec (ws := y_ws) B.pre
  have hf : s.vm.findClass (es_cn 13) = some m.cls := findClass_of_methodNamed B.named
  have hlocks := B.notSynchronized
  have hwt : ∀ w ∈ es_WT, w.before _ s = true := fun w hw => hts w (List.mem_cons_of_mem _ hw)
  have htab := vx_table (x := y_nm) B (hts _ List.mem_cons_self)
  have C : ∀ k n : Nat, k ≤ 1 → n ≤ 6 → es_Ctx p (headSpec y_ws (y_rm d)).room s m #[Value.ref (ad 0), Value.int (Int32.ofInt v), Value.ref (ad 139)] meth c D ad cA (es_A ad) 4 (M 140) k n method_3_code 13 d none := fun k n hk hn =>
    ⟨B.exec, B.bytes, hml, hf, hwt, hU, hinj, fun k hk => ⟨k, hk, rfl⟩, (fun _ h => nomatch h), by show d + 1 ≤ d + 9; omega, by show 64 * d + 64 ≤ 64 * (d + 9); omega, hk, hn⟩
  have hret : ∀ k n : Nat, k ≤ 1 → n ≤ 6 → es_Ret p l e (headSpec y_ws (y_rm d)).room s m #[Value.ref (ad 0), Value.int (Int32.ofInt v), Value.ref (ad 139)] below meth c D ad cA (es_A ad) (M 140) k n (vx_MQ below (va_Qi (yQ v M) (fun M' t => es_rng M' ∧ M' 140 = M 140 ∧ va_P D es_cl (es_ws ad cA M') t.heap) (es_A ad)) (fun _ _ _ => False) #[Value.ref (ad 0), Value.int (Int32.ofInt v), Value.ref (ad 139)] s 1 6 (es_A ad)) method_3_code (some .int) (fun y M' => yQ v M (Int32.ofInt y) M') := by
    intro k n hk hn pc ls H locs M' y i sv hd hrt hQ hok hrng hm' hP' hS'
    rcases hrt with ⟨rfl, rfl, h3⟩ | ⟨rfl, rfl, h3⟩ | ⟨rfl, rfl, rfl, h3⟩
    · refine W.widen (k := 1) (n := 6) hk hn (vx_ret (W.iret B.exec B.bytes (by rw [B.returns]) (fun t ht hW => ⟨⟨Int32.ofInt y, M', rfl, hQ, hrng, hm', by rw [ht]; exact hP'⟩, hS'.F ht⟩) hS'.2.2 hd))
    · cases h3
    · cases h3
  have h0 := es_wp_ok (below := below) (l := l) (e := e) (cd := cd_LR) (stop := st_LR) rfl ck_LR (C 0 0 (by omega) (by omega)) (hret 0 0 (by omega) (by omega))
  have h1 := es_wp_ok (below := below) (l := l) (e := e) (cd := cd_LR) (stop := st_LR) rfl ck_LR (C 1 6 (by omega) (by omega)) (hret 1 6 (by omega) (by omega))
  have call : es_G p l e (headSpec y_ws (y_rm d)).room s m #[Value.ref (ad 0), Value.int (Int32.ofInt v), Value.ref (ad 139)] below meth c D ad cA (es_A ad) 4 (M 140) 0 0 (vx_MQ below (va_Qi (yQ v M) (fun M' t => es_rng M' ∧ M' 140 = M 140 ∧ va_P D es_cl (es_ws ad cA M') t.heap) (es_A ad)) (fun _ _ _ => False) #[Value.ref (ad 0), Value.int (Int32.ofInt v), Value.ref (ad 139)] s 1 6 (es_A ad)) 4 [lr 0, li v, lr 139, none] [.inl v, .inr (.inr 0), .inl 0, .inr (.inr 139)] M := by
    intro H locs ls hL hst hrng h140 hP' hS'
    refine vx_calli (vx_runV (As := [.int (Int32.ofInt v)]) (rest := [.int (Int32.ofInt 0), .ref (ad 139)]) (b := ad 0) (C := "EveryStreet") (bytes := prog_1_method_51_code) (maxL := 2) (ret := some .int) (Ts := es_WT) (own := es_cn 13) (n := 1) (index := 7) ⟨B.exec, B.bytes, hml, hf, hwt⟩ (x_row l hl hinj hv hM hr d)
      ⟨callB_of (Ts := es_WT) _ hwt x_wG rfl rfl rfl (hwt _ x_wI) (hwt _ x_wL) ⟨by decide, by decide, by decide +kernel⟩ ⟨by show d + 8 + 1 ≤ d + 9; omega, by show 8 + (2 + 11) + 64 * (d + 8) ≤ 64 * (d + 9); omega⟩, hwt _ x_wM, hwt _ x_wS⟩
      ⟨x_blind _, va_recv hU.1 hP' (ci := 0) (q0 := 0) rfl (es_ws_at (k := 0) rfl), fun U h1 h2 => ⟨rfl, x_pre (fun q h => h) hU hX hZ hN hP' hS' h1 h2⟩⟩ rfl rfl hL.2.1 rfl (lv_room (Nat.le_of_ble_eq_true rfl)) (show decode method_3_code 4 = .ok (.invokevirtual 7, 3) by decide +kernel) ⟨Nat.le_refl _, Nat.le_refl _⟩) hS' (fun q _ h => h) (fun q h => h) (fun q _ h => h) (fun E ce q9 u t H1 locs1 ht hvm hw hB hz1 hk1 hS1 hce hcv hcl => ?_) (fun r u t H1 locs1 ht hvm hw hB hz1 hk1 hS1 => ?_)
    · obtain ⟨rfl, hB⟩ := hB
      refine xc_catch (own := es_cn 13) (name := nse) (E := nse) hf (x := ⟨0, 9, 12, 13⟩) (suf := []) htab (by decide) (by decide) (hwt _ vw_l) (hX.use _ List.mem_cons_self) hce hcv hcl ?_
      refine lv_astore_n (cc := method_3_code) (k := 3) (i := 3) (nL := 4) (x := q9) (lv := []) (lv' := [(3, .ref q9)]) B.exec B.bytes (show decode method_3_code 12 = .ok (.astore_n 3, 1) by decide +kernel) rfl ⟨hL.2.1, hL.2.2.1, fun q hq => by cases hq⟩ (by decide) rfl (fun ls' hl' => ?_)
      refine lv_iconst (v := Int32.ofInt 1) B.exec B.bytes (show decode method_3_code 13 = .ok (.iconst 1, 1) by decide +kernel) rfl ?_
      exact vx_ret (W.iret B.exec B.bytes (by rw [B.returns]) (fun t9 ht9 hW9 => ⟨⟨Int32.ofInt 1, M, rfl, Or.inr ⟨hw, rfl, rfl⟩, hM, rfl, by rw [ht9, ← ht]; exact hB⟩, hS1.F ht9⟩) hS1.2.2 (show decode method_3_code 14 = .ok (.ireturn, 1) by decide +kernel))
    · obtain ⟨hw, rfl⟩ := hw
      have h59 : es_r32 (M 59 v) := es_rng_i hM (k := 59) (ty := .int) (n := 120) rfl (by decide) v
      exact h1 8 7 [lr 0, li v, lr 139, none] [.inl (M 59 v), .inl 0, .inr (.inr 139)] M ⟨⟨by decide, by decide⟩, Or.inl ⟨hw, rfl, rfl⟩⟩ H1 locs1 ls hL (List.forall_mem_cons.mpr ⟨h59, List.forall_mem_cons.mpr ⟨es_r0, List.forall_mem_cons.mpr ⟨trivial, fun w h => by cases h⟩⟩⟩) hrng rfl (by rw [← ht]; exact hB) hS1
  rw [lg_entry_eq]
  have hst := h0 8 0 [lr 0, li v, lr 139, none] [] M call
  refine hst s.heap [] _ ⟨rfl, ?_⟩ (fun w h => by cases h) hM rfl hP va_S.rf
  have he := lv_entry (([.inr (.inr 0), .inl v, .inr (.inr 139)] : List AV).map (es_V ad)) (n := 4) (Nat.le_of_ble_eq_true rfl)
  refine ⟨he.1, he.2.1, fun i w hw => ?_⟩
  obtain ⟨h1, h2⟩ := es_ent_of ad [.inr (.inr 0), .inl v, .inr (.inr 139)] 0 i w (es_pad_of 4 _ i w hw)
  rw [Nat.zero_add] at h1
  refine ⟨he.2.2 _ h1, ?_⟩
  rcases List.mem_cons.mp h2 with rfl | h2
  · trivial
  · rcases List.mem_cons.mp h2 with rfl | h2
    · exact hv
    · rcases List.mem_cons.mp h2 with rfl | h2
      · trivial
      · cases h2
