/-! THE LAW (4): row(i), which may throw -/
def x_Z (ad : Nat → Nat) (U : State) : Prop := vx_Zq Bundle.tN "UNASSIGNED_STACK" Bundle.steD (es_A ad) U U.heap ∧ vx_Zq Bundle.tN "SUPPRESSED_SENTINEL" Bundle.listD (es_A ad) U U.heap
def x_rm (d : Nat) : Room := { frames := d + 8, cells := 1, slots := 6, locals := 64 * (d + 8) }
def x_nm : MethodName := ⟨"EveryStreet", "row", "(I)I"⟩
def x_ws : List Cond := Cond.code x_nm prog_1_method_51_code 2 (some .int) :: es_WT
def x_st : List (Nat × List Bool) := [(15, [true, true])]
def x_B (D : va_G) (ad : Nat → Nat) (cA : Nat → ClassId) (M : es_M) (U : State) : Prop := va_P D es_cl (es_ws ad cA M) U.heap ∧ es_U D cA U ∧ vw_X U ∧ x_Z ad U
theorem x_row (l : Launch) (hl : l.stackTraces = false) {ad : Nat → Nat} {D : va_G} {cA : Nat → ClassId} (hinj : es_inj ad) {v : Int} {M : es_M} (hv : es_r32 v) (hM : es_rng M) (hr : 0 ≤ M 58 1 ∧ M 58 1 ≤ 120) (d : Nat) :
    vx_Met l x_nm x_ws (x_rm d) (va_Pc [.ref (ad 0), .int (Int32.ofInt v)] (x_B D ad cA M))
      (va_Qi (fun r (_ : Unit) => (0 ≤ v ∧ v < M 58 1) ∧ r = Int32.ofInt (M 59 v)) (fun _ t => va_P D es_cl (es_ws ad cA M) t.heap) (es_A ad))
      (vx_X (fun _ : Unit => ¬ (0 ≤ v ∧ v < M 58 1)) (fun E _ t => E = nse ∧ va_P D es_cl (es_ws ad cA M) t.heap) (es_A ad)) 1 6 (es_A ad) := by
  refine vx_ofW (cc := prog_1_method_51_code) (maxL := 2) (ret := some .int) (by decide) rfl ?_
  intro p e s m args below meth c s₁ B hml hnt hpre
  obtain ⟨rfl, hP, hU, hX, hZ⟩ := hpre
  have hts := atoms_spec (ws := x_ws) B.pre
  have hf : s.vm.findClass (es_cn 0) = some m.cls := findClass_of_methodNamed B.named
  have hlocks := B.notSynchronized
  have hwt : ∀ w ∈ es_WT, w.before _ s = true := fun w hw => hts w (List.mem_cons_of_mem _ hw)
  have C : es_Ctx p (headSpec x_ws (x_rm d)).room s m #[Value.ref (ad 0), Value.int (Int32.ofInt v)] meth c D ad cA (es_A ad) 2 (M 140) 0 0 prog_1_method_51_code 0 d none :=
    ⟨B.exec, B.bytes, hml, hf, hwt, hU, hinj, fun k hk => ⟨k, hk, rfl⟩, (fun _ h => nomatch h), by show d + 1 ≤ d + 8; omega, by show 64 * d + 64 ≤ 64 * (d + 8); omega, Nat.zero_le _, Nat.zero_le _⟩
  have hret : es_Ret p l e (headSpec x_ws (x_rm d)).room s m #[Value.ref (ad 0), Value.int (Int32.ofInt v)] below meth c D ad cA (es_A ad) (M 140) 0 0 (vx_MQ below (va_Qi (fun r (_ : Unit) => (0 ≤ v ∧ v < M 58 1) ∧ r = Int32.ofInt (M 59 v)) (fun _ t => va_P D es_cl (es_ws ad cA M) t.heap) (es_A ad)) (vx_X (fun _ : Unit => ¬ (0 ≤ v ∧ v < M 58 1)) (fun E _ t => E = nse ∧ va_P D es_cl (es_ws ad cA M) t.heap) (es_A ad)) #[Value.ref (ad 0), Value.int (Int32.ofInt v)] s 1 6 (es_A ad)) prog_1_method_51_code (some .int) (fun y M' => M' = M ∧ (0 ≤ v ∧ v < M 58 1) ∧ y = M 59 v) := by
    intro pc ls H locs M' y i sv hd hrt hQ hok hrng hm' hP' hS'
    obtain ⟨rfl, hv1, hy⟩ := hQ
    rcases hrt with ⟨rfl, rfl, h3⟩ | ⟨rfl, rfl, h3⟩ | ⟨rfl, rfl, rfl, h3⟩
    · refine W.widen (k := 1) (n := 6) (by omega) (by omega) (vx_ret (W.iret B.exec B.bytes (by rw [B.returns]) (fun t ht hW => ⟨⟨Int32.ofInt y, (), rfl, ⟨hv1, by rw [hy]⟩, by show va_P D es_cl _ t.heap; rw [ht]; exact hP'⟩, hS'.F ht⟩) hS'.2.2 hd))
    · cases h3
    · cases h3
  have hG := es_wp_ok (below := below) (l := l) (e := e) (cd := cd_EveryStreet_row) (stop := x_st) rfl ck_EveryStreet_row C hret
  have thr : ¬ (0 ≤ v ∧ v < M 58 1) → es_G p l e (headSpec x_ws (x_rm d)).room s m #[Value.ref (ad 0), Value.int (Int32.ofInt v)] below meth c D ad cA (es_A ad) 2 (M 140) 0 0 (vx_MQ below (va_Qi (fun r (_ : Unit) => (0 ≤ v ∧ v < M 58 1) ∧ r = Int32.ofInt (M 59 v)) (fun _ t => va_P D es_cl (es_ws ad cA M) t.heap) (es_A ad)) (vx_X (fun _ : Unit => ¬ (0 ≤ v ∧ v < M 58 1)) (fun E _ t => E = nse ∧ va_P D es_cl (es_ws ad cA M) t.heap) (es_A ad)) #[Value.ref (ad 0), Value.int (Int32.ofInt v)] s 1 6 (es_A ad)) 15 [lr 0, li v] [] M := by
    intro hno H locs ls hL hst hrng h140 hP' hS'
    refine vx_throw0 (own := "EveryStreet") (cls := nse) (names := ["java/lang/RuntimeException", "java/lang/Exception"]) (ik := 390) (ic := 392) (A := es_A ad) B.exec B.bytes hl hf (by decide +kernel) (by decide +kernel) (hwt _ vw_k) (hwt _ vw_i) (vw_all hwt hX) vw_ot hZ.1 hZ.2 hS' (hL.2.1.trans hml.symm) (by decide +kernel) (by decide +kernel) (by decide +kernel) (by decide +kernel) (fun x hx => (hnt x hx).elim) (by show 2 + 3 < d + 8; omega) (by show 0 + (13 * (2 + 1) + 42) ≤ 64 * (d + 8); omega) (by show 0 + 1 ≤ 1; omega) (by show 0 + 6 ≤ 6; omega) hlocks (fun t hA h1 h2 => ?_) hS'.2.2 (by omega) (by omega)
    refine ⟨(), hno, ⟨rfl, ?_⟩, Nat.le_trans hS'.1 h1, fun q q1 q2 => ?_⟩
    · intro k q hk
      have x := hP' k q hk
      exact x.kept (h2 q.1 x.lt)
    · rw [h2 q (by have := hS'.1; omega)]; exact hS'.2.1 q q1 q2
  rw [lg_entry_eq]
  have hst := hG 20 0 [lr 0, li v] [] M ⟨fun (z : v < 0) => thr (by omega), fun (z : ¬ v < 0) => ⟨fun (z1 : v < M 58 1) => ⟨⟨by omega, by omega⟩, rfl, ⟨by omega, z1⟩, rfl⟩, fun (z1 : ¬ v < M 58 1) => thr (by omega)⟩⟩
  refine hst s.heap [] _ ⟨rfl, ?_⟩ (fun w h => by cases h) hM rfl hP va_S.rf
  have he := lv_entry (([.inr (.inr 0), .inl v] : List AV).map (es_V ad)) (n := 2) (Nat.le_of_ble_eq_true rfl)
  refine ⟨he.1, he.2.1, fun i w hw => ?_⟩
  obtain ⟨h1, h2⟩ := es_ent_of ad [.inr (.inr 0), .inl v] 0 i w (es_pad_of 2 _ i w hw)
  rw [Nat.zero_add] at h1
  refine ⟨he.2.2 _ h1, ?_⟩
  rcases List.mem_cons.mp h2 with rfl | h2
  · trivial
  · rcases List.mem_cons.mp h2 with rfl | h2
    · exact hv
    · cases h2
