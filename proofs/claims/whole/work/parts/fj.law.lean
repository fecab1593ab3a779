/-! THE LAW (7): its loop (ahead of it rows of kit/laws/SKELETON.whole.lean.txt, as its page bids) -/
/-! THE CLAIM OUT OF ONE WALK OF THE LAW'S BODY. Your part is whole_start (and what it stands on); all else here is the same for every law, but numbers. -/
def R_law : String := "EveryStreetLaw"
def lw_P (b : Addr) (xs : List Int32) (args : Array Value) (s : State) : Prop := args = #[.ref b] ∧ s.IntsAt b xs ∧ xs.length ≤ 2560 ∧ (Jvm.Cond.and given_1 narrow_1).before args s = true
def lw_Q (_ : Array Value) (s : State) (o : Outcome) (t : State) : Prop := o = .returned (some (.int 1)) ∧ Framed s o t [] 601024 7293034
def lw_Z (below : List Frame) (a : Array Value) (s : State) : State → Prop := fun t => ∃ o, t.status = .running ∧ Ended t below o ∧ lw_Q a s o t
/-- the law's own end, with 1 on the stack, nothing written that was there before, its room as the claim has it -/
theorem lw_ret {p : Program} {l : Launch} {e : Env} {s : State} {m : MethodId} {below : List Frame} {meth : Method} {c : Code} {b : Nat} (hx : p.tables.exec = Jvm.exec) (hb : c.code = code) (hr : meth.sig.returnType = ret) (hlocks : meth.locks = false) {pc : Nat} {H : Heap} {ls : Array Slot} (hdg : decode code pc = .ok (.ireturn, 1)) : W p l e room_1 s m #[Value.ref b] below meth c H [] 601024 7293034 (lw_Z below #[Value.ref b] s) (F0 m pc ls [.int 1]) := by
  intro T hT X
  obtain ⟨fs, hret, hrun, hended, hW, hframe⟩ := X.leave (v := some (.int 1)) (hlocks := hlocks) (fun h => by rw [hr] at h; cases h)
  have hmeth' : T.vm.method? m = some meth := X.method'
  refine ⟨T.setFrames fs, ?_, .returned (some (.int 1)), hrun, hended, rfl, ⟨_, rfl⟩, hW, hframe⟩
  jvm_step X.here [X.here.top, hx, hb, hdg, hmeth', hr, ret, narrow_b1]
  (try refine ⟨rfl, ?_⟩); (try refine ⟨rfl, ?_⟩)
  first | (intro acts; rw [hret _ acts rfl rfl rfl]) | rw [hret _ _ rfl rfl rfl]
  exact Steps.refl _
/-- what holds at the law's entry: the machine, the code, the tables' words (any of lw_tbl by 'hts w (by decide +kernel)'), the script of L ints xs at the cell b, what the Statement gives of the start (any of its parts by flat_of_before) -/
def lw_At (p : Program) (s : State) (m : MethodId) (meth : Method) (c : Code) (b L : Nat) (xs : Nat → Int32) : Prop :=
  p.tables.exec = Jvm.exec ∧ c.code = code ∧ meth.sig.returnType = ret ∧ c.maxLocals = 7 ∧ s.vm.findClass R_law = some m.cls ∧ (∀ w ∈ lw_tbl, w.before #[Value.ref b] s = true) ∧ va_X b L xs s s.heap ∧ b < s.heap.size ∧ meth.locks = false ∧ (Jvm.Cond.and given_1 narrow_1).before #[Value.ref b] s = true
section
variable {p : Program} {l : Launch} {e : Env} {s : State} {m : MethodId} {b : Nat} {below : List Frame} {meth : Method} {c : Code} {D : va_G} {ad : Nat → Nat} {cA : Nat → ClassId}
/-- the law's own method, called at 1504 -/
theorem law_1504 {A : Nat → Prop} {m0 : Int → Int} {k n : Nat} {Qf : State → Prop} {sl : Int} (hl : l.stackTraces = false) (C : es_Ctx p room_1 s m #[Value.ref b] meth c D ad cA A 7 m0 k n code 13 40 (some sl))
    (hX : vw_X s) (hZ : vx_Zq Bundle.tN "UNASSIGNED_STACK" Bundle.steD A s s.heap) (hN : vx_Zq Bundle.tN "SUPPRESSED_SENTINEL" Bundle.listD A s s.heap) (hk : k + 1 ≤ 601024) (hn : n + 6 ≤ 7293034) {M : es_M} {v i : Int} (hr : 0 ≤ M 58 1 ∧ M 58 1 ≤ 120)
    (kk : ∀ (y : Int) (M' : es_M), (((0 ≤ v ∧ v < M 58 1) ∧ y = 0 ∧ M' = es_upd M 139 0 (M 59 v)) ∨ (¬ (0 ≤ v ∧ v < M 58 1) ∧ y = 1 ∧ M' = M)) → es_G p l e room_1 s m #[Value.ref b] below meth c D ad cA A 7 m0 (k + 1) (n + 6) Qf 1507 [lr 140, lr 0, lr 91, lr 139, li i, none, none] [.inl y] M') :
    es_G p l e room_1 s m #[Value.ref b] below meth c D ad cA A 7 m0 k n Qf 1504 [lr 140, lr 0, lr 91, lr 139, li i, none, none] [.inr (.inr 139), .inl v, .inr (.inr 0)] M := by
  obtain ⟨hex, hb, hml, hown, hts, hU, hinj, hA, hSc, hR⟩ := C
  intro H locs ls hL hst hM hm hP hS
  have hv : es_r32 v := (es_ok1 (es_ok1 hst).2).1
  have hA2 : ∀ q, es_A ad q → A q := fun q ⟨j, j1, e⟩ => e ▸ hA j j1
  refine va_calli (vx_runSW (As := [.ref (ad 0), .int (Int32.ofInt v), .ref (ad 139)]) (rest := []) (bytes := method_3_code) (maxL := 4) (ret := some .int) (hh := y_hh) (Ts := es_WT) (own := es_cn 13) (n := 3) (index := 204) ⟨hex, hb, hml, hown, hts⟩ (y_row l hl hinj hv hM hr 40) (vx_cwSW 3 hts y_wG rfl rfl rfl ⟨by decide, by decide, by decide +kernel⟩ ⟨Nat.le_of_ble_eq_true rfl, Nat.le_of_ble_eq_true rfl⟩)
    ⟨x_blind _, fun U h1 h2 => ⟨rfl, x_pre hA2 hU hX hZ hN hP hS h1 h2⟩⟩ rfl rfl hL.2.1 rfl (lv_room (Nat.le_of_ble_eq_true rfl)) (show decode code 1504 = .ok (.invokestatic 204, 3) by decide +kernel) ⟨hk, hn⟩) hS (fun q _ h => hA2 q h) hA2 (fun r M' t H1 locs1 ht hvm hw hB hz1 hk1 hS1 => ?_)
  obtain ⟨b1, b2, b3⟩ := hB
  rw [ht] at b3
  rcases hw with ⟨h1, rfl, h3⟩ | ⟨h1, rfl, h3⟩
  · exact kk 0 M' (Or.inl ⟨h1, rfl, h3⟩) H1 locs1 ls hL (List.forall_mem_cons.mpr ⟨es_r0, fun w h => by cases h⟩) b1 (b2.trans hm) b3 hS1
  · exact kk 1 M' (Or.inr ⟨h1, rfl, h3⟩) H1 locs1 ls hL (List.forall_mem_cons.mpr ⟨(⟨by decide, by decide⟩ : es_r32 1), fun w h => by cases h⟩) b1 (b2.trans hm) b3 hS1
/-- the law's loop, from its head, with n rows of five left at most -/
theorem law_loop {m0 : Int → Int} {sl : Int} (hl : l.stackTraces = false) (hr : meth.sig.returnType = ret) (hlocks : meth.locks = false)
    (C : ∀ k n : Nat, k ≤ 601024 → n ≤ 7293034 → es_Ctx p room_1 s m #[Value.ref b] meth c D ad cA (fun q : Nat => s.heap.size ≤ q) 7 m0 k n code 13 40 (some sl))
    (hX : vw_X s) (hZ : vx_Zq Bundle.tN "UNASSIGNED_STACK" Bundle.steD (fun q : Nat => s.heap.size ≤ q) s s.heap) (hN : vx_Zq Bundle.tN "SUPPRESSED_SENTINEL" Bundle.listD (fun q : Nat => s.heap.size ≤ q) s s.heap) (hm0 : ∀ j, es_r32 (m0 j)) (s1 : sl ≤ 2560) :
    ∀ (n : Nat) (i : Int) (k j : Nat) (M : es_M), 0 ≤ i → sl ≤ i + 5 * n → k + n ≤ 601024 → j + 6 * n ≤ 7293034 → Inv M → M 140 = m0 →
      es_G p l e room_1 s m #[Value.ref b] below meth c D ad cA (fun q : Nat => s.heap.size ≤ q) 7 m0 k j (lw_Z below #[Value.ref b] s) 23 [lr 140, lr 0, lr 91, lr 139, li i, none, none] [] M := by
  have hret : ∀ k j : Nat, k ≤ 601024 → j ≤ 7293034 → es_Ret p l e room_1 s m #[Value.ref b] below meth c D ad cA (fun q : Nat => s.heap.size ≤ q) m0 k j (lw_Z below #[Value.ref b] s) code (some .boolean) (fun y _ => y = 1) := by
    intro k j hk hj pc ls H locs M' y i sv hd hrt hQ hok hrng hm' hP' hS'
    rcases hrt with ⟨rfl, rfl, h3⟩ | ⟨rfl, rfl, h3⟩ | ⟨rfl, rfl, rfl, h3⟩
    · refine va_forget (fun q hq => hS'.2.2 q hq) (W.widen (k := 601024) (n := 7293034) hk hj ?_)
      subst hQ
      exact lw_ret (C 0 0 (Nat.zero_le _) (Nat.zero_le _)).1 (C 0 0 (Nat.zero_le _) (Nat.zero_le _)).2.1 hr hlocks hd
    · cases h3
    · cases h3
  have cl : ∀ k j : Nat, k ≤ 601024 → j ≤ 7293034 → es_ClS sl 40 (fun y _ => y = 1) (es_G p l e room_1 s m #[Value.ref b] below meth c D ad cA (fun q : Nat => s.heap.size ≤ q) 7 m0 k j (lw_Z below #[Value.ref b] s)) := fun k j hk hj n pc L st M h =>
    es_wp_ok (below := below) (l := l) (e := e) (cd := cd_Law) (stop := st_Law) rfl ck_Law (C k j hk hj) (hret k j hk hj) n pc L st M h
  have out : ∀ (k j : Nat) (i : Int) (M : es_M), k ≤ 601024 → j ≤ 7293034 → 0 ≤ sl → sl < i + 5 → es_G p l e room_1 s m #[Value.ref b] below meth c D ad cA (fun q : Nat => s.heap.size ≤ q) 7 m0 k j (lw_Z below #[Value.ref b] s) 23 [lr 140, lr 0, lr 91, lr 139, li i, none, none] [] M := fun k j i M hk hj s0 h => by
    have e5 : w32 (sl - 5) = sl - 5 := w32_s (by omega) (by omega)
    apply k_Law_23 (cl k j hk hj)
    rw [e5]
    exact ⟨fun _ => ⟨Or.inr rfl, rfl⟩, fun z => absurd (by omega) z⟩
  obtain ⟨ns, xs, hs0, hs1, -⟩ := (C 0 0 (Nat.zero_le _) (Nat.zero_le _)).2.2.2.2.2.2.2.2.1 sl rfl
  have s0 : 0 ≤ sl := by omega
  intro n
  induction n with
  | zero =>
    intro i k j M i0 hi hk hj hI hm
    exact out k j i M (by omega) (by omega) s0 (by omega)
  | succ n ih =>
    intro i k j M i0 hi hk hj hI hm
    by_cases h5 : i + 5 ≤ sl
    · have nx : ∀ (k' j' : Nat), k' + n ≤ 601024 → j' + 6 * n ≤ 7293034 → ∀ M', M' 140 = M 140 → Inv M' → es_G p l e room_1 s m #[Value.ref b] below meth c D ad cA (fun q : Nat => s.heap.size ≤ q) 7 m0 k' j' (lw_Z below #[Value.ref b] s) 1552 [lr 140, lr 0, lr 91, lr 139, li i, none, none] [] M' := by
        intro k' j' hk' hj' M' h1 h2
        apply k_Law_1552 (cl k' j' (by omega) (by omega))
        rw [w32_s (by omega) (by omega)]
        exact ih (i + 5) k' j' M' (by omega) (by omega) hk' hj' h2 (h1.trans hm)
      have r1 : 0 ≤ w32 (i + 1) ∧ w32 (i + 1) < sl := by rw [w32_s (by omega) (by omega)]; omega
      refine law_step (cl k j (by omega) (by omega)) hI (fun j => by rw [hm]; exact hm0 j) i0 h5 s1 (nx k j (by omega) (by omega)) (k_Law_1496 (cl k j (by omega) (by omega)) ⟨r1, ?_⟩)
      refine law_1504 hl (C k j (by omega) (by omega)) hX hZ hN (by omega) (by omega) hI.2.1.1.2 (fun y M' h => ?_)
      exact law_1507 (cl (k + 1) (j + 6) (by omega) (by omega)) hI rfl r1 (nx (k + 1) (j + 6) (by omega) (by omega)) h
    · exact out k j i M (by omega) (by omega) s0 (by omega)
end
