/-! ONE STEP IS SOUND: calls, switches, returns; then walks and methods -/
section
variable {p : Program} {l : Launch} {e : Env} {R : Room} {s : State} {m : MethodId} {args : Array Value} {below : List Frame} {meth : Method} {c : Code} {D : va_G} {ad : Nat → Nat} {cA : Nat → ClassId} {A : Nat → Prop} {nL : Nat} {m0 : Int → Int} {cells slots : Nat} {Qf : State → Prop} {cc : ByteArray} {own d : Nat} {S : Option Int}
variable {ret : Option FieldType} {Q : Int → es_M → Prop} {K : Nat → es_L → List AV → es_M → Prop} {pc : Nat} {L : es_L} {st : List AV} {M : es_M} {len : Nat} {x : es_X}
theorem es_mok_of {id n kind st : Nat} {own : String} (h : es_mok id n kind st own = true) : ∃ q : es_I, es_mi[id]? = some q ∧ q.2.2.2.2.1 = n ∧ es_kind q.2.2.2.1 = kind ∧ q.2.2.2.2.2.1 = st ∧ (own = "" ∨ q.1.cls = own) := by
  unfold es_mok at h
  split at h
  · rename_i q hq
    simp only [Bool.and_eq_true, Bool.or_eq_true, decide_eq_true_eq, Nat.beq_eq] at h
    obtain ⟨⟨⟨h1, h2⟩, h3⟩, h4⟩ := h
    exact ⟨q, hq, h1, h2, h3, h4⟩
  · cases h
theorem es_pre {av : List AV} (hU : es_U D cA s) {H : Heap} (hP : va_P D es_cl (es_ws ad cA M) H) : FrameBlind (es_Pc ad D cA av M) ∧ ∀ U : State, U.heap = H → s.WarmedH U.vm → es_Pc ad D cA av M (av.map (es_V ad)).toArray U :=
  ⟨es_Pc_blind ad D cA av M, fun U h1 h2 => ⟨rfl, by rw [h1]; exact hP, hU.warm h2⟩⟩
theorem es_sum8 {r : List AV} {pc : Nat} {ls : Array Slot} {st0 : List Value} {m : MethodId} (h : Nat.ble (es_cat r) 8 = true) : 2 * (F0 m pc ls st0).monitorRoom + ((r.map (es_V ad)).map fun v => v.category).sum ≤ 8 := lv_room (by rw [← es_cat_sum]; exact Nat.le_of_ble_eq_true h)
theorem es_s_invokevirtual {ix : Nat} (C : es_Ctx p R s m args meth c D ad cA A nL m0 cells slots cc own d S) (hK : ∀ pc L st M, K pc L st M → es_G p l e R s m args below meth c D ad cA A nL m0 cells slots Qf pc L st M) (hd : decode cc pc = .ok (.invokevirtual ix, len)) (hx : es_xok own pc (.invokevirtual ix) len x = true) (h : es_step (es_lay S) 140 (es_Call d) ret Q K pc L st M (.invokevirtual ix) len x) : es_G p l e R s m args below meth c D ad cA A nL m0 cells slots Qf pc L st M := by
  obtain ⟨hex, hb, hml, hown, hts, hU, hinj, hA, hSc, hR⟩ := C
  intro H locs ls hL hst hM hm hP hS
  simp only [es_xok, Bool.and_eq_true, decide_eq_true_eq] at hx
  obtain ⟨⟨⟨⟨h0, h1⟩, hne⟩, hb13⟩, h2⟩ := hx
  have h0 := Nat.eq_of_beq_eq_true h0
  subst h0
  obtain ⟨q, hq, hn, hkind, hst0, hcls⟩ := es_mok_of h1
  have hcls : q.1.cls = es_cn x.2.2.2.toNat := hcls.resolve_left hne
  have hlink := hts _ (es_ML_w h2)
  rw [es_my_of hq] at hlink
  obtain ⟨m1, m2, m3, m4, m5, m6, m7, m8, -⟩ := es_mfacts hq
  obtain ⟨m8, m9⟩ := m8 hst0
  simp only [es_step] at h
  split at h
  · rename_i o av r hpop
    obtain ⟨xs, p1, p2, p3⟩ := es_pop_of _ _ _ _ _ hpop
    have hxs : xs = av.reverse ++ [.inr (.inr o)] := by
      have := congrArg List.reverse p3
      simpa using this.symm
    split at h
    · rename_i ci fl hlo
      have hk := es_lay_o hlo
      cases hc : (Nat.beq ci x.2.2.2.toNat && Nat.ble (es_cat r) 8) with
      | false => rw [hc] at h; exact h.elim
      | true =>
        rw [hc] at h
        simp only [Bool.and_eq_true] at hc
        have hci := Nat.eq_of_beq_eq_true hc.1
        subst hci
        obtain ⟨f1, f2, -⟩ := es_ofacts hk
        obtain ⟨g1, -, -, -⟩ := es_cfacts f1
        have hav : ∀ v ∈ (.inr (.inr o) :: av : List AV), es_ok v := by
          intro v hv
          refine hst v ?_
          rw [p2, hxs]
          rcases List.mem_cons.mp hv with rfl | hv
          · simp
          · simp [hv]
        have hr : ∀ v ∈ r, es_ok v := fun v hv => hst v (by rw [p2]; simp [hv])
        have hlen : av.length = q.2.2.2.2.1 := by
          rw [hn]
          have := congrArg List.length hxs
          rw [p1] at this
          simp at this
          omega
        have hMet := h q hq hav hM l ad D cA hinj
        obtain ⟨pb, pu⟩ := es_pre (av := .inr (.inr o) :: av) hU hP
        have hstk : (F0 m pc ls (st.map (es_V ad))).stack = (av.map (es_V ad)).reverse ++ Value.ref (ad o) :: r.map (es_V ad) := by
          show st.map (es_V ad) = _
          rw [p2, hxs]
          simp [es_V]
        refine es_back (q := q) (rest := r) (a := (Value.ref (ad o) :: av.map (es_V ad)).toArray) (va_runV (C := es_cn x.2.2.2.toNat) (b := ad o) (bytes := q.2.1) (maxL := q.2.2.1) (ret := q.2.2.2.1) (Ts := es_WT) (own := es_cn own) (As := av.map (es_V ad)) (n := q.2.2.2.2.1) (index := ix) ⟨hex, hb, hml, hown, hts⟩ hMet
          ⟨callB_of (Ts := es_WT) _ hts (es_GoodM (List.mem_of_getElem? hq)) rfl rfl rfl (hts _ m2) hlink ⟨m4, m5, m6⟩ ⟨hR.1, by show 8 + (q.2.2.1 + 11) + 64 * d ≤ R.locals; omega⟩, hts _ m8, by rw [← hcls]; exact hts _ m9⟩
          ⟨pb, va_recv hU.1 hP g1 (es_ws_at hk), pu⟩ rfl (by simpa using hlen) hL.2.1 hstk (es_sum8 hc.2) hd ⟨hR.2.2.1, hR.2.2.2⟩) hm hA hL hr hS (fun y M' hy => ?_)
        have k := hK _ _ _ _ hy
        rw [← hkind] at k
        exact k
    · exact h.elim
  · exact h.elim
theorem es_s_invokestatic {ix : Nat} (C : es_Ctx p R s m args meth c D ad cA A nL m0 cells slots cc own d S) (hK : ∀ pc L st M, K pc L st M → es_G p l e R s m args below meth c D ad cA A nL m0 cells slots Qf pc L st M) (hd : decode cc pc = .ok (.invokestatic ix, len)) (hx : es_xok own pc (.invokestatic ix) len x = true) (h : es_step (es_lay S) 140 (es_Call d) ret Q K pc L st M (.invokestatic ix) len x) : es_G p l e R s m args below meth c D ad cA A nL m0 cells slots Qf pc L st M := by
  obtain ⟨hex, hb, hml, hown, hts, hU, hinj, hA, hSc, hR⟩ := C
  intro H locs ls hL hst hM hm hP hS
  simp only [es_xok, Bool.and_eq_true] at hx
  obtain ⟨h0, hx⟩ := hx
  have h0 := Nat.eq_of_beq_eq_true h0
  subst h0
  simp only [es_step] at h
  cases hz1 : Nat.beq x.1 9998 with
  | true =>
    rw [hz1] at h hx
    simp only [cond_true] at h hx
    have hlink := hts _ (es_AC_w hx)
    split at h
    · rename_i n dp b sp a r
      obtain ⟨o1, o2⟩ := es_ok1 hst
      obtain ⟨o3, o4⟩ := es_ok1 o2
      obtain ⟨-, o4⟩ := es_ok1 o4
      obtain ⟨o5, o6⟩ := es_ok1 o4
      obtain ⟨-, o7⟩ := es_ok1 o6
      split at h
      · rename_i na nb hla hlb
        cases hc : (Nat.blt a 140 && Nat.blt b 140 && Nat.ble (es_cat r) 8) with
        | false => rw [hc] at h; exact h.elim
        | true =>
          rw [hc] at h
          simp only [Bool.and_eq_true] at hc
          obtain ⟨⟨c1, c2⟩, c3⟩ := hc
          simp only [cond_true] at h
          obtain ⟨⟨b1, b2, b3, b4, b5⟩, h⟩ := h
          have ha : es_layL[a]? = some (.inl (.int, na)) := by rw [← es_lay_lt c1]; exact hla
          have hbb : es_layL[b]? = some (.inl (.int, nb)) := by rw [← es_lay_lt c2]; exact hlb
          obtain ⟨t0, ht0⟩ := es_ty_at (cA := cA) ha
          obtain ⟨t1, ht1⟩ := es_ty_at (cA := cA) hbb
          have e5 : nativeFrameWords "java/lang/System" "arraycopy" 5 + 11 ≤ 56 := by decide +kernel
          have c3' := Nat.le_of_ble_eq_true c3
          rw [es_cat_sum ad] at c3'
          have z : ∀ w : Int, es_r32 w → 0 ≤ w → ¬ Int32.ofInt w < 0 := fun w h1 h2 q => by rw [es_0, es_lt32 h1 es_r0] at q; omega
          refine va_copyi hex hb (hml.trans hL.2.1.symm) hown hlink (hts _ es_nA) (hts _ es_sA) (hts _ es_iS) hU.1 hP (es_D hinj hA) hS a b t0 t1 (es_ws_at ha) (es_ws_at hbb) ht0 ht1 rfl (z _ o5 b1) (z _ o3 b2) (z _ o1 b3)
            (by rw [es_cl' o5, es_cl' o1]; omega) (by rw [es_cl' o3, es_cl' o1]; omega) (fun i _ => rfl) (by have := hR.1; omega) (by have := hR.2.1; omega) hd (fun H1 locs1 hP1 hD1 hS1 => ?_)
          have e1 := es_ws_set (ad := ad) (cA := cA) hbb (es_cpy_o (M := M) (a := a) (b := b) (sp := sp) (dp := dp) (n := n))
          have e2 : va_cpy (fun j : Nat => Int32.ofInt (M a j)) (fun j : Nat => Int32.ofInt (M b j)) (Int32.ofInt sp).toNatClampNeg (Int32.ofInt dp).toNatClampNeg (Int32.ofInt n).toNatClampNeg = fun j : Nat => Int32.ofInt (es_cpy M a sp b dp n b j) := by
            funext j
            rw [es_cl' o5, es_cl' o3, es_cl' o1]
            unfold va_cpy es_cpy
            by_cases q : dp.toNat ≤ j ∧ j < dp.toNat + n.toNat
            · rw [if_pos q, if_pos ⟨rfl, by omega, by omega⟩]
              show Int32.ofInt (M a ((sp.toNat + (j - dp.toNat) : Nat) : Int)) = _
              rw [show ((sp.toNat + (j - dp.toNat) : Nat) : Int) = sp + ((j : Int) - dp) by omega]
            · rw [if_neg q, if_neg (fun z => q ⟨by omega, by omega⟩)]
          rw [e2] at hP1
          refine hK _ _ _ _ h H1 locs1 ls hL o7 (fun c' j' => ?_) (by rw [es_cpy_o 140 (by have := es_blt c2; omega)]; exact hm) (by rw [← e1]; exact hP1) hS1
          unfold es_cpy
          by_cases q : c' = b ∧ dp ≤ j' ∧ j' < dp + n
          · rw [if_pos q, q.1, hbb]
            exact es_rng_i hM ha (by decide) _
          · rw [if_neg q]
            exact hM c' j'
      · exact h.elim
    · exact h.elim
  | false =>
    rw [hz1] at h hx
    simp only [cond_false] at h hx
    cases hz2 : Nat.beq x.1 9996 with
    | true =>
      rw [hz2] at h hx
      simp only [cond_true] at h hx
      have hlink := hts _ (es_Mmin_w hx)
      split at h
      · rename_i b a r
        obtain ⟨o1, o2⟩ := es_ok1 hst
        obtain ⟨o3, o4⟩ := es_ok1 o2
        cases c3 : Nat.ble (es_cat r) 8 with
        | false => rw [c3] at h; exact h.elim
        | true =>
          rw [c3] at h
          have c3' := Nat.le_of_ble_eq_true c3
          rw [es_cat_sum ad] at c3'
          refine va_mmin hex hb (hml.trans hL.2.1.symm) hown hlink (hts _ es_sMmin) (hts _ es_iM) (hts _ es_cMmin) (by have := hR.1; omega) (by have := hR.2.1; omega) hR.2.2.1 hR.2.2.2 hd ?_
          rw [es_min32 o3 o1]
          exact hK _ _ _ _ h H locs ls hL (es_okc (es_rmin o3 o1) o4) hM hm hP hS
      · exact h.elim
    | false =>
      rw [hz2] at h hx
      simp only [cond_false] at h hx
      cases hz3 : Nat.beq x.1 9997 with
      | true =>
        rw [hz3] at h hx
        simp only [cond_true] at h hx
        have hlink := hts _ (es_Mmax_w hx)
        split at h
        · rename_i b a r
          obtain ⟨o1, o2⟩ := es_ok1 hst
          obtain ⟨o3, o4⟩ := es_ok1 o2
          cases c3 : Nat.ble (es_cat r) 8 with
          | false => rw [c3] at h; exact h.elim
          | true =>
            rw [c3] at h
            have c3' := Nat.le_of_ble_eq_true c3
            rw [es_cat_sum ad] at c3'
            refine va_mmax hex hb (hml.trans hL.2.1.symm) hown hlink (hts _ es_sMmax) (hts _ es_iM) (hts _ es_cMmax) (by have := hR.1; omega) (by have := hR.2.1; omega) hR.2.2.1 hR.2.2.2 hd ?_
            rw [es_max32 o3 o1]
            exact hK _ _ _ _ h H locs ls hL (es_okc (es_rmax o3 o1) o4) hM hm hP hS
        · exact h.elim
      | false =>
        rw [hz3] at h hx
        simp only [cond_false, Bool.and_eq_true, Bool.or_eq_true] at h hx
        obtain ⟨h1, h2⟩ := hx
        obtain ⟨q, hq, hn, hkind, hst0, -⟩ := es_mok_of h1
        obtain ⟨m1, m2, m3, m4, m5, m6, m7, -, m8⟩ := es_mfacts hq
        have m8 := m8 hst0
        split at h
        · rename_i av r hpop
          obtain ⟨xs, p1, p2, p3⟩ := es_pop_of _ _ _ _ _ hpop
          have hxs : xs = av.reverse := by
            have := congrArg List.reverse p3
            simpa using this.symm
          cases hc : Nat.ble (es_cat r) 8 with
          | false => rw [hc] at h; exact h.elim
          | true =>
            rw [hc] at h
            simp only [cond_true] at h
            have hav : ∀ v ∈ av, es_ok v := by
              intro v hv
              refine hst v ?_
              rw [p2, hxs]
              simp [hv]
            have hr : ∀ v ∈ r, es_ok v := fun v hv => hst v (by rw [p2]; simp [hv])
            have hlen : av.length = q.2.2.2.2.1 := by
              rw [hn]
              have := congrArg List.length hxs
              rw [p1] at this
              simp at this
              omega
            have hMet := h q hq hav hM l ad D cA hinj
            obtain ⟨pb, pu⟩ := es_pre (av := av) hU hP
            have hstk : (F0 m pc ls (st.map (es_V ad))).stack = (av.map (es_V ad)).reverse ++ r.map (es_V ad) := by
              show st.map (es_V ad) = _
              rw [p2, hxs]
              simp
            have hroom : (es_rm d).frames + 1 ≤ R.frames ∧ 8 + (q.2.2.1 + 11) + (es_rm d).locals ≤ R.locals := ⟨hR.1, by show 8 + (q.2.2.1 + 11) + 64 * d ≤ R.locals; omega⟩
            have fin : va_Run p l e R s m args below meth c H locs cells slots 0 0 (F0 m pc ls (st.map (es_V ad))) (r.map (es_V ad)) (es_Qc ad D cA q.2.2.2.1 (M 140) (fun v M' => K (pc + 3) L (es_push x.2.2.1 v r) M') (av.map (es_V ad)).toArray) (es_A ad) := by
              rcases h2 with h2 | h2
              · have hlink := hts _ (es_ML_w h2)
                rw [es_my_of hq] at hlink
                exact va_runS (bytes := q.2.1) (maxL := q.2.2.1) (ret := q.2.2.2.1) (Ts := es_WT) (own := es_cn own) (As := av.map (es_V ad)) (n := q.2.2.2.2.1) (index := ix) ⟨hex, hb, hml, hown, hts⟩ hMet
                  ⟨callB_of (Ts := es_WT) _ hts (es_GoodM (List.mem_of_getElem? hq)) rfl rfl rfl (hts _ m2) hlink ⟨m4, m5, m6⟩ hroom, hts _ m8⟩
                  ⟨pb, pu⟩ rfl (by simpa using hlen) hL.2.1 hstk (es_sum8 hc) hd ⟨hR.2.2.1, hR.2.2.2⟩
              · have hlink := hU.2 _ (es_MN_w h2)
                rw [es_my_of hq] at hlink
                exact va_runSN (bytes := q.2.1) (maxL := q.2.2.1) (ret := q.2.2.2.1) (Ts := es_WT) (own := es_cn own) (host := "EveryStreet") (As := av.map (es_V ad)) (n := q.2.2.2.2.1) (index := ix) ⟨hex, hb, hml, hown, hts⟩ hMet
                  ⟨va_cnB (Ts := es_WT) _ hts (es_GoodM (List.mem_of_getElem? hq)) rfl rfl rfl hlink (hts _ m2) ⟨m4, m5, m6⟩ hroom, hts _ m8, trivial⟩
                  ⟨pb, pu⟩ rfl (by simpa using hlen) hL.2.1 hstk (es_sum8 hc) hd ⟨hR.2.2.1, hR.2.2.2⟩
            refine es_back (q := q) (rest := r) fin hm hA hL hr hS (fun y M' hy => ?_)
            have k := hK _ _ _ _ hy
            rw [← hkind] at k
            exact k
        · exact h.elim
theorem es_sw_of {pc : Nat} {K : Nat → Prop} {a : Int} : ∀ (os : List Int) (v : Int), es_sw pc K a v os → v ≤ a → a < v + os.length → ∃ o, os[(a - v).toNat]? = some o ∧ K ((pc : Int) + o).toNat
  | [], v, h, h1, h2 => by simp at h2; omega
  | o :: os, v, h, h1, h2 => by
    by_cases e : a = v
    · subst e
      exact ⟨o, by simp, h.1 rfl⟩
    · obtain ⟨o', h3, h4⟩ := es_sw_of os (v + 1) h.2 (by omega) (by simp at h2; omega)
      refine ⟨o', ?_, h4⟩
      rw [show (a - v).toNat = (a - (v + 1)).toNat + 1 by omega, List.getElem?_cons_succ]
      exact h3
theorem es_s_tableswitch {dflt lo hi : Int} {offs : Array Int} (C : es_Ctx p R s m args meth c D ad cA A nL m0 cells slots cc own d S) (hK : ∀ pc L st M, K pc L st M → es_G p l e R s m args below meth c D ad cA A nL m0 cells slots Qf pc L st M) (hd : decode cc pc = .ok (.tableswitch dflt lo hi offs, len)) (hx : es_xok own pc (.tableswitch dflt lo hi offs) len x = true) (h : es_step (es_lay S) 140 (es_Call d) ret Q K pc L st M (.tableswitch dflt lo hi offs) len x) : es_G p l e R s m args below meth c D ad cA A nL m0 cells slots Qf pc L st M := by
  obtain ⟨hex, hb, hml, hown, hts, hU, hinj, hA, hSc, hR⟩ := C
  intro H locs ls hL hst hM hm hP hS
  simp only [es_xok, Bool.and_eq_true, decide_eq_true_eq] at hx
  obtain ⟨⟨h0, h1⟩, h2⟩ := hx
  simp only [es_step] at h
  split at h
  · rename_i a r
    obtain ⟨o1, o2⟩ := es_ok1 hst
    obtain ⟨ha, hb2⟩ := h
    simp only [List.map_cons, es_V]
    by_cases q : a < lo ∨ hi < a
    · exact lv_tableOut (tgt := ((pc : Int) + dflt).toNat) hex hb hd (by rw [es_t32 o1]; exact q) (by omega) (hK _ _ _ _ (ha q) H locs ls hL o2 hM hm hP hS)
    · obtain ⟨o, h3, h4⟩ := es_sw_of _ _ hb2 (by omega) (by omega)
      have h5 := List.all_eq_true.mp h1 o (List.mem_of_getElem? h3)
      simp only [decide_eq_true_eq] at h5
      exact lv_tableIn (off := o) (tgt := ((pc : Int) + o).toNat) hex hb hd (by rw [es_t32 o1]; omega) (by rw [es_t32 o1]; omega) (by rw [es_t32 o1, ← Array.getElem?_toList]; exact h3) (by omega) (hK _ _ _ _ h4 H locs ls hL o2 hM hm hP hS)
  · exact h.elim
theorem es_swl_of {pc : Nat} {K : Nat → Prop} {a d : Int} : ∀ (os : List (Int × Int)), (es_swo a os → K ((pc : Int) + d).toNat) → es_swl pc K a os → K ((pc : Int) + Op.lookupswitch.offset os d a).toNat
  | [], h, _ => h trivial
  | (k, o) :: os, h, h2 => by
    by_cases e : a = k
    · rw [show Op.lookupswitch.offset ((k, o) :: os) d a = o by simp [Op.lookupswitch.offset, e]]
      exact h2.1 e
    · have e' : ¬ k = a := fun q => e q.symm
      rw [show Op.lookupswitch.offset ((k, o) :: os) d a = Op.lookupswitch.offset os d a by simp [Op.lookupswitch.offset, e']]
      exact es_swl_of os (fun z => h ⟨e, z⟩) (h2.2 e)
theorem es_off_in {a d : Int} : ∀ os : List (Int × Int), Op.lookupswitch.offset os d a = d ∨ ∃ q ∈ os, Op.lookupswitch.offset os d a = q.2
  | [] => Or.inl rfl
  | (k, o) :: os => by
    by_cases e : a = k
    · right
      exact ⟨(k, o), by simp, by simp [Op.lookupswitch.offset, e]⟩
    · have e' : ¬ k = a := fun q => e q.symm
      rw [show Op.lookupswitch.offset ((k, o) :: os) d a = Op.lookupswitch.offset os d a by simp [Op.lookupswitch.offset, e']]
      rcases es_off_in os with h | ⟨q, h1, h2⟩
      · exact Or.inl h
      · exact Or.inr ⟨q, List.mem_cons_of_mem _ h1, h2⟩
theorem es_s_lookupswitch {dflt : Int} {ps : Array (Int × Int)} (C : es_Ctx p R s m args meth c D ad cA A nL m0 cells slots cc own d S) (hK : ∀ pc L st M, K pc L st M → es_G p l e R s m args below meth c D ad cA A nL m0 cells slots Qf pc L st M) (hd : decode cc pc = .ok (.lookupswitch dflt ps, len)) (hx : es_xok own pc (.lookupswitch dflt ps) len x = true) (h : es_step (es_lay S) 140 (es_Call d) ret Q K pc L st M (.lookupswitch dflt ps) len x) : es_G p l e R s m args below meth c D ad cA A nL m0 cells slots Qf pc L st M := by
  obtain ⟨hex, hb, hml, hown, hts, hU, hinj, hA, hSc, hR⟩ := C
  intro H locs ls hL hst hM hm hP hS
  simp only [es_xok, Bool.and_eq_true, decide_eq_true_eq] at hx
  obtain ⟨⟨h0, h1⟩, h2⟩ := hx
  simp only [es_step] at h
  split at h
  · rename_i a r
    obtain ⟨o1, o2⟩ := es_ok1 hst
    have h3 := es_swl_of (K := fun t => K t L r M) _ h.1 h.2
    have h4 : 0 ≤ (pc : Int) + Op.lookupswitch.offset ps.toList dflt a := by
      rcases es_off_in (a := a) (d := dflt) ps.toList with e | ⟨q, hq, e⟩
      · rw [e]; exact h0
      · rw [e]
        have := List.all_eq_true.mp h1 q hq
        simpa using this
    simp only [List.map_cons, es_V]
    exact lv_lookup (tgt := ((pc : Int) + Op.lookupswitch.offset ps.toList dflt a).toNat) hex hb hd h2 rfl (by rw [es_t32 o1]; omega) (hK _ _ _ _ h3 H locs ls hL o2 hM hm hP hS)
  · exact h.elim
end
