/-! ONE STEP IS SOUND: arrays, fields, calls, switches, returns -/
section
variable {p : Program} {l : Launch} {e : Env} {R : Room} {s : State} {m : MethodId} {args : Array Value} {below : List Frame} {meth : Method} {c : Code} {D : va_G} {ad : Nat → Nat} {cA : Nat → ClassId} {A : Nat → Prop} {nL : Nat} {m0 : Int → Int} {cells slots : Nat} {Qf : State → Prop} {cc : ByteArray} {own d : Nat} {S : Option Int}
variable {ret : Option FieldType} {Q : Int → es_M → Prop} {K : Nat → es_L → List AV → es_M → Prop} {pc : Nat} {L : es_L} {st : List AV} {M : es_M} {len : Nat} {x : es_X}
theorem es_scr {M : es_M} {j n : Int} {L : Nat} {xs : Nat → Int32} (hj : es_r32 j) (h0 : 0 ≤ j) (h : ∀ j : Nat, M 140 (j : Int) = (xs j).toInt) : xs (Int32.ofInt j).toNatClampNeg = Int32.ofInt (M 140 j) := by
  have h1 := es_clm hj h0
  have h2 := h (Int32.ofInt j).toNatClampNeg
  rw [h1] at h2
  rw [h2, es_o32]
theorem es_s_iaload  (C : es_Ctx p R s m args meth c D ad cA A nL m0 cells slots cc own d S) (hK : ∀ pc L st M, K pc L st M → es_G p l e R s m args below meth c D ad cA A nL m0 cells slots Qf pc L st M) (hd : decode cc pc = .ok (.iaload, len)) (hx : es_xok own pc (.iaload) len x = true) (h : es_step (es_lay S) 140 (es_Call d) ret Q K pc L st M (.iaload) len x) : es_G p l e R s m args below meth c D ad cA A nL m0 cells slots Qf pc L st M := by
  obtain ⟨hex, hb, hml, hown, hts, hU, hinj, hA, hSc, hR⟩ := C
  intro H locs ls hL hst hM hm hP hS
  have hl : len = 1 := (Nat.eq_of_beq_eq_true hx).symm
  subst hl
  simp only [es_step] at h
  split at h
  · rename_i j k r
    obtain ⟨o1, o2⟩ := es_ok1 hst
    obtain ⟨-, o3⟩ := es_ok1 o2
    split at h
    · rename_i n hn
      obtain ⟨⟨h0, h1⟩, h⟩ := h
      rcases es_lay_s hn with hk | ⟨rfl, rfl, -⟩
      · obtain ⟨t0, ht0⟩ := es_ty_at (cA := cA) hk
        have kk := hK _ _ _ _ h H locs ls hL (es_okc (es_rng_i hM hk (by decide) j) o3) hM hm hP hS
        simp only [List.map_cons, es_V] at kk ⊢
        rw [← es_clm o1 h0] at kk
        exact va_iald hex hb hU.1 hP k t0 (es_ws_at hk) ht0 (es_in o1 h0 h1) hd kk
      · obtain ⟨n', xs, rfl, hn', hX, hlt, hnA, hv⟩ := hSc _ rfl
        rw [← hm] at hv
        have e1 := es_scr (M := M) (n := 0) (L := 0) o1 h0 hv
        have kk := hK _ _ _ _ h H locs ls hL (es_okc (show es_r32 (M 140 j) from by have := hM 140 j; exact this) o3) hM hm hP hS
        simp only [List.map_cons, es_V] at kk ⊢
        rw [← e1] at kk
        exact va_sld hex hb hX hlt hnA hS (by have := es_in (n := (n' : Int)) o1 h0 h1; simpa using this) hd kk
    · exact h.elim
  · exact h.elim
theorem es_s_baload  (C : es_Ctx p R s m args meth c D ad cA A nL m0 cells slots cc own d S) (hK : ∀ pc L st M, K pc L st M → es_G p l e R s m args below meth c D ad cA A nL m0 cells slots Qf pc L st M) (hd : decode cc pc = .ok (.baload, len)) (hx : es_xok own pc (.baload) len x = true) (h : es_step (es_lay S) 140 (es_Call d) ret Q K pc L st M (.baload) len x) : es_G p l e R s m args below meth c D ad cA A nL m0 cells slots Qf pc L st M := by
  obtain ⟨hex, hb, hml, hown, hts, hU, hinj, hA, hSc, hR⟩ := C
  intro H locs ls hL hst hM hm hP hS
  have hl : len = 1 := (Nat.eq_of_beq_eq_true hx).symm
  subst hl
  simp only [es_step] at h
  split at h
  · rename_i j k r
    obtain ⟨o1, o2⟩ := es_ok1 hst
    obtain ⟨-, o3⟩ := es_ok1 o2
    split at h
    · rename_i n hn
      obtain ⟨⟨h0, h1⟩, h⟩ := h
      have hk := es_lay_t (by decide) hn
      obtain ⟨t0, ht0⟩ := es_ty_at (cA := cA) hk
      have kk := hK _ _ _ _ h H locs ls hL (es_okc (es_rng_i hM hk (by decide) j) o3) hM hm hP hS
      simp only [List.map_cons, es_V] at kk ⊢
      rw [← es_clm o1 h0] at kk
      exact va_zald hex hb hU.1 hP k t0 (es_ws_at hk) ht0 (es_in o1 h0 h1) hd kk
    · exact h.elim
  · exact h.elim
theorem es_s_laload  (C : es_Ctx p R s m args meth c D ad cA A nL m0 cells slots cc own d S) (hK : ∀ pc L st M, K pc L st M → es_G p l e R s m args below meth c D ad cA A nL m0 cells slots Qf pc L st M) (hd : decode cc pc = .ok (.laload, len)) (hx : es_xok own pc (.laload) len x = true) (h : es_step (es_lay S) 140 (es_Call d) ret Q K pc L st M (.laload) len x) : es_G p l e R s m args below meth c D ad cA A nL m0 cells slots Qf pc L st M := by
  obtain ⟨hex, hb, hml, hown, hts, hU, hinj, hA, hSc, hR⟩ := C
  intro H locs ls hL hst hM hm hP hS
  have hl : len = 1 := (Nat.eq_of_beq_eq_true hx).symm
  subst hl
  simp only [es_step] at h
  split at h
  · rename_i j k r
    obtain ⟨o1, o2⟩ := es_ok1 hst
    obtain ⟨-, o3⟩ := es_ok1 o2
    split at h
    · rename_i n hn
      obtain ⟨⟨h0, h1⟩, h⟩ := h
      have hk := es_lay_t (by decide) hn
      obtain ⟨t0, ht0⟩ := es_ty_at (cA := cA) hk
      have kk := hK _ _ _ _ h H locs ls hL (es_okc (show es_ok (.inr (.inl (M k j))) from es_rng_l hM hk j) o3) hM hm hP hS
      simp only [List.map_cons, es_V] at kk ⊢
      rw [← es_clm o1 h0] at kk
      exact va_lald hex hb hU.1 hP k t0 (es_ws_at hk) ht0 (es_in o1 h0 h1) hd kk
    · exact h.elim
  · exact h.elim
theorem es_s_aaload  (C : es_Ctx p R s m args meth c D ad cA A nL m0 cells slots cc own d S) (hK : ∀ pc L st M, K pc L st M → es_G p l e R s m args below meth c D ad cA A nL m0 cells slots Qf pc L st M) (hd : decode cc pc = .ok (.aaload, len)) (hx : es_xok own pc (.aaload) len x = true) (h : es_step (es_lay S) 140 (es_Call d) ret Q K pc L st M (.aaload) len x) : es_G p l e R s m args below meth c D ad cA A nL m0 cells slots Qf pc L st M := by
  obtain ⟨hex, hb, hml, hown, hts, hU, hinj, hA, hSc, hR⟩ := C
  intro H locs ls hL hst hM hm hP hS
  have hl : len = 1 := (Nat.eq_of_beq_eq_true hx).symm
  subst hl
  simp only [es_step] at h
  split at h
  · rename_i j k r
    obtain ⟨o1, o2⟩ := es_ok1 hst
    obtain ⟨-, o3⟩ := es_ok1 o2
    split at h
    · rename_i ks hn
      obtain ⟨h0, h⟩ := h
      split at h
      · rename_i k' hk'
        have hk := es_lay_o hn
        obtain ⟨t0, ht0⟩ := es_ty_at2 (cA := cA) hk
        have hlt : j.toNat < ks.length := (List.getElem?_eq_some_iff.mp hk').1
        have kk := hK _ _ _ _ h H locs ls hL (es_okc (show es_ok (.inr (.inr k')) from trivial) o3) hM hm hP hS
        simp only [List.map_cons, es_V] at kk ⊢
        refine va_aldq hex hb hU.1 hP k t0 (es_ws_at hk) ht0 (by have := es_in (n := (ks.length : Int)) o1 h0 (by omega); simpa using this) hd ?_
        rw [es_cl' o1, hk']
        exact kk
      · exact h.elim
    · exact h.elim
  · exact h.elim
theorem es_s_arraylength  (C : es_Ctx p R s m args meth c D ad cA A nL m0 cells slots cc own d S) (hK : ∀ pc L st M, K pc L st M → es_G p l e R s m args below meth c D ad cA A nL m0 cells slots Qf pc L st M) (hd : decode cc pc = .ok (.arraylength, len)) (hx : es_xok own pc (.arraylength) len x = true) (h : es_step (es_lay S) 140 (es_Call d) ret Q K pc L st M (.arraylength) len x) : es_G p l e R s m args below meth c D ad cA A nL m0 cells slots Qf pc L st M := by
  obtain ⟨hex, hb, hml, hown, hts, hU, hinj, hA, hSc, hR⟩ := C
  intro H locs ls hL hst hM hm hP hS
  have hl : len = 1 := (Nat.eq_of_beq_eq_true hx).symm
  subst hl
  simp only [es_step] at h
  split at h
  · rename_i k r
    obtain ⟨-, o3⟩ := es_ok1 hst
    split at h
    · rename_i ty n hn
      rcases es_lay_s hn with hk | ⟨rfl, rfl, -⟩
      · obtain ⟨t0, ht0⟩ := es_ty_at (cA := cA) hk
        obtain ⟨n0, n1, -⟩ := es_afacts hk
        have kk := hK _ _ _ _ h H locs ls hL (es_okc (show es_r32 n from ⟨by omega, by omega⟩) o3) hM hm hP hS
        have hw := es_ws_at (ad := ad) (cA := cA) (M := M) hk
        simp only [List.map_cons, es_V] at kk ⊢
        obtain ⟨a0, hE, ha0⟩ : ∃ a0 : vp_A, es_E ad cA M k (.inl (ty, n)) = .inl (cA k, a0) ∧ a0.1 = n.toNat := by
          cases ty <;> exact ⟨_, rfl, rfl⟩
        rw [hE] at hw
        exact va_alen hex hb hU.1 hP k t0 hw ht0 (by rw [ha0, ← es_ofn, Int.toNat_of_nonneg n0]) hd kk
      · obtain ⟨n', xs, rfl, hn', hX, hlt, hnA, hv⟩ := hSc _ rfl
        have kk := hK _ _ _ _ h H locs ls hL (es_okc (show es_r32 (n' : Int) from ⟨by omega, by omega⟩) o3) hM hm hP hS
        exact va_slen hex hb hX hlt hnA hS hd kk
    · exact h.elim
  · exact h.elim
theorem es_blt {a b : Nat} (h : Nat.blt a b = true) : a < b := by simpa [Nat.blt_eq] using h
theorem es_s_iastore  (C : es_Ctx p R s m args meth c D ad cA A nL m0 cells slots cc own d S) (hK : ∀ pc L st M, K pc L st M → es_G p l e R s m args below meth c D ad cA A nL m0 cells slots Qf pc L st M) (hd : decode cc pc = .ok (.iastore, len)) (hx : es_xok own pc (.iastore) len x = true) (h : es_step (es_lay S) 140 (es_Call d) ret Q K pc L st M (.iastore) len x) : es_G p l e R s m args below meth c D ad cA A nL m0 cells slots Qf pc L st M := by
  obtain ⟨hex, hb, hml, hown, hts, hU, hinj, hA, hSc, hR⟩ := C
  intro H locs ls hL hst hM hm hP hS
  have hl : len = 1 := (Nat.eq_of_beq_eq_true hx).symm
  subst hl
  simp only [es_step] at h
  split at h
  · rename_i v j k r
    obtain ⟨o0, o1⟩ := es_ok1 hst
    obtain ⟨o1, o2⟩ := es_ok1 o1
    obtain ⟨-, o3⟩ := es_ok1 o2
    split at h
    · rename_i n hn
      cases hc : Nat.blt k 140 with
      | false => rw [hc] at h; exact h.elim
      | true =>
        rw [hc] at h
        obtain ⟨⟨h0, h1⟩, h⟩ := h
        have hk : es_layL[k]? = some (.inl (.int, n)) := by rw [← es_lay_lt hc]; exact hn
        obtain ⟨t0, ht0⟩ := es_ty_at (cA := cA) hk
        refine va_iast hex hb hU.1 hP (es_D hinj hA) hS k t0 (es_ws_at hk) ht0 (es_in o1 h0 h1) hd (fun H1 locs1 hP1 hD1 hS1 => ?_)
        rw [es_fun_i o1 h0] at hP1
        have e1 := es_ws_set (ad := ad) (cA := cA) hk (es_upd_o (M := M) (k := k) (j := j) (v := v))
        exact hK _ _ _ _ h H1 locs1 ls hL o3 (es_rng_u hM (by rw [hk]; exact o0)) (es_m140 hm (es_blt hc)) (by rw [← e1]; exact hP1) hS1
    · exact h.elim
  · exact h.elim
theorem es_nz {v : Int} (h : v = 0 ∨ v = 1) : vp_nar .boolean (Int32.ofInt v) = Int32.ofInt v := by rcases h with rfl | rfl <;> decide +kernel
theorem es_s_bastore  (C : es_Ctx p R s m args meth c D ad cA A nL m0 cells slots cc own d S) (hK : ∀ pc L st M, K pc L st M → es_G p l e R s m args below meth c D ad cA A nL m0 cells slots Qf pc L st M) (hd : decode cc pc = .ok (.bastore, len)) (hx : es_xok own pc (.bastore) len x = true) (h : es_step (es_lay S) 140 (es_Call d) ret Q K pc L st M (.bastore) len x) : es_G p l e R s m args below meth c D ad cA A nL m0 cells slots Qf pc L st M := by
  obtain ⟨hex, hb, hml, hown, hts, hU, hinj, hA, hSc, hR⟩ := C
  intro H locs ls hL hst hM hm hP hS
  have hl : len = 1 := (Nat.eq_of_beq_eq_true hx).symm
  subst hl
  simp only [es_step] at h
  split at h
  · rename_i v j k r
    obtain ⟨o0, o1⟩ := es_ok1 hst
    obtain ⟨o1, o2⟩ := es_ok1 o1
    obtain ⟨-, o3⟩ := es_ok1 o2
    split at h
    · rename_i n hn
      cases hc : Nat.blt k 140 with
      | false => rw [hc] at h; exact h.elim
      | true =>
        rw [hc] at h
        obtain ⟨⟨h0, h1⟩, hv, h⟩ := h
        have hk : es_layL[k]? = some (.inl (.boolean, n)) := by rw [← es_lay_lt hc]; exact hn
        obtain ⟨t0, ht0⟩ := es_ty_at (cA := cA) hk
        refine va_zast hex hb hU.1 hP (es_D hinj hA) hS k t0 (es_ws_at hk) ht0 (es_in o1 h0 h1) hd (fun H1 locs1 hP1 hD1 hS1 => ?_)
        rw [es_nz hv, es_fun_i o1 h0] at hP1
        have e1 := es_ws_set (ad := ad) (cA := cA) hk (es_upd_o (M := M) (k := k) (j := j) (v := v))
        exact hK _ _ _ _ h H1 locs1 ls hL o3 (es_rng_u hM (by rw [hk]; exact o0)) (es_m140 hm (es_blt hc)) (by rw [← e1]; exact hP1) hS1
    · exact h.elim
  · exact h.elim
theorem es_s_lastore  (C : es_Ctx p R s m args meth c D ad cA A nL m0 cells slots cc own d S) (hK : ∀ pc L st M, K pc L st M → es_G p l e R s m args below meth c D ad cA A nL m0 cells slots Qf pc L st M) (hd : decode cc pc = .ok (.lastore, len)) (hx : es_xok own pc (.lastore) len x = true) (h : es_step (es_lay S) 140 (es_Call d) ret Q K pc L st M (.lastore) len x) : es_G p l e R s m args below meth c D ad cA A nL m0 cells slots Qf pc L st M := by
  obtain ⟨hex, hb, hml, hown, hts, hU, hinj, hA, hSc, hR⟩ := C
  intro H locs ls hL hst hM hm hP hS
  have hl : len = 1 := (Nat.eq_of_beq_eq_true hx).symm
  subst hl
  simp only [es_step] at h
  split at h
  · rename_i v j k r
    obtain ⟨o0, o1⟩ := es_ok1 hst
    obtain ⟨o1, o2⟩ := es_ok1 o1
    obtain ⟨-, o3⟩ := es_ok1 o2
    split at h
    · rename_i n hn
      cases hc : Nat.blt k 140 with
      | false => rw [hc] at h; exact h.elim
      | true =>
        rw [hc] at h
        obtain ⟨⟨h0, h1⟩, h⟩ := h
        have hk : es_layL[k]? = some (.inl (.long, n)) := by rw [← es_lay_lt hc]; exact hn
        obtain ⟨t0, ht0⟩ := es_ty_at (cA := cA) hk
        refine va_last hex hb hU.1 hP (es_D hinj hA) hS k t0 (es_ws_at hk) ht0 (es_in o1 h0 h1) hd (fun H1 locs1 hP1 hD1 hS1 => ?_)
        rw [es_fun_l o1 h0] at hP1
        have e1 := es_ws_set (ad := ad) (cA := cA) hk (es_upd_o (M := M) (k := k) (j := j) (v := v))
        exact hK _ _ _ _ h H1 locs1 ls hL o3 (es_rng_u hM (by rw [hk]; exact o0)) (es_m140 hm (es_blt hc)) (by rw [← e1]; exact hP1) hS1
    · exact h.elim
  · exact h.elim
theorem es_s_getfield {ix : Nat} (C : es_Ctx p R s m args meth c D ad cA A nL m0 cells slots cc own d S) (hK : ∀ pc L st M, K pc L st M → es_G p l e R s m args below meth c D ad cA A nL m0 cells slots Qf pc L st M) (hd : decode cc pc = .ok (.getfield ix, len)) (hx : es_xok own pc (.getfield ix) len x = true) (h : es_step (es_lay S) 140 (es_Call d) ret Q K pc L st M (.getfield ix) len x) : es_G p l e R s m args below meth c D ad cA A nL m0 cells slots Qf pc L st M := by
  obtain ⟨hex, hb, hml, hown, hts, hU, hinj, hA, hSc, hR⟩ := C
  intro H locs ls hL hst hM hm hP hS
  simp only [es_xok, Bool.and_eq_true, decide_eq_true_eq] at hx
  obtain ⟨⟨h0, h1⟩, h2⟩ := hx
  have h0 := Nat.eq_of_beq_eq_true h0
  subst h0
  have hlink := hts _ (es_FL_w h2)
  simp only [es_step] at h
  split at h
  · rename_i k r
    obtain ⟨-, o3⟩ := es_ok1 hst
    split at h
    · rename_i ci fl hn
      have hk := es_lay_o hn
      obtain ⟨f1, f2, -⟩ := es_ofacts hk
      obtain ⟨g1, g2, -, -⟩ := es_cfacts f1
      cases hc : Nat.beq ci x.1 with
      | false => rw [hc] at h; exact h.elim
      | true =>
        rw [hc] at h
        have hc := Nat.eq_of_beq_eq_true hc
        subst hc
        have go : ∀ (o : Nat) (w : AV), fl[x.2.1]? = some o → es_fv ad (M k x.2.1) o = es_V ad w → es_ok w → K (pc + 3) L (w :: r) M → W p l e R s m args below meth c H locs cells slots Qf (F0 m pc ls ((.inr (.inr k) :: r).map (es_V ad))) := by
          intro o w ho hw hok hk2
          have hlt : x.2.1 < es_nf x.1 := by rw [← f2]; exact (List.getElem?_eq_some_iff.mp ho).1
          have kk := hK _ _ _ _ hk2 H locs ls hL (es_okc hok o3) hM hm hP hS
          simp only [List.map_cons] at kk ⊢
          rw [← hw] at kk
          exact va_get hex hb hts g2 hown hU.1 hP k (es_ws_at hk) g1 x.2.1 hlt hlink (fun _ z => z) (es_fs_get ho) hd kk
        split at h
        · rename_i ho
          rw [h1] at h
          exact go 0 (.inl (M k x.2.1)) ho rfl (es_rng_o hM hk _) h
        · rename_i ho
          rw [h1] at h
          exact go 1 (.inl (M k x.2.1)) ho rfl (es_rng_o hM hk _) h
        · rename_i k' ho
          exact go (k' + 2) (.inr (.inr k')) ho rfl trivial h
        · exact h.elim
    · exact h.elim
  · exact h.elim
theorem es_nb {v : Int} (h : v = 0 ∨ v = 1) : narrow .boolean (.int (Int32.ofInt v)) = .int (Int32.ofInt v) ∧ fits .boolean (.int (Int32.ofInt v)) = true := by rcases h with rfl | rfl <;> exact ⟨by decide +kernel, by decide +kernel⟩
theorem es_s_putfield {ix : Nat} (C : es_Ctx p R s m args meth c D ad cA A nL m0 cells slots cc own d S) (hK : ∀ pc L st M, K pc L st M → es_G p l e R s m args below meth c D ad cA A nL m0 cells slots Qf pc L st M) (hd : decode cc pc = .ok (.putfield ix, len)) (hx : es_xok own pc (.putfield ix) len x = true) (h : es_step (es_lay S) 140 (es_Call d) ret Q K pc L st M (.putfield ix) len x) : es_G p l e R s m args below meth c D ad cA A nL m0 cells slots Qf pc L st M := by
  obtain ⟨hex, hb, hml, hown, hts, hU, hinj, hA, hSc, hR⟩ := C
  intro H locs ls hL hst hM hm hP hS
  simp only [es_xok, Bool.and_eq_true, decide_eq_true_eq] at hx
  obtain ⟨⟨⟨h0, h1⟩, hfin⟩, h2⟩ := hx
  have h0 := Nat.eq_of_beq_eq_true h0
  subst h0
  have hlink := hts _ (es_FL_w h2)
  simp only [es_step] at h
  split at h
  · rename_i v k r
    obtain ⟨o1, o2⟩ := es_ok1 hst
    obtain ⟨-, o3⟩ := es_ok1 o2
    split at h
    · rename_i ci fl hn
      have hk := es_lay_o hn
      obtain ⟨f1, f2, f3⟩ := es_ofacts hk
      obtain ⟨g1, g2, g3, g4⟩ := es_cfacts f1
      cases hc : Nat.beq ci x.1 with
      | false => rw [hc] at h; exact h.elim
      | true =>
        rw [hc] at h
        have hc := Nat.eq_of_beq_eq_true hc
        subst hc
        have go : ∀ (o : Nat) (ty : FieldType), fl[x.2.1]? = some o → es_fv ad v o = .int (Int32.ofInt v) → es_ty x.1 x.2.1 = ty → narrow ty (.int (Int32.ofInt v)) = .int (Int32.ofInt v) → fits ty (.int (Int32.ofInt v)) = true → K (pc + 3) L r (es_upd M k x.2.1 v) → W p l e R s m args below meth c H locs cells slots Qf (F0 m pc ls ((.inl v :: .inr (.inr k) :: r).map (es_V ad))) := by
          intro o ty ho hfv hty hn1 hf1 hk2
          have hlt : x.2.1 < es_nf x.1 := by rw [← f2]; exact (List.getElem?_eq_some_iff.mp ho).1
          refine va_put hex hb hts g2 (es_ty x.1) g3 g4 hown hU.1 hP (es_D hinj hA) hS k (es_ws_at hk) g1 x.2.1 hlt hlink (fun _ z => z) (show (es_fd x.1 x.2.1).2.2.2 = false by simpa using hfin) (ty := ty) (v := .int (Int32.ofInt v)) (by rw [← hty]; exact g3 _ hlt) hn1 hf1 (by simp; rw [f2]; exact hlt) hd (fun H1 locs1 hP1 hD1 hS1 => ?_)
          rw [← hfv, es_fs_set ho] at hP1
          have e1 := es_ws_set (ad := ad) (cA := cA) hk (es_upd_o (M := M) (k := k) (j := (x.2.1 : Int)) (v := v))
          exact hK _ _ _ _ hk2 H1 locs1 ls hL o3 (es_rng_u hM (by rw [hk]; exact o1)) (es_m140 hm (es_lay_lt2 hk)) (by rw [← e1]; exact hP1) hS1
        split at h
        · rename_i ho
          rw [h1] at h
          exact go 0 .int ho rfl ((f3 _ (List.getElem?_eq_some_iff.mp ho).1).1 ho) rfl rfl h
        · rename_i ho
          rw [h1] at h
          exact go 1 .boolean ho rfl ((f3 _ (List.getElem?_eq_some_iff.mp ho).1).2 ho) (es_nb h.1).1 (es_nb h.1).2 h.2
        · exact h.elim
    · exact h.elim
  · exact h.elim
end
