/-! THE CONSTRUCTORS (6), printed but for the first lemma: EveryStreetModel() -/
section
variable {p : Program} {l : Launch} {e : Env} {R : Room} {s : State} {m : MethodId} {args : Array Value} {below : List Frame} {meth : Method} {c : Code} {H0 : Heap} {cells slots : Nat} {Q : State → Prop}
variable {cc : ByteArray} {own : Nat} {D : va_G} {A : Nat → Prop} {tys : List (ClassId × FieldType)} {wr : va_W} {h0 : Nat} {fs : List Value}
abbrev bd_lo (cc : ByteArray) (own pcl pcc pe lp k ix : Nat) (ip : Instr) (v o1 o2 : Int) : Prop := decode cc pcl = .ok (.iload_n 1, 1) ∧ decode cc pcc = .ok (.if_icmp .ge o1, 3) ∧ (pcc : Int) + o1 = pe ∧ decode cc (pcc + 3) = .ok (.aload_n 0, 1) ∧ decode cc (pcc + 3 + 1) = .ok (.getfield ix, 3) ∧ decode cc (pcc + 3 + 1 + 3) = .ok (.iload_n 1, 1) ∧ decode cc (pcc + 3 + 1 + 3 + 1) = .ok (ip, lp) ∧ bd_pok own ip lp v = true ∧ decode cc (pcc + 3 + 1 + 3 + 1 + lp) = .ok (.iastore, 1) ∧ decode cc (pcc + 3 + 1 + 3 + 1 + lp + 1) = .ok (.iinc 1 1, 3) ∧ decode cc (pcc + 3 + 1 + 3 + 1 + lp + 1 + 3) = .ok (.goto o2, 3) ∧ ((pcc + 3 + 1 + 3 + 1 + lp + 1 + 3 : Nat) : Int) + o2 = pcl ∧ (es_FL.any fun q => Nat.beq q.1 own && Nat.beq q.2.1 ix && Nat.beq q.2.2.1 own && Nat.beq q.2.2.2.1 k) = true ∧ k < es_nf own ∧ own < 13
/-- for (i = 0; i < n; i++) this.field[i] = v, over the whole array -/
theorem bd_loop (C : bd_C p s m args meth c cc 2 own) (hK : va_K D es_cl tys s) {lp k ix i t0 a n pcl pcc pe : Nat} {ip : Instr} {v o1 o2 : Int} {cA : ClassId} (hok : bd_lo cc own pcl pcc pe lp k ix ip v o1 o2) (hv : fs[k]? = some (.ref a)) (hi : ∀ g : Nat → Int32, (wr.set i (a, .inl (cA, n, .inl g)))[i]? = some (a, .inl (cA, n, .inl g))) (ht : tys[t0]? = some (cA, .int)) (hn : n < 1000000)
    (hbd : ∀ (g : Nat → Int32) (x : Int32) (ls : Array Slot) (H : Heap) (locs : List Loc), ls[0]? = some (.val (.ref h0)) → va_P D es_cl ((h0, .inr (own, fs)) :: wr.set i (a, .inl (cA, n, .inl g))) H → W p l e R s m args below meth c H locs cells slots Q (F0 m pcc ls [.int (Int32.ofInt (n : Int)), .int x]) → W p l e R s m args below meth c H locs cells slots Q (F0 m (pcl + 1) ls [.int x]))
    (kk : ∀ (ls : Array Slot) (H1 : Heap) (locs1 : List Loc), ls.size = 2 → lv_has ls 2 [(0, .ref h0)] → va_P D es_cl ((h0, .inr (own, fs)) :: wr.set i (a, .inl (cA, n, .inl fun _ => Int32.ofInt v))) H1 → va_D A ((h0, .inr (own, fs)) :: wr.set i (a, .inl (cA, n, .inl fun _ => Int32.ofInt v))) → va_S A H0 H1 locs1 → W p l e R s m args below meth c H1 locs1 cells slots Q (F0 m pe ls [])) :
    ∀ (j b : Nat) (g : Nat → Int32) (ls : Array Slot) (H : Heap) (locs : List Loc), b + j = n → (∀ x, x < b → g x = Int32.ofInt v) → lv_has ls 2 [(1, .int (Int32.ofInt (b : Int))), (0, .ref h0)] → va_P D es_cl ((h0, .inr (own, fs)) :: wr.set i (a, .inl (cA, n, .inl g))) H → va_D A ((h0, .inr (own, fs)) :: wr.set i (a, .inl (cA, n, .inl g))) → va_S A H0 H locs → W p l e R s m args below meth c H locs cells slots Q (F0 m pcl ls []) := by
  obtain ⟨d0, d1, e1, d2, d3, d4, d5, d6, d7, d8, d9, e2, f1, f2, f3⟩ := hok
  have C' := C
  obtain ⟨hx, hb, hml, hown, hts, hin⟩ := C'
  intro j
  induction j with
  | zero =>
    intro b g ls H locs hj hg hl hP hD hS
    have e : b = n := by omega
    subst e
    refine lv_iload_n hx hb d0 rfl (lv_at hl 0 rfl) (hbd g _ ls H locs (lv_at hl 1 rfl) hP (lv_icmp_ge hx hb d1 (tgt := pe) e1 (fun _ => ?_) (fun z => absurd (Int32.le_refl _) z)))
    have ec := bd_cell (cA := cA) hg
    have hi1 : (((h0, .inr (own, fs)) :: wr.set i (a, .inl (cA, b, .inl g)) : va_W))[i + 1]? = some (a, .inl (cA, b, .inl g)) := hi g
    have hat : va_at D es_cl (a, .inl (cA, b, .inl fun _ => Int32.ofInt v)) H := by
      have := hP (i + 1) _ hi1
      show H[a]? = some (vp_cell cA (b, .inl fun _ => Int32.ofInt v))
      rw [← ec]; exact this
    have h1 := bd_set (i := i + 1) hP hD hi1 hat (fun _ _ _ => rfl)
    have h2 := va_D.set (p := i + 1) (e := .inl (cA, b, .inl fun _ => Int32.ofInt v)) hD hi1
    rw [List.set_cons_succ, List.set_set] at h1 h2
    exact kk ls H locs hl.1 (lv_sub hl [1] rfl) h1 h2 hS
  | succ j ih =>
    intro b g ls H locs hj hg hl hP hD hS
    have rb : es_r32 (b : Int) := ⟨by omega, by omega⟩
    have rn : es_r32 (n : Int) := ⟨by omega, by omega⟩
    refine lv_iload_n hx hb d0 rfl (lv_at hl 0 rfl) (hbd g _ ls H locs (lv_at hl 1 rfl) hP (lv_icmp_ge hx hb d1 (tgt := pe) e1 (fun z => absurd ((es_le32 rn rb).mp z) (by omega)) (fun _ => ?_)))
    refine lv_aload_n hx hb d2 rfl (lv_at hl 1 rfl) ?_
    refine bd_getf C hK hP ⟨f1, f2, f3⟩ hv d3 ?_
    refine lv_iload_n hx hb d4 rfl (lv_at hl 0 rfl) ?_
    refine bd_push C d6 d5 ?_
    have hi1 : (((h0, .inr (own, fs)) :: wr.set i (a, .inl (cA, n, .inl g)) : va_W))[i + 1]? = some (a, .inl (cA, n, .inl g)) := hi g
    refine va_iast hx hb hK hP hD hS (i + 1) t0 hi1 ht (es_in rb (by omega) (n := (n : Int)) (by omega)) d7 (fun H1 locs1 hP1 hD1 hS1 => ?_)
    have ecl : (Int32.ofInt (b : Int)).toNatClampNeg = b := by rw [es_cl' rb]; omega
    rw [ecl, List.set_cons_succ, List.set_set] at hP1 hD1
    refine lv_iinc (k := 0) (v := Int32.ofInt ((b + 1 : Nat) : Int)) (lv' := [(1, .int (Int32.ofInt ((b + 1 : Nat) : Int))), (0, .ref h0)]) hx hb d8 hl rfl (by rw [← Int32.ofInt_add]; rfl) (by decide) rfl (fun ls hl => ?_)
    refine lv_goto hx hb d9 (tgt := pcl) e2 ?_
    refine ih (b + 1) (upd g b (Int32.ofInt v)) ls H1 locs1 (by omega) (fun x hx => ?_) hl hP1 hD1 hS1
    by_cases e : x = b
    · subst e; exact pk_us
    · rw [pk_un e]; exact hg x (by omega)
theorem bd_loopW (C : bd_C p s m args meth c cc 2 own) (hK : va_K D es_cl tys s) {H : Heap} {locs : List Loc} {ls : Array Slot} (hP : va_P D es_cl ((h0, .inr (own, fs)) :: wr) H) (hD : va_D A ((h0, .inr (own, fs)) :: wr)) (hS : va_S A H0 H locs) (hl : lv_has ls 2 [(1, .int (Int32.ofInt 0)), (0, .ref h0)]) {lp k ix i t0 a n pcl pcc pe : Nat} {ip : Instr} {v o1 o2 : Int} {cA : ClassId} {g0 : Nat → Int32} (hok : bd_lo cc own pcl pcc pe lp k ix ip v o1 o2) (hv : fs[k]? = some (.ref a)) (hi : wr[i]? = some (a, .inl (cA, n, .inl g0))) (ht : tys[t0]? = some (cA, .int)) (hn : n < 1000000)
    (hbd : ∀ (g : Nat → Int32) (x : Int32) (ls : Array Slot) (H : Heap) (locs : List Loc), ls[0]? = some (.val (.ref h0)) → va_P D es_cl ((h0, .inr (own, fs)) :: wr.set i (a, .inl (cA, n, .inl g))) H → W p l e R s m args below meth c H locs cells slots Q (F0 m pcc ls [.int (Int32.ofInt (n : Int)), .int x]) → W p l e R s m args below meth c H locs cells slots Q (F0 m (pcl + 1) ls [.int x]))
    (kk : ∀ (ls : Array Slot) (H1 : Heap) (locs1 : List Loc), ls.size = 2 → lv_has ls 2 [(0, .ref h0)] → va_P D es_cl ((h0, .inr (own, fs)) :: wr.set i (a, .inl (cA, n, .inl fun _ => Int32.ofInt v))) H1 → va_D A ((h0, .inr (own, fs)) :: wr.set i (a, .inl (cA, n, .inl fun _ => Int32.ofInt v))) → va_S A H0 H1 locs1 → W p l e R s m args below meth c H1 locs1 cells slots Q (F0 m pe ls [])) : W p l e R s m args below meth c H locs cells slots Q (F0 m pcl ls []) := by
  have lt := (List.getElem?_eq_some_iff.mp hi).1
  have same : wr.set i (a, .inl (cA, n, .inl g0)) = wr := by
    apply List.ext_getElem?
    intro x
    rw [List.getElem?_set]
    by_cases e : i = x
    · subst e; rw [if_pos rfl, if_pos lt, hi]
    · rw [if_neg e]
  refine bd_loop C hK hok hv (fun g => ?_) ht hn hbd kk n 0 g0 ls H locs (by omega) (fun x hx => absurd hx (by omega)) hl (by rw [same]; exact hP) (by rw [same]; exact hD) hS
  rw [List.getElem?_set, if_pos rfl, if_pos lt]
end

/-- arrays made one behind another: (lp, N, k, ix, push, type of array, type) -/
abbrev bd_Op : Type := Nat × Nat × Nat × Nat × Instr × ArrayType × FieldType
def bd_fsL : List Value → List bd_Op → List Nat → List Value
  | fs, o :: r, q :: qs => bd_fsL (fs.set o.2.2.1 (.ref q)) r qs
  | fs, _, _ => fs
def bd_wL : List bd_Op → List Nat → List ClassId → va_W
  | o :: r, q :: qs, c :: cs => (q, .inl (c, bd_ar o.2.2.2.2.2.1 o.2.1)) :: bd_wL r qs cs
  | _, _, _ => []
def bd_tL : List bd_Op → List ClassId → List (ClassId × FieldType)
  | o :: r, c :: cs => (c, newarray.typeOf o.2.2.2.2.2.1) :: bd_tL r cs
  | _, _ => []
def bd_sN : List bd_Op → Nat
  | [] => 0
  | o :: r => o.2.1 + bd_sN r
def bd_eP : Nat → List bd_Op → Nat
  | pc, [] => pc
  | pc, o :: r => bd_eP (pc + 1 + o.1 + 5) r
def bd_okL (cc : ByteArray) (own n : Nat) : Nat → List bd_Op → Prop
  | _, [] => True
  | pc, o :: r => (bd_a cc own pc o.1 o.2.1 o.2.2.1 o.2.2.2.1 o.2.2.2.2.1 o.2.2.2.2.2.1 ∧ (o.2.2.2.2.2.1 = .int ∨ o.2.2.2.2.2.1 = .long ∨ o.2.2.2.2.2.1 = .boolean) ∧ es_ty own o.2.2.1 = .array o.2.2.2.2.2.2 ∧ o.2.2.1 < n) ∧ bd_okL cc own n (pc + 1 + o.1 + 5) r
section
variable {p : Program} {l : Launch} {e : Env} {R : Room} {s : State} {m : MethodId} {args : Array Value} {below : List Frame} {meth : Method} {c : Code} {H0 : Heap} {Q : State → Prop} {cc : ByteArray} {nL own : Nat} {D : va_G} {A : Nat → Prop} {h0 : Nat} {ls : Array Slot}
theorem bd_AS (C : bd_C p s m args meth c cc nL own) (hA : ∀ q, H0.size ≤ q → A q) (hl : ls[0]? = some (.val (.ref h0))) : ∀ (ops : List bd_Op) (pc : Nat) (fs : List Value) (wr : va_W) (tys : List (ClassId × FieldType)) (cells slots : Nat) (H : Heap) (locs : List Loc), bd_okL cc own fs.length pc ops → cells + ops.length ≤ R.cells → slots + bd_sN ops ≤ R.slots → va_K D es_cl tys s → va_P D es_cl ((h0, .inr (own, fs)) :: wr) H → va_D A ((h0, .inr (own, fs)) :: wr) → va_S A H0 H locs →
    (∀ (qs : List Nat) (cs : List ClassId) (H1 : Heap) (locs1 : List Loc), qs.length = ops.length → cs.length = ops.length → va_K D es_cl (tys ++ bd_tL ops cs) s → va_P D es_cl ((h0, .inr (own, bd_fsL fs ops qs)) :: (wr ++ bd_wL ops qs cs)) H1 → va_D A ((h0, .inr (own, bd_fsL fs ops qs)) :: (wr ++ bd_wL ops qs cs)) → va_S A H0 H1 locs1 → W p l e R s m args below meth c H1 locs1 (cells + ops.length) (slots + bd_sN ops) Q (F0 m (bd_eP pc ops) ls [])) → W p l e R s m args below meth c H locs cells slots Q (F0 m pc ls [])
  | [], pc, fs, wr, tys, cells, slots, H, locs, _, _, _, hK, hP, hD, hS, kk => kk [] [] H locs rfl rfl (by rw [show bd_tL [] [] = [] from rfl, List.append_nil]; exact hK) (by rw [show bd_wL [] [] [] = [] from rfl, List.append_nil]; exact hP) (by rw [show bd_wL [] [] [] = [] from rfl, List.append_nil]; exact hD) hS
  | o :: r, pc, fs, wr, tys, cells, slots, H, locs, ok, h1, h2, hK, hP, hD, hS, kk => by
    obtain ⟨⟨k1, k2, k3, k4⟩, k5⟩ := ok
    have e1 : (o :: r).length = r.length + 1 := rfl
    have e2 : bd_sN (o :: r) = o.2.1 + bd_sN r := rfl
    refine bd_A C hK hP hD hS hA hl k1 k2 k3 k4 (by omega) (by omega) (fun q cA H1 locs1 hK1 hP1 hD1 hS1 => ?_)
    refine bd_AS C hA hl r (pc + 1 + o.1 + 5) _ _ _ (cells + 1) (slots + o.2.1) H1 locs1 (by rw [List.length_set]; exact k5) (by omega) (by omega) hK1 hP1 hD1 hS1 (fun qs cs H2 locs2 q1 c1 hK2 hP2 hD2 hS2 => ?_)
    have x := kk (q :: qs) (cA :: cs) H2 locs2 (by rw [List.length_cons, q1]; rfl) (by rw [List.length_cons, c1]; rfl) (by rw [List.append_assoc] at hK2; exact hK2) (by rw [List.append_assoc] at hP2; exact hP2) (by rw [List.append_assoc] at hD2; exact hD2) hS2
    rw [e1, e2, show cells + (r.length + 1) = cells + 1 + r.length by omega, show slots + (o.2.1 + bd_sN r) = slots + o.2.1 + bd_sN r by omega] at x
    exact x
end
theorem bd_rng {α : Type} {d : α} : ∀ (qs : List α) (n : Nat), qs.length = n → qs = (List.range n).map (fun i => qs.getD i d) := by
  intro qs n h
  apply List.ext_getElem?
  intro i
  by_cases hi : i < n
  · rw [List.getElem?_map, List.getElem?_range hi, Option.map_some, List.getD_eq_getElem?_getD, List.getElem?_eq_getElem (by omega), Option.getD_some]
  · rw [List.getElem?_eq_none (by omega), List.getElem?_eq_none (by simp; omega)]

def mo_ops : List bd_Op := [(3, 200, 2, 7, .sipush 200, .int, .int), (2, 36, 4, 20, .bipush 36, .int, .int), (2, 36, 5, 23, .bipush 36, .int, .int), (2, 72, 6, 26, .bipush 72, .int, .int), (2, 36, 7, 29, .bipush 36, .int, .int), (2, 36, 8, 32, .bipush 36, .int, .int), (2, 18, 9, 35, .bipush 18, .boolean, .boolean), (2, 18, 10, 39, .bipush 18, .int, .int), (2, 18, 11, 42, .bipush 18, .int, .int), (3, 1728, 12, 45, .sipush 1728, .int, .int), (3, 144, 14, 48, .sipush 144, .int, .int), (2, 100, 15, 51, .bipush 100, .int, .int), (2, 60, 21, 54, .bipush 60, .int, .int), (2, 60, 22, 57, .bipush 60, .int, .int), (2, 10, 24, 60, .bipush 10, .int, .int), (2, 10, 25, 63, .bipush 10, .int, .int), (2, 10, 26, 66, .bipush 10, .int, .int), (2, 10, 27, 69, .bipush 10, .boolean, .boolean), (2, 12, 28, 72, .bipush 12, .int, .int), (3, 144, 29, 75, .sipush 144, .int, .int), (2, 12, 31, 78, .bipush 12, .int, .int), (2, 12, 32, 81, .bipush 12, .int, .int), (2, 12, 33, 84, .bipush 12, .int, .int), (2, 36, 34, 87, .bipush 36, .int, .int), (2, 12, 35, 90, .bipush 12, .int, .int), (2, 12, 36, 93, .bipush 12, .int, .int), (2, 37888, 37, 97, .ldc 96, .int, .int), (3, 1728, 40, 100, .sipush 1728, .int, .int), (2, 60, 42, 103, .bipush 60, .int, .int), (2, 24, 43, 106, .bipush 24, .int, .int), (2, 60, 44, 109, .bipush 60, .int, .int), (2, 51876, 45, 113, .ldc 112, .int, .int), (2, 37888, 46, 116, .ldc 96, .int, .int), (2, 10, 48, 119, .bipush 10, .int, .int), (2, 10, 49, 122, .bipush 10, .boolean, .boolean), (3, 1296, 50, 125, .sipush 1296, .int, .int), (2, 10, 51, 128, .bipush 10, .int, .int), (2, 10, 52, 131, .bipush 10, .boolean, .boolean), (2, 10, 53, 134, .bipush 10, .int, .int), (2, 10, 54, 137, .bipush 10, .boolean, .boolean), (2, 10, 55, 140, .bipush 10, .int, .int), (2, 10, 56, 143, .bipush 10, .boolean, .boolean), (3, 1024, 58, 146, .sipush 1024, .int, .int), (3, 5120, 59, 149, .sipush 5120, .int, .int), (2, 60, 61, 152, .bipush 60, .int, .int), (1, 3, 62, 155, .iconst 3, .boolean, .boolean), (3, 1200, 63, 158, .sipush 1200, .int, .int)]
def mo_fs0 : List Value := [.int 0, .int 0, .null, .int 0, .null, .null, .null, .null, .null, .null, .null, .null, .null, .int 0, .null, .null, .int 0, .int 0, .int 0, .int 0, .int 0, .null, .null, .int 0, .null, .null, .null, .null, .null, .null, .int 0, .null, .null, .null, .null, .null, .null, .null, .int 0, .int 0, .null, .int 0, .null, .null, .null, .null, .null, .int 0, .null, .null, .null, .null, .null, .null, .null, .null, .null, .int 0, .null, .null, .int 0, .null, .null, .null, .int 0]
def mo_f (q : Nat → Nat) : List Value := [.int 0, .int 0, .ref (q 0), .int 0, .ref (q 1), .ref (q 2), .ref (q 3), .ref (q 4), .ref (q 5), .ref (q 6), .ref (q 7), .ref (q 8), .ref (q 9), .int 0, .ref (q 10), .ref (q 11), .int 0, .int 0, .int 0, .int 0, .int 0, .ref (q 12), .ref (q 13), .int 0, .ref (q 14), .ref (q 15), .ref (q 16), .ref (q 17), .ref (q 18), .ref (q 19), .int 0, .ref (q 20), .ref (q 21), .ref (q 22), .ref (q 23), .ref (q 24), .ref (q 25), .ref (q 26), .int 0, .int 0, .ref (q 27), .int 0, .ref (q 28), .ref (q 29), .ref (q 30), .ref (q 31), .ref (q 32), .int 0, .ref (q 33), .ref (q 34), .ref (q 35), .ref (q 36), .ref (q 37), .ref (q 38), .ref (q 39), .ref (q 40), .ref (q 41), .int 0, .ref (q 42), .ref (q 43), .int 0, .ref (q 44), .ref (q 45), .ref (q 46), .int 0]
def mo_w (q : Nat → Nat) (c : Nat → ClassId) : va_W := [(q 0, .inl (c 0, 200, .inl fun _ => 0)), (q 1, .inl (c 1, 36, .inl fun _ => 0)), (q 2, .inl (c 2, 36, .inl fun _ => 0)), (q 3, .inl (c 3, 72, .inl fun _ => 0)), (q 4, .inl (c 4, 36, .inl fun _ => 0)), (q 5, .inl (c 5, 36, .inl fun _ => 0)), (q 6, .inl (c 6, 18, .inl fun _ => 0)), (q 7, .inl (c 7, 18, .inl fun _ => 0)), (q 8, .inl (c 8, 18, .inl fun _ => 0)), (q 9, .inl (c 9, 1728, .inl fun _ => 0)), (q 10, .inl (c 10, 144, .inl fun _ => 0)), (q 11, .inl (c 11, 100, .inl fun _ => 0)), (q 12, .inl (c 12, 60, .inl fun _ => 0)), (q 13, .inl (c 13, 60, .inl fun _ => 0)), (q 14, .inl (c 14, 10, .inl fun _ => 0)), (q 15, .inl (c 15, 10, .inl fun _ => 0)), (q 16, .inl (c 16, 10, .inl fun _ => 0)), (q 17, .inl (c 17, 10, .inl fun _ => 0)), (q 18, .inl (c 18, 12, .inl fun _ => 0)), (q 19, .inl (c 19, 144, .inl fun _ => 0)), (q 20, .inl (c 20, 12, .inl fun _ => 0)), (q 21, .inl (c 21, 12, .inl fun _ => 0)), (q 22, .inl (c 22, 12, .inl fun _ => 0)), (q 23, .inl (c 23, 36, .inl fun _ => 0)), (q 24, .inl (c 24, 12, .inl fun _ => 0)), (q 25, .inl (c 25, 12, .inl fun _ => 0)), (q 26, .inl (c 26, 37888, .inl fun _ => 0)), (q 27, .inl (c 27, 1728, .inl fun _ => 0)), (q 28, .inl (c 28, 60, .inl fun _ => 0)), (q 29, .inl (c 29, 24, .inl fun _ => 0)), (q 30, .inl (c 30, 60, .inl fun _ => 0)), (q 31, .inl (c 31, 51876, .inl fun _ => 0)), (q 32, .inl (c 32, 37888, .inl fun _ => 0)), (q 33, .inl (c 33, 10, .inl fun _ => 0)), (q 34, .inl (c 34, 10, .inl fun _ => 0)), (q 35, .inl (c 35, 1296, .inl fun _ => 0)), (q 36, .inl (c 36, 10, .inl fun _ => 0)), (q 37, .inl (c 37, 10, .inl fun _ => 0)), (q 38, .inl (c 38, 10, .inl fun _ => 0)), (q 39, .inl (c 39, 10, .inl fun _ => 0)), (q 40, .inl (c 40, 10, .inl fun _ => 0)), (q 41, .inl (c 41, 10, .inl fun _ => 0)), (q 42, .inl (c 42, 1024, .inl fun _ => 0)), (q 43, .inl (c 43, 5120, .inl fun _ => 0)), (q 44, .inl (c 44, 60, .inl fun _ => 0)), (q 45, .inl (c 45, 3, .inl fun _ => 0)), (q 46, .inl (c 46, 1200, .inl fun _ => 0))]
def wx_EveryStreetModel (h0 : Nat) (q : Nat → Nat) (c : Nat → ClassId) : va_W := [(h0, .inr (12, [.int 0, .int 0, .ref (q 0), .int 0, .ref (q 1), .ref (q 2), .ref (q 3), .ref (q 4), .ref (q 5), .ref (q 6), .ref (q 7), .ref (q 8), .ref (q 9), .int 0, .ref (q 10), .ref (q 11), .int 0, .int 0, .int 0, .int 0, .int 0, .ref (q 12), .ref (q 13), .int 0, .ref (q 14), .ref (q 15), .ref (q 16), .ref (q 17), .ref (q 18), .ref (q 19), .int 0, .ref (q 20), .ref (q 21), .ref (q 22), .ref (q 23), .ref (q 24), .ref (q 25), .ref (q 26), .int 0, .int 0, .ref (q 27), .int 0, .ref (q 28), .ref (q 29), .ref (q 30), .ref (q 31), .ref (q 32), .int 0, .ref (q 33), .ref (q 34), .ref (q 35), .ref (q 36), .ref (q 37), .ref (q 38), .ref (q 39), .ref (q 40), .ref (q 41), .int 0, .ref (q 42), .ref (q 43), .int 0, .ref (q 44), .ref (q 45), .ref (q 46), .int 0])),
  (q 0, .inl (c 0, 200, .inl fun _ => 0)),
  (q 1, .inl (c 1, 36, .inl fun _ => 0)),
  (q 2, .inl (c 2, 36, .inl fun _ => 0)),
  (q 3, .inl (c 3, 72, .inl fun _ => 0)),
  (q 4, .inl (c 4, 36, .inl fun _ => 0)),
  (q 5, .inl (c 5, 36, .inl fun _ => 0)),
  (q 6, .inl (c 6, 18, .inl fun _ => 0)),
  (q 7, .inl (c 7, 18, .inl fun _ => 0)),
  (q 8, .inl (c 8, 18, .inl fun _ => Int32.ofInt 1439)),
  (q 9, .inl (c 9, 1728, .inl fun _ => Int32.ofInt (-1))),
  (q 10, .inl (c 10, 144, .inl fun _ => 0)),
  (q 11, .inl (c 11, 100, .inl fun _ => 0)),
  (q 12, .inl (c 12, 60, .inl fun _ => 0)),
  (q 13, .inl (c 13, 60, .inl fun _ => 0)),
  (q 14, .inl (c 14, 10, .inl fun _ => 0)),
  (q 15, .inl (c 15, 10, .inl fun _ => 0)),
  (q 16, .inl (c 16, 10, .inl fun _ => 0)),
  (q 17, .inl (c 17, 10, .inl fun _ => 0)),
  (q 18, .inl (c 18, 12, .inl fun _ => 0)),
  (q 19, .inl (c 19, 144, .inl fun _ => 0)),
  (q 20, .inl (c 20, 12, .inl fun _ => 0)),
  (q 21, .inl (c 21, 12, .inl fun _ => 0)),
  (q 22, .inl (c 22, 12, .inl fun _ => 0)),
  (q 23, .inl (c 23, 36, .inl fun _ => 0)),
  (q 24, .inl (c 24, 12, .inl fun _ => 0)),
  (q 25, .inl (c 25, 12, .inl fun _ => 0)),
  (q 26, .inl (c 26, 37888, .inl fun _ => 0)),
  (q 27, .inl (c 27, 1728, .inl fun _ => 0)),
  (q 28, .inl (c 28, 60, .inl fun _ => 0)),
  (q 29, .inl (c 29, 24, .inl fun _ => Int32.ofInt 100)),
  (q 30, .inl (c 30, 60, .inl fun _ => 0)),
  (q 31, .inl (c 31, 51876, .inl fun _ => 0)),
  (q 32, .inl (c 32, 37888, .inl fun _ => 0)),
  (q 33, .inl (c 33, 10, .inl fun _ => 0)),
  (q 34, .inl (c 34, 10, .inl fun _ => 0)),
  (q 35, .inl (c 35, 1296, .inl fun _ => 0)),
  (q 36, .inl (c 36, 10, .inl fun _ => 0)),
  (q 37, .inl (c 37, 10, .inl fun _ => 0)),
  (q 38, .inl (c 38, 10, .inl fun _ => 0)),
  (q 39, .inl (c 39, 10, .inl fun _ => 0)),
  (q 40, .inl (c 40, 10, .inl fun _ => 0)),
  (q 41, .inl (c 41, 10, .inl fun _ => 0)),
  (q 42, .inl (c 42, 1024, .inl fun _ => 0)),
  (q 43, .inl (c 43, 5120, .inl fun _ => 0)),
  (q 44, .inl (c 44, 60, .inl fun _ => 0)),
  (q 45, .inl (c 45, 3, .inl fun _ => 0)),
  (q 46, .inl (c 46, 1200, .inl fun _ => 0))]
def tx_EveryStreetModel (c : Nat → ClassId) : List (ClassId × FieldType) := [(c 0, .int), (c 1, .int), (c 2, .int), (c 3, .int), (c 4, .int), (c 5, .int), (c 6, .boolean), (c 7, .int), (c 8, .int), (c 9, .int), (c 10, .int), (c 11, .int), (c 12, .int), (c 13, .int), (c 14, .int), (c 15, .int), (c 16, .int), (c 17, .boolean), (c 18, .int), (c 19, .int), (c 20, .int), (c 21, .int), (c 22, .int), (c 23, .int), (c 24, .int), (c 25, .int), (c 26, .int), (c 27, .int), (c 28, .int), (c 29, .int), (c 30, .int), (c 31, .int), (c 32, .int), (c 33, .int), (c 34, .boolean), (c 35, .int), (c 36, .int), (c 37, .boolean), (c 38, .int), (c 39, .boolean), (c 40, .int), (c 41, .boolean), (c 42, .int), (c 43, .int), (c 44, .int), (c 45, .boolean), (c 46, .int)]
def mo_k0 : List Nat := [0, 0, 1, 0, 1, 1, 1, 1, 1, 1, 1, 1, 1, 0, 1, 1, 0, 0, 0, 0, 0, 1, 1, 0, 1, 1, 1, 1, 1, 1, 0, 1, 1, 1, 1, 1, 1, 1, 0, 0, 1, 0, 1, 1, 1, 1, 1, 0, 1, 1, 1, 1, 1, 1, 1, 1, 1, 0, 1, 1, 0, 1, 1, 1, 0]
def mo_k1 : List Nat := [0, 0, 2, 0, 3, 4, 5, 6, 7, 8, 9, 10, 11, 0, 12, 13, 0, 0, 0, 0, 0, 14, 15, 0, 16, 17, 18, 19, 20, 21, 0, 22, 23, 24, 25, 26, 27, 28, 0, 0, 29, 0, 30, 31, 32, 33, 34, 0, 35, 36, 37, 38, 39, 40, 41, 42, 43, 0, 44, 45, 0, 46, 47, 48, 0]
def bd_cv (q : Nat → Nat) : Nat → Value
  | 0 => .int 0
  | 1 => .null
  | i + 2 => .ref (q i)
def bd_fsN : List Nat → List bd_Op → List Nat → List Nat
  | fs, o :: r, i :: qs => bd_fsN (fs.set o.2.2.1 (i + 2)) r qs
  | fs, _, _ => fs
theorem bd_fsN_ok (q : Nat → Nat) : ∀ (ops : List bd_Op) (is a : List Nat), bd_fsL (a.map (bd_cv q)) ops (is.map q) = (bd_fsN a ops is).map (bd_cv q)
  | [], is, a => by cases is <;> rfl
  | _ :: _, [], a => rfl
  | o :: r, i :: is, a => by
    show bd_fsL ((a.map (bd_cv q)).set o.2.2.1 (bd_cv q (i + 2))) r (is.map q) = (bd_fsN (a.set o.2.2.1 (i + 2)) r is).map (bd_cv q)
    rw [← List.map_set, bd_fsN_ok q r is]
set_option maxRecDepth 50000 in
theorem mo_c0 (q : Nat → Nat) : mo_fs0 = mo_k0.map (bd_cv q) := rfl
set_option maxRecDepth 50000 in
theorem mo_c1 (q : Nat → Nat) : mo_f q = mo_k1.map (bd_cv q) := rfl
theorem mo_c2 : bd_fsN mo_k0 mo_ops (List.range 47) = mo_k1 := by decide +kernel
theorem mo_e1 (q : Nat → Nat) : bd_fsL mo_fs0 mo_ops ((List.range 47).map q) = mo_f q := by rw [mo_c0 q, mo_c1 q, bd_fsN_ok, mo_c2]
set_option maxRecDepth 50000 in
theorem mo_e2 (q : Nat → Nat) (c : Nat → ClassId) : bd_wL mo_ops ((List.range 47).map q) ((List.range 47).map c) = mo_w q c := rfl
set_option maxRecDepth 50000 in
theorem mo_e3 (c : Nat → ClassId) : bd_tL mo_ops ((List.range 47).map c) = tx_EveryStreetModel c := rfl
theorem mo_e4 : mo_ops.length = 47 ∧ bd_sN mo_ops = 141161 ∧ bd_eP 4 mo_ops = 388 ∧ mo_fs0.length = 65 := by decide +kernel
set_option maxRecDepth 50000 in
theorem mo_e5 (h0 : Nat) (q : Nat → Nat) (c : Nat → ClassId) : (((h0, .inr (12, mo_f q)) :: (((mo_w q c).set 9 (q 9, .inl (c 9, 1728, .inl fun _ => Int32.ofInt (-1)))).set 8 (q 8, .inl (c 8, 18, .inl fun _ => Int32.ofInt 1439))).set 29 (q 29, .inl (c 29, 24, .inl fun _ => Int32.ofInt 100)) : va_W)) = wx_EveryStreetModel h0 q c := rfl
set_option maxHeartbeats 2000000 in
set_option maxRecDepth 50000 in
theorem mo_ok : bd_okL prog_14_method_7_code 12 65 4 mo_ops := ⟨⟨(by decide +kernel : bd_a prog_14_method_7_code 12 4 3 200 2 7 (.sipush 200) .int), Or.inl rfl, (by decide +kernel : es_ty 12 2 = .array .int), (by decide : 2 < 65)⟩, ⟨⟨(by decide +kernel : bd_a prog_14_method_7_code 12 13 2 36 4 20 (.bipush 36) .int), Or.inl rfl, (by decide +kernel : es_ty 12 4 = .array .int), (by decide : 4 < 65)⟩, ⟨⟨(by decide +kernel : bd_a prog_14_method_7_code 12 21 2 36 5 23 (.bipush 36) .int), Or.inl rfl, (by decide +kernel : es_ty 12 5 = .array .int), (by decide : 5 < 65)⟩, ⟨⟨(by decide +kernel : bd_a prog_14_method_7_code 12 29 2 72 6 26 (.bipush 72) .int), Or.inl rfl, (by decide +kernel : es_ty 12 6 = .array .int), (by decide : 6 < 65)⟩, ⟨⟨(by decide +kernel : bd_a prog_14_method_7_code 12 37 2 36 7 29 (.bipush 36) .int), Or.inl rfl, (by decide +kernel : es_ty 12 7 = .array .int), (by decide : 7 < 65)⟩, ⟨⟨(by decide +kernel : bd_a prog_14_method_7_code 12 45 2 36 8 32 (.bipush 36) .int), Or.inl rfl, (by decide +kernel : es_ty 12 8 = .array .int), (by decide : 8 < 65)⟩, ⟨⟨(by decide +kernel : bd_a prog_14_method_7_code 12 53 2 18 9 35 (.bipush 18) .boolean), Or.inr (Or.inr rfl), (by decide +kernel : es_ty 12 9 = .array .boolean), (by decide : 9 < 65)⟩, ⟨⟨(by decide +kernel : bd_a prog_14_method_7_code 12 61 2 18 10 39 (.bipush 18) .int), Or.inl rfl, (by decide +kernel : es_ty 12 10 = .array .int), (by decide : 10 < 65)⟩, ⟨⟨(by decide +kernel : bd_a prog_14_method_7_code 12 69 2 18 11 42 (.bipush 18) .int), Or.inl rfl, (by decide +kernel : es_ty 12 11 = .array .int), (by decide : 11 < 65)⟩, ⟨⟨(by decide +kernel : bd_a prog_14_method_7_code 12 77 3 1728 12 45 (.sipush 1728) .int), Or.inl rfl, (by decide +kernel : es_ty 12 12 = .array .int), (by decide : 12 < 65)⟩, ⟨⟨(by decide +kernel : bd_a prog_14_method_7_code 12 86 3 144 14 48 (.sipush 144) .int), Or.inl rfl, (by decide +kernel : es_ty 12 14 = .array .int), (by decide : 14 < 65)⟩, ⟨⟨(by decide +kernel : bd_a prog_14_method_7_code 12 95 2 100 15 51 (.bipush 100) .int), Or.inl rfl, (by decide +kernel : es_ty 12 15 = .array .int), (by decide : 15 < 65)⟩, ⟨⟨(by decide +kernel : bd_a prog_14_method_7_code 12 103 2 60 21 54 (.bipush 60) .int), Or.inl rfl, (by decide +kernel : es_ty 12 21 = .array .int), (by decide : 21 < 65)⟩, ⟨⟨(by decide +kernel : bd_a prog_14_method_7_code 12 111 2 60 22 57 (.bipush 60) .int), Or.inl rfl, (by decide +kernel : es_ty 12 22 = .array .int), (by decide : 22 < 65)⟩, ⟨⟨(by decide +kernel : bd_a prog_14_method_7_code 12 119 2 10 24 60 (.bipush 10) .int), Or.inl rfl, (by decide +kernel : es_ty 12 24 = .array .int), (by decide : 24 < 65)⟩, ⟨⟨(by decide +kernel : bd_a prog_14_method_7_code 12 127 2 10 25 63 (.bipush 10) .int), Or.inl rfl, (by decide +kernel : es_ty 12 25 = .array .int), (by decide : 25 < 65)⟩, ⟨⟨(by decide +kernel : bd_a prog_14_method_7_code 12 135 2 10 26 66 (.bipush 10) .int), Or.inl rfl, (by decide +kernel : es_ty 12 26 = .array .int), (by decide : 26 < 65)⟩, ⟨⟨(by decide +kernel : bd_a prog_14_method_7_code 12 143 2 10 27 69 (.bipush 10) .boolean), Or.inr (Or.inr rfl), (by decide +kernel : es_ty 12 27 = .array .boolean), (by decide : 27 < 65)⟩, ⟨⟨(by decide +kernel : bd_a prog_14_method_7_code 12 151 2 12 28 72 (.bipush 12) .int), Or.inl rfl, (by decide +kernel : es_ty 12 28 = .array .int), (by decide : 28 < 65)⟩, ⟨⟨(by decide +kernel : bd_a prog_14_method_7_code 12 159 3 144 29 75 (.sipush 144) .int), Or.inl rfl, (by decide +kernel : es_ty 12 29 = .array .int), (by decide : 29 < 65)⟩, ⟨⟨(by decide +kernel : bd_a prog_14_method_7_code 12 168 2 12 31 78 (.bipush 12) .int), Or.inl rfl, (by decide +kernel : es_ty 12 31 = .array .int), (by decide : 31 < 65)⟩, ⟨⟨(by decide +kernel : bd_a prog_14_method_7_code 12 176 2 12 32 81 (.bipush 12) .int), Or.inl rfl, (by decide +kernel : es_ty 12 32 = .array .int), (by decide : 32 < 65)⟩, ⟨⟨(by decide +kernel : bd_a prog_14_method_7_code 12 184 2 12 33 84 (.bipush 12) .int), Or.inl rfl, (by decide +kernel : es_ty 12 33 = .array .int), (by decide : 33 < 65)⟩, ⟨⟨(by decide +kernel : bd_a prog_14_method_7_code 12 192 2 36 34 87 (.bipush 36) .int), Or.inl rfl, (by decide +kernel : es_ty 12 34 = .array .int), (by decide : 34 < 65)⟩, ⟨⟨(by decide +kernel : bd_a prog_14_method_7_code 12 200 2 12 35 90 (.bipush 12) .int), Or.inl rfl, (by decide +kernel : es_ty 12 35 = .array .int), (by decide : 35 < 65)⟩, ⟨⟨(by decide +kernel : bd_a prog_14_method_7_code 12 208 2 12 36 93 (.bipush 12) .int), Or.inl rfl, (by decide +kernel : es_ty 12 36 = .array .int), (by decide : 36 < 65)⟩, ⟨⟨(by decide +kernel : bd_a prog_14_method_7_code 12 216 2 37888 37 97 (.ldc 96) .int), Or.inl rfl, (by decide +kernel : es_ty 12 37 = .array .int), (by decide : 37 < 65)⟩, ⟨⟨(by decide +kernel : bd_a prog_14_method_7_code 12 224 3 1728 40 100 (.sipush 1728) .int), Or.inl rfl, (by decide +kernel : es_ty 12 40 = .array .int), (by decide : 40 < 65)⟩, ⟨⟨(by decide +kernel : bd_a prog_14_method_7_code 12 233 2 60 42 103 (.bipush 60) .int), Or.inl rfl, (by decide +kernel : es_ty 12 42 = .array .int), (by decide : 42 < 65)⟩, ⟨⟨(by decide +kernel : bd_a prog_14_method_7_code 12 241 2 24 43 106 (.bipush 24) .int), Or.inl rfl, (by decide +kernel : es_ty 12 43 = .array .int), (by decide : 43 < 65)⟩, ⟨⟨(by decide +kernel : bd_a prog_14_method_7_code 12 249 2 60 44 109 (.bipush 60) .int), Or.inl rfl, (by decide +kernel : es_ty 12 44 = .array .int), (by decide : 44 < 65)⟩, ⟨⟨(by decide +kernel : bd_a prog_14_method_7_code 12 257 2 51876 45 113 (.ldc 112) .int), Or.inl rfl, (by decide +kernel : es_ty 12 45 = .array .int), (by decide : 45 < 65)⟩, ⟨⟨(by decide +kernel : bd_a prog_14_method_7_code 12 265 2 37888 46 116 (.ldc 96) .int), Or.inl rfl, (by decide +kernel : es_ty 12 46 = .array .int), (by decide : 46 < 65)⟩, ⟨⟨(by decide +kernel : bd_a prog_14_method_7_code 12 273 2 10 48 119 (.bipush 10) .int), Or.inl rfl, (by decide +kernel : es_ty 12 48 = .array .int), (by decide : 48 < 65)⟩, ⟨⟨(by decide +kernel : bd_a prog_14_method_7_code 12 281 2 10 49 122 (.bipush 10) .boolean), Or.inr (Or.inr rfl), (by decide +kernel : es_ty 12 49 = .array .boolean), (by decide : 49 < 65)⟩, ⟨⟨(by decide +kernel : bd_a prog_14_method_7_code 12 289 3 1296 50 125 (.sipush 1296) .int), Or.inl rfl, (by decide +kernel : es_ty 12 50 = .array .int), (by decide : 50 < 65)⟩, ⟨⟨(by decide +kernel : bd_a prog_14_method_7_code 12 298 2 10 51 128 (.bipush 10) .int), Or.inl rfl, (by decide +kernel : es_ty 12 51 = .array .int), (by decide : 51 < 65)⟩, ⟨⟨(by decide +kernel : bd_a prog_14_method_7_code 12 306 2 10 52 131 (.bipush 10) .boolean), Or.inr (Or.inr rfl), (by decide +kernel : es_ty 12 52 = .array .boolean), (by decide : 52 < 65)⟩, ⟨⟨(by decide +kernel : bd_a prog_14_method_7_code 12 314 2 10 53 134 (.bipush 10) .int), Or.inl rfl, (by decide +kernel : es_ty 12 53 = .array .int), (by decide : 53 < 65)⟩, ⟨⟨(by decide +kernel : bd_a prog_14_method_7_code 12 322 2 10 54 137 (.bipush 10) .boolean), Or.inr (Or.inr rfl), (by decide +kernel : es_ty 12 54 = .array .boolean), (by decide : 54 < 65)⟩, ⟨⟨(by decide +kernel : bd_a prog_14_method_7_code 12 330 2 10 55 140 (.bipush 10) .int), Or.inl rfl, (by decide +kernel : es_ty 12 55 = .array .int), (by decide : 55 < 65)⟩, ⟨⟨(by decide +kernel : bd_a prog_14_method_7_code 12 338 2 10 56 143 (.bipush 10) .boolean), Or.inr (Or.inr rfl), (by decide +kernel : es_ty 12 56 = .array .boolean), (by decide : 56 < 65)⟩, ⟨⟨(by decide +kernel : bd_a prog_14_method_7_code 12 346 3 1024 58 146 (.sipush 1024) .int), Or.inl rfl, (by decide +kernel : es_ty 12 58 = .array .int), (by decide : 58 < 65)⟩, ⟨⟨(by decide +kernel : bd_a prog_14_method_7_code 12 355 3 5120 59 149 (.sipush 5120) .int), Or.inl rfl, (by decide +kernel : es_ty 12 59 = .array .int), (by decide : 59 < 65)⟩, ⟨⟨(by decide +kernel : bd_a prog_14_method_7_code 12 364 2 60 61 152 (.bipush 60) .int), Or.inl rfl, (by decide +kernel : es_ty 12 61 = .array .int), (by decide : 61 < 65)⟩, ⟨⟨(by decide +kernel : bd_a prog_14_method_7_code 12 372 1 3 62 155 (.iconst 3) .boolean), Or.inr (Or.inr rfl), (by decide +kernel : es_ty 12 62 = .array .boolean), (by decide : 62 < 65)⟩, ⟨⟨(by decide +kernel : bd_a prog_14_method_7_code 12 379 3 1200 63 158 (.sipush 1200) .int), Or.inl rfl, (by decide +kernel : es_ty 12 63 = .array .int), (by decide : 63 < 65)⟩, trivial⟩⟩⟩⟩⟩⟩⟩⟩⟩⟩⟩⟩⟩⟩⟩⟩⟩⟩⟩⟩⟩⟩⟩⟩⟩⟩⟩⟩⟩⟩⟩⟩⟩⟩⟩⟩⟩⟩⟩⟩⟩⟩⟩⟩⟩⟩⟩
set_option maxHeartbeats 2000000 in
set_option maxRecDepth 50000 in
theorem bk_EveryStreetModel (l : Launch) : bd_Ct l ⟨"EveryStreetModel", "<init>", "()V"⟩ prog_14_method_7_code 2 1 47 141161 12 mo_fs0 [] wx_EveryStreetModel tx_EveryStreetModel := by
  intro D h0 sz
  refine Met.ofW (cc := prog_14_method_7_code) (maxL := 2) (ret := none) (by decide) rfl ?_
  intro p e s m args below meth c s₁ B hml hv
  obtain ⟨rfl, hsz, hP, hK⟩ := hv
  have hts : ∀ w ∈ es_WT, w.before _ s = true := fun w hw => atoms_spec (ws := Cond.code _ prog_14_method_7_code 2 none :: es_WT) B.pre w (List.mem_cons_of_mem _ hw)
  have C : bd_C p s m _ meth c prog_14_method_7_code 2 12 := ⟨B.exec, B.bytes, hml, findClass_of_methodNamed B.named, hts, (name_of_methodNamed B.named B.method).1⟩
  have hx := B.exec
  have hb := B.bytes
  have hr := B.returns
  have hlocks := B.notSynchronized
  subst hsz
  have hD := bd_D1 (q := h0) (e0 := .inr (12, mo_fs0)) (sz := s.heap.size)
  generalize hAe : va_A [(h0, .inr (12, mo_fs0))] s.heap.size = A at hD ⊢
  have hA : ∀ q : Nat, s.heap.size ≤ q → A q := fun q h => by rw [← hAe]; exact Or.inr h
  have hS : va_S A s.heap s.heap [] := va_S.rf
  have hl := lv_entry ([.ref h0]) (n := 2) (Nat.le_of_ble_eq_true rfl)
  rw [lg_entry_eq]
  generalize (lg_sl ([.ref h0]) ++ List.replicate (2 - (lg_sl ([.ref h0])).length) Slot.unset).toArray = ls at hl ⊢
  have hl : lv_has ls 2 [(0, .ref h0)] := hl
  refine bd_O C hl.1 (lv_at hl 0 rfl) (ix := 14) (es_WT_at (p := 6153) (by decide +kernel)) (by decide +kernel) ⟨Nat.le_of_ble_eq_true rfl, Nat.le_of_ble_eq_true rfl⟩ ?_
  obtain ⟨g1, g2, g3, g4⟩ := mo_e4
  refine bd_AS C hA (lv_at hl 0 rfl) mo_ops 4 mo_fs0 [] [] 0 0 _ _ (by rw [g4]; exact mo_ok) (by rw [g1]; exact Nat.le_of_ble_eq_true rfl) (by rw [g2]; exact Nat.le_of_ble_eq_true rfl) hK hP hD hS (fun qs cs H locs hq hc hK hP hD hS => ?_)
  rw [g1] at hq hc
  rw [g1, g2, g3]
  have eq := bd_rng (d := 0) qs 47 hq
  have ec := bd_rng (d := 0) cs 47 hc
  generalize (fun i => qs.getD i 0) = q at eq
  generalize (fun i => cs.getD i 0) = cf at ec
  rw [eq, ec, mo_e1, mo_e2, List.nil_append] at hP hD
  rw [ec, mo_e3, List.nil_append] at hK
  clear eq ec hq hc
  refine lv_iconst (v := Int32.ofInt 0) hx hb (show decode prog_14_method_7_code 388 = .ok (.iconst 0, 1) by decide +kernel) rfl ?_
  refine lv_istore_n (lv' := [(1, .int (Int32.ofInt 0)), (0, .ref h0)]) hx hb (show decode prog_14_method_7_code 389 = .ok (.istore_n 1, 1) by decide +kernel) rfl hl (by decide) rfl (fun ls hl => ?_)
  refine bd_loopW C hK hP hD hS hl (lp := 1) (k := 12) (ix := 45) (i := 9) (t0 := 9) (n := 1728) (pcl := 390) (pcc := 396) (pe := 412) (ip := .iconst (-1)) (v := -1) (o1 := 16) (o2 := -19) (by decide +kernel) rfl rfl rfl (by decide) (fun g x ls H locs h0l hP kk => lv_aload_n hx hb (show decode prog_14_method_7_code 391 = .ok (.aload_n 0, 1) by decide +kernel) rfl h0l (bd_getf C hK hP (k := 12) (ix := 45) (by decide +kernel) rfl (show decode prog_14_method_7_code 392 = .ok (.getfield 45, 3) by decide +kernel) (va_alen hx hb hK hP 10 9 rfl rfl (v := Int32.ofInt (1728 : Int)) rfl (show decode prog_14_method_7_code 395 = .ok (.arraylength, 1) by decide +kernel) kk))) (fun ls H locs hsz hl hP hD hS => ?_)
  refine lv_iconst (v := Int32.ofInt 0) hx hb (show decode prog_14_method_7_code 412 = .ok (.iconst 0, 1) by decide +kernel) rfl ?_
  refine lv_istore_n (lv' := [(1, .int (Int32.ofInt 0)), (0, .ref h0)]) hx hb (show decode prog_14_method_7_code 413 = .ok (.istore_n 1, 1) by decide +kernel) rfl hl (by decide) rfl (fun ls hl => ?_)
  refine bd_loopW C hK hP hD hS hl (lp := 3) (k := 11) (ix := 42) (i := 8) (t0 := 8) (n := 18) (pcl := 414) (pcc := 417) (pe := 435) (ip := .sipush 1439) (v := 1439) (o1 := 18) (o2 := -18) (by decide +kernel) rfl rfl rfl (by decide) (fun g x ls H locs h0l hP kk => bd_push C (v := 18) (by decide +kernel) (show decode prog_14_method_7_code 415 = .ok (.bipush 18, 2) by decide +kernel) kk) (fun ls H locs hsz hl hP hD hS => ?_)
  refine lv_iconst (v := Int32.ofInt 0) hx hb (show decode prog_14_method_7_code 435 = .ok (.iconst 0, 1) by decide +kernel) rfl ?_
  refine lv_istore_n (lv' := [(1, .int (Int32.ofInt 0)), (0, .ref h0)]) hx hb (show decode prog_14_method_7_code 436 = .ok (.istore_n 1, 1) by decide +kernel) rfl hl (by decide) rfl (fun ls hl => ?_)
  refine bd_loopW C hK hP hD hS hl (lp := 2) (k := 43) (ix := 106) (i := 29) (t0 := 29) (n := 24) (pcl := 437) (pcc := 440) (pe := 457) (ip := .bipush 100) (v := 100) (o1 := 17) (o2 := -17) (by decide +kernel) rfl rfl rfl (by decide) (fun g x ls H locs h0l hP kk => bd_push C (v := 24) (by decide +kernel) (show decode prog_14_method_7_code 438 = .ok (.bipush 24, 2) by decide +kernel) kk) (fun ls H locs hsz hl hP hD hS => ?_)
  refine W.widen (k := 47) (n := 141161) (Nat.le_of_ble_eq_true rfl) (Nat.le_of_ble_eq_true rfl) ?_
  rw [mo_e5] at hP hD
  exact W.vret hx hb hr (fun t ht hW => ⟨⟨(q, cf), rfl, trivial, by show va_P D es_cl _ t.heap; rw [ht]; exact hP, va_K.moved hW.alike hK, hD⟩, hS.F ht⟩) hS.2.2 (by decide +kernel)
