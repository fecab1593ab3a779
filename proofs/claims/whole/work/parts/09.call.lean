/-! a method's contract in numbers, and what a walk inside a method owes -/
def es_res (ret : Option FieldType) (y : Int) : Option AV := match ret with
  | none => none
  | some .long => some (.inr (.inl y))
  | some _ => some (.inl y)
def es_kind (ret : Option FieldType) : Nat := match ret with
  | none => 0
  | some .long => 2
  | some _ => 1
def es_rm (d : Nat) : Room := { frames := d, cells := 0, slots := 0, locals := 64 * d }
def es_wsM (q : es_I) : List Cond := Cond.code q.1 q.2.1 q.2.2.1 q.2.2.2.1 :: es_WT
def es_Pc (ad : Nat → Nat) (D : va_G) (cA : Nat → ClassId) (av : List AV) (M : es_M) : Array Value → State → Prop := va_Pc (av.map (es_V ad)) (fun U => va_P D es_cl (es_ws ad cA M) U.heap ∧ es_U D cA U)
def es_Qc (ad : Nat → Nat) (D : va_G) (cA : Nat → ClassId) (ret : Option FieldType) (m0 : Int → Int) (Q : Int → es_M → Prop) : Array Value → State → Outcome → State → Prop := fun _ st oc t =>
  (∃ (y : Int) (M' : es_M), oc = .returned ((es_res ret y).map (es_V ad)) ∧ (∀ v, es_res ret y = some v → es_ok v) ∧ es_rng M' ∧ M' 140 = m0 ∧ Q y M' ∧ va_P D es_cl (es_ws ad cA M') t.heap) ∧ va_F (es_A ad) st t
def es_Call (d id : Nat) (av : List AV) (M : es_M) (Q : Int → es_M → Prop) : Prop := ∀ q : es_I, es_mi[id]? = some q → (∀ v ∈ av, es_ok v) → es_rng M →
  ∀ (l : Launch) (ad : Nat → Nat) (D : va_G) (cA : Nat → ClassId), es_inj ad → Met l q.1 (es_wsM q) (es_rm d) (es_Pc ad D cA av M) (es_Qc ad D cA q.2.2.2.1 (M 140) Q) 0 0 (es_A ad)
theorem es_Pc_blind (ad : Nat → Nat) (D : va_G) (cA : Nat → ClassId) (av : List AV) (M : es_M) : FrameBlind (es_Pc ad D cA av M) := fun _ _ _ _ h => ⟨h.1, h.2.1, h.2.2.blind⟩
/-- what a method's rows must have: the number of its class, the code -/
def es_olen : Instr → Nat
  | .iload _ | .lload _ | .aload _ | .istore _ | .lstore _ | .astore _ | .bipush _ | .ldc _ => 2
  | .sipush _ | .ldc_w _ | .ldc2_w _ | .iinc .. | .goto _ | .ifCond .. | .if_icmp .. | .getfield _ | .putfield _ | .invokevirtual _ | .invokestatic _ => 3
  | _ => 1
def es_mok (id n kind st : Nat) (own : String) : Bool := match es_mi[id]? with
  | some q => Nat.beq q.2.2.2.2.1 n && Nat.beq (es_kind q.2.2.2.1) kind && Nat.beq q.2.2.2.2.2.1 st && (decide (own = "") || decide (q.1.cls = own))
  | none => false
def es_xok (own pc : Nat) (i : Instr) (len : Nat) (x : es_X) : Bool := match i with
  | .iconst v => Nat.beq len 1 && decide (-128 ≤ v ∧ v ≤ 127)
  | .bipush v => Nat.beq len 2 && decide (-128 ≤ v ∧ v ≤ 127)
  | .sipush v => Nat.beq len 3 && decide (-32768 ≤ v ∧ v ≤ 32767)
  | .ldc ix => Nat.beq len 2 && decide (-2147483648 ≤ x.2.2.2 ∧ x.2.2.2 < 2147483648) && es_KL.any fun q => Nat.beq q.1 own && Nat.beq q.2.1 ix && decide (q.2.2.1 = x.2.2.2)
  | .ldc_w ix => Nat.beq len 3 && decide (-2147483648 ≤ x.2.2.2 ∧ x.2.2.2 < 2147483648) && es_KL.any fun q => Nat.beq q.1 own && Nat.beq q.2.1 ix && decide (q.2.2.1 = x.2.2.2)
  | .ldc2_w ix => Nat.beq len 3 && decide (-2147483648 ≤ x.2.2.2 ∧ x.2.2.2 < 2147483648) && es_KJ.any fun q => Nat.beq q.1 own && Nat.beq q.2.1 ix && decide (q.2.2.1 = x.2.2.2)
  | .goto off => Nat.beq len 3 && decide ((pc : Int) + off = (x.1 : Int))
  | .ifCond _ off => Nat.beq len 3 && decide ((pc : Int) + off = (x.1 : Int))
  | .if_icmp _ off => Nat.beq len 3 && decide ((pc : Int) + off = (x.1 : Int))
  | .tableswitch dflt lo hi offs => decide (0 ≤ (pc : Int) + dflt) && offs.toList.all (fun o => decide (0 ≤ (pc : Int) + o)) && decide (hi - lo + 1 = (offs.toList.length : Int))
  | .lookupswitch dflt ps => decide (0 ≤ (pc : Int) + dflt) && ps.toList.all (fun o => decide (0 ≤ (pc : Int) + o.2)) && (ps.toList.zip (ps.toList.drop 1)).all (fun (a, next) => a.1 < next.1)
  | .getfield ix => Nat.beq len 3 && decide (x.2.2.2 = (x.2.1 : Int)) && es_FL.any fun q => Nat.beq q.1 own && Nat.beq q.2.1 ix && Nat.beq q.2.2.1 x.1 && Nat.beq q.2.2.2.1 x.2.1
  | .putfield ix => Nat.beq len 3 && decide (x.2.2.2 = (x.2.1 : Int)) && !(es_fd x.1 x.2.1).2.2.2 && es_FL.any fun q => Nat.beq q.1 own && Nat.beq q.2.1 ix && Nat.beq q.2.2.1 x.1 && Nat.beq q.2.2.2.1 x.2.1
  | .invokevirtual ix => Nat.beq len 3 && es_mok x.1 x.2.1 x.2.2.1 0 (es_cn x.2.2.2.toNat) && decide (es_cn x.2.2.2.toNat ≠ "") && Nat.blt x.2.2.2.toNat 13 && es_ML.any fun q => Nat.beq q.1 own && Nat.beq q.2.1 ix && Nat.beq q.2.2.1 x.1
  | .invokestatic ix => Nat.beq len 3 && (cond (Nat.beq x.1 9998) (es_AC.any fun q => Nat.beq q.1 own && Nat.beq q.2.1 ix) (cond (Nat.beq x.1 9996) (es_Mmin.any fun q => Nat.beq q.1 own && Nat.beq q.2.1 ix) (cond (Nat.beq x.1 9997) (es_Mmax.any fun q => Nat.beq q.1 own && Nat.beq q.2.1 ix)
      (es_mok x.1 x.2.1 x.2.2.1 1 "" && ((es_ML.any fun q => Nat.beq q.1 own && Nat.beq q.2.1 ix && Nat.beq q.2.2.1 x.1) || (es_MN.any fun q => Nat.beq q.1 own && Nat.beq q.2.1 ix && Nat.beq q.2.2.1 x.1))))))
  | i => Nat.beq (es_olen i) len
/-- the rows of a code: each decoded as it says, each link held -/
def es_cok (own : Nat) (cc : ByteArray) (cd : List es_R) : Prop := ∀ q ∈ cd, decode cc q.1 = .ok (q.2.1, q.2.2.1) ∧ es_xok own q.1 q.2.1 q.2.2.1 q.2.2.2 = true
def es_G (p : Program) (l : Launch) (e : Env) (R : Room) (s : State) (m : MethodId) (args : Array Value) (below : List Frame) (meth : Method) (c : Code) (D : va_G) (ad : Nat → Nat) (cA : Nat → ClassId) (A : Nat → Prop) (nL : Nat) (m0 : Int → Int) (cells slots : Nat) (Qf : State → Prop)
    (pc : Nat) (L : es_L) (st : List AV) (M : es_M) : Prop :=
  ∀ (H : Heap) (locs : List Loc) (ls : Array Slot), es_LR ad nL L ls → (∀ v ∈ st, es_ok v) → es_rng M → M 140 = m0 → va_P D es_cl (es_ws ad cA M) H → va_S A s.heap H locs → W p l e R s m args below meth c H locs cells slots Qf (F0 m pc ls (st.map (es_V ad)))
/-- where a walk stands -/
def es_Ctx (p : Program) (R : Room) (s : State) (m : MethodId) (args : Array Value) (meth : Method) (c : Code) (D : va_G) (ad : Nat → Nat) (cA : Nat → ClassId) (A : Nat → Prop) (nL : Nat) (m0 : Int → Int) (cells slots : Nat) (cc : ByteArray) (own d : Nat) (S : Option Int) : Prop :=
  p.tables.exec = Jvm.exec ∧ c.code = cc ∧ c.maxLocals = nL ∧ s.vm.findClass (es_cn own) = some m.cls ∧ (∀ w ∈ es_WT, w.before args s = true) ∧ es_U D cA s ∧ es_inj ad ∧ (∀ k, k < 140 → A (ad k)) ∧
  (∀ sl : Int, S = some sl → ∃ (n : Nat) (xs : Nat → Int32), sl = (n : Int) ∧ n < 2147483648 ∧ va_X (ad 140) n xs s s.heap ∧ ad 140 < s.heap.size ∧ ¬ A (ad 140) ∧ ∀ j : Nat, m0 (j : Int) = (xs j).toInt) ∧
  (d + 1 ≤ R.frames ∧ 64 * d + 64 ≤ R.locals ∧ cells ≤ R.cells ∧ slots ≤ R.slots)
