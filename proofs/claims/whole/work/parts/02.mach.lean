/-! THE MACHINE IN NUMBERS: a value is an int, a long (both as integers) or the number of a cell; a memory gives each cell's places integers; one step of bytecode as a condition on what comes behind it -/
abbrev AV : Type := Int ⊕ (Int ⊕ Nat)
abbrev es_M : Type := Nat → Int → Int
abbrev es_L : Type := List (Option AV)
/-- a cell: an array of numbers (type, length), or an object (class, of each field 0 int, 1 boolean, k + 2 the cell k), or an array of objects -/
abbrev es_C : Type := (FieldType × Int) ⊕ ((Nat × List Nat) ⊕ List Nat)
/-- what an instruction links to: a target, or a class and a field, or a method with its arguments, its kind of answer (0 none, 1 int, 2 long), its class; a constant -/
abbrev es_X : Type := Nat × Nat × Nat × Int
abbrev es_R : Type := Nat × Instr × Nat × es_X
def w32 (x : Int) : Int := (x + 2147483648) % 4294967296 - 2147483648
def w64 (x : Int) : Int := (x + 9223372036854775808) % 18446744073709551616 - 9223372036854775808
def es_and (x y : Int) : Int := (Int32.ofInt x &&& Int32.ofInt y).toInt
def es_or (x y : Int) : Int := (Int32.ofInt x ||| Int32.ofInt y).toInt
def es_xor (x y : Int) : Int := (Int32.ofInt x ^^^ Int32.ofInt y).toInt
def es_shl (x y : Int) : Int := (Int32.ofInt x <<< (Int32.ofInt y &&& 31)).toInt
def es_shr (x y : Int) : Int := (Int32.ofInt x >>> (Int32.ofInt y &&& 31)).toInt
def es_ushr (x y : Int) : Int := ((Int32.ofInt x).toUInt32 >>> ((Int32.ofInt y).toUInt32 &&& Int32.toUInt32 31)).toInt32.toInt
def es_div (x y : Int) : Int := (Int32.ofInt x / Int32.ofInt y).toInt
def es_rem (x y : Int) : Int := (Int32.ofInt x - Int32.ofInt x / Int32.ofInt y * Int32.ofInt y).toInt
def es_i2b (x : Int) : Int := (Int32.ofInt x).toInt8.toInt32.toInt
def es_i2s (x : Int) : Int := (Int32.ofInt x).toInt16.toInt32.toInt
def es_lor (x y : Int) : Int := (Int64.ofInt x ||| Int64.ofInt y).toInt
def es_land (x y : Int) : Int := (Int64.ofInt x &&& Int64.ofInt y).toInt
def es_lshl (x y : Int) : Int := (Int64.ofInt x <<< ((Int32.ofInt y).toInt64 &&& 63)).toInt
def es_lshr (x y : Int) : Int := (Int64.ofInt x >>> ((Int32.ofInt y).toInt64 &&& 63)).toInt
def es_lcmp (x y : Int) : Int := if y < x then 1 else if x = y then 0 else -1
def es_upd (M : es_M) (c : Nat) (j v : Int) : es_M := fun c' j' => if c' = c ∧ j' = j then v else M c' j'
/-- System.arraycopy of cells of numbers -/
def es_cpy (M : es_M) (a : Nat) (sp : Int) (b : Nat) (dp n : Int) : es_M := fun c j => if c = b ∧ dp ≤ j ∧ j < dp + n then M a (sp + (j - dp)) else M c j
def es_cat : List AV → Nat
  | [] => 0
  | .inr (.inl _) :: r => 2 + es_cat r
  | _ :: r => 1 + es_cat r
def es_push (k : Nat) (v : Int) (st : List AV) : List AV := match k with
  | 0 => st
  | 1 => .inl v :: st
  | _ => .inr (.inl v) :: st
def es_mask : List Bool → es_L → es_L
  | true :: m, v :: L => v :: es_mask m L
  | false :: m, _ :: L => none :: es_mask m L
  | _, _ => []
def es_stop (stop : List (Nat × List Bool)) (pc : Nat) : Option (List Bool) := match stop with
  | [] => none
  | q :: r => cond (Nat.beq q.1 pc) (some q.2) (es_stop r pc)
def es_nolong (L : es_L) (n : Nat) : Bool := match n with
  | 0 => true
  | k + 1 => match L[k]? with
    | some (some (.inr (.inl _))) => false
    | _ => true
def es_look (cd : List es_R) (pc : Nat) : Option (Instr × Nat × es_X) := match cd with
  | [] => none
  | q :: r => cond (Nat.beq q.1 pc) (some q.2) (es_look r pc)
def es_pop (n : Nat) (st acc : List AV) : Option (List AV × List AV) := match n, st with
  | 0, st => some (acc, st)
  | _ + 1, [] => none
  | n + 1, v :: st => es_pop n st (v :: acc)
def es_sw (pc : Nat) (K : Nat → Prop) (x : Int) : Int → List Int → Prop
  | _, [] => True
  | v, o :: os => (x = v → K ((pc : Int) + o).toNat) ∧ es_sw pc K x (v + 1) os
def es_swo (x : Int) : List (Int × Int) → Prop
  | [] => True
  | q :: qs => ¬ x = q.1 ∧ es_swo x qs
def es_swl (pc : Nat) (K : Nat → Prop) (x : Int) : List (Int × Int) → Prop
  | [] => True
  | q :: qs => (x = q.1 → K ((pc : Int) + q.2).toNat) ∧ (¬ x = q.1 → es_swl pc K x qs)
section
variable (lay : Nat → Option es_C) (NC : Nat) (call : Nat → List AV → es_M → (Int → es_M → Prop) → Prop) (ret : Option FieldType) (Q : Int → es_M → Prop)
def es_step (K : Nat → es_L → List AV → es_M → Prop) (pc : Nat) (L : es_L) (st : List AV) (M : es_M) (i : Instr) (len : Nat) (x : es_X) : Prop :=
  match i with
  | .iconst v => K (pc + 1) L (.inl v :: st) M
  | .bipush v => K (pc + 2) L (.inl v :: st) M
  | .sipush v => K (pc + 3) L (.inl v :: st) M
  | .ldc _ => K (pc + 2) L (.inl x.2.2.2 :: st) M
  | .ldc_w _ => K (pc + 3) L (.inl x.2.2.2 :: st) M
  | .ldc2_w _ => K (pc + 3) L (.inr (.inl x.2.2.2) :: st) M
  | .lconst n => K (pc + 1) L (.inr (.inl (n.val : Int)) :: st) M
  | .iload n => match L[n]? with
    | some (some (.inl v)) => K (pc + 2) L (.inl v :: st) M
    | _ => False
  | .iload_n n => match L[n.val]? with
    | some (some (.inl v)) => K (pc + 1) L (.inl v :: st) M
    | _ => False
  | .lload n => match L[n]? with
    | some (some (.inr (.inl v))) => K (pc + 2) L (.inr (.inl v) :: st) M
    | _ => False
  | .lload_n n => match L[n.val]? with
    | some (some (.inr (.inl v))) => K (pc + 1) L (.inr (.inl v) :: st) M
    | _ => False
  | .aload n => match L[n]? with
    | some (some (.inr (.inr v))) => K (pc + 2) L (.inr (.inr v) :: st) M
    | _ => False
  | .aload_n n => match L[n.val]? with
    | some (some (.inr (.inr v))) => K (pc + 1) L (.inr (.inr v) :: st) M
    | _ => False
  | .istore n => match st with
    | .inl v :: r => cond (Nat.blt n L.length && es_nolong L n) (K (pc + 2) (L.set n (some (.inl v))) r M) False
    | _ => False
  | .istore_n n => match st with
    | .inl v :: r => cond (Nat.blt n.val L.length && es_nolong L n.val) (K (pc + 1) (L.set n.val (some (.inl v))) r M) False
    | _ => False
  | .lstore n => match st with
    | .inr (.inl v) :: r => cond (Nat.blt (n + 1) L.length && es_nolong L n) (K (pc + 2) ((L.set n (some (.inr (.inl v)))).set (n + 1) none) r M) False
    | _ => False
  | .lstore_n n => match st with
    | .inr (.inl v) :: r => cond (Nat.blt (n.val + 1) L.length && es_nolong L n.val) (K (pc + 1) ((L.set n.val (some (.inr (.inl v)))).set (n.val + 1) none) r M) False
    | _ => False
  | .iinc n v => match L[n]? with
    | some (some (.inl y)) => cond (Nat.blt n L.length && es_nolong L n) (K (pc + 3) (L.set n (some (.inl (w32 (y + v))))) st M) False
    | _ => False
  | .iadd => match st with
    | .inl b :: .inl a :: r => K (pc + 1) L (.inl (w32 (a + b)) :: r) M
    | _ => False
  | .isub => match st with
    | .inl b :: .inl a :: r => K (pc + 1) L (.inl (w32 (a - b)) :: r) M
    | _ => False
  | .imul => match st with
    | .inl b :: .inl a :: r => K (pc + 1) L (.inl (w32 (a * b)) :: r) M
    | _ => False
  | .iand => match st with
    | .inl b :: .inl a :: r => K (pc + 1) L (.inl (es_and a b) :: r) M
    | _ => False
  | .ior => match st with
    | .inl b :: .inl a :: r => K (pc + 1) L (.inl (es_or a b) :: r) M
    | _ => False
  | .ixor => match st with
    | .inl b :: .inl a :: r => K (pc + 1) L (.inl (es_xor a b) :: r) M
    | _ => False
  | .ishl => match st with
    | .inl b :: .inl a :: r => K (pc + 1) L (.inl (es_shl a b) :: r) M
    | _ => False
  | .ishr => match st with
    | .inl b :: .inl a :: r => K (pc + 1) L (.inl (es_shr a b) :: r) M
    | _ => False
  | .iushr => match st with
    | .inl b :: .inl a :: r => K (pc + 1) L (.inl (es_ushr a b) :: r) M
    | _ => False
  | .idiv => match st with
    | .inl b :: .inl a :: r => ¬ b = 0 ∧ K (pc + 1) L (.inl (es_div a b) :: r) M
    | _ => False
  | .irem => match st with
    | .inl b :: .inl a :: r => ¬ b = 0 ∧ K (pc + 1) L (.inl (es_rem a b) :: r) M
    | _ => False
  | .ineg => match st with
    | .inl a :: r => K (pc + 1) L (.inl (w32 (- a)) :: r) M
    | _ => False
  | .i2l => match st with
    | .inl a :: r => K (pc + 1) L (.inr (.inl a) :: r) M
    | _ => False
  | .i2b => match st with
    | .inl a :: r => K (pc + 1) L (.inl (es_i2b a) :: r) M
    | _ => False
  | .i2s => match st with
    | .inl a :: r => K (pc + 1) L (.inl (es_i2s a) :: r) M
    | _ => False
  | .lor => match st with
    | .inr (.inl b) :: .inr (.inl a) :: r => K (pc + 1) L (.inr (.inl (es_lor a b)) :: r) M
    | _ => False
  | .land => match st with
    | .inr (.inl b) :: .inr (.inl a) :: r => K (pc + 1) L (.inr (.inl (es_land a b)) :: r) M
    | _ => False
  | .lshl => match st with
    | .inl b :: .inr (.inl a) :: r => K (pc + 1) L (.inr (.inl (es_lshl a b)) :: r) M
    | _ => False
  | .lshr => match st with
    | .inl b :: .inr (.inl a) :: r => K (pc + 1) L (.inr (.inl (es_lshr a b)) :: r) M
    | _ => False
  | .lcmp => match st with
    | .inr (.inl b) :: .inr (.inl a) :: r => K (pc + 1) L (.inl (es_lcmp a b) :: r) M
    | _ => False
  | .dup => match st with
    | .inl a :: r => K (pc + 1) L (.inl a :: .inl a :: r) M
    | .inr (.inr a) :: r => K (pc + 1) L (.inr (.inr a) :: .inr (.inr a) :: r) M
    | _ => False
  | .dup2 => match st with
    | .inl b :: .inr (.inr a) :: r => K (pc + 1) L (.inl b :: .inr (.inr a) :: .inl b :: .inr (.inr a) :: r) M
    | _ => False
  | .pop => match st with
    | .inl _ :: r => K (pc + 1) L r M
    | _ => False
  | .goto _ => K x.1 L st M
  | .ifCond c _ => match st with
    | .inl a :: r => match c with
      | .eq => (a = 0 → K x.1 L r M) ∧ (¬ a = 0 → K (pc + 3) L r M)
      | .ne => (¬ a = 0 → K x.1 L r M) ∧ (a = 0 → K (pc + 3) L r M)
      | .lt => (a < 0 → K x.1 L r M) ∧ (¬ a < 0 → K (pc + 3) L r M)
      | .ge => (0 ≤ a → K x.1 L r M) ∧ (¬ 0 ≤ a → K (pc + 3) L r M)
      | .gt => (0 < a → K x.1 L r M) ∧ (¬ 0 < a → K (pc + 3) L r M)
      | .le => (a ≤ 0 → K x.1 L r M) ∧ (¬ a ≤ 0 → K (pc + 3) L r M)
    | _ => False
  | .if_icmp c _ => match st with
    | .inl b :: .inl a :: r => match c with
      | .eq => (a = b → K x.1 L r M) ∧ (¬ a = b → K (pc + 3) L r M)
      | .ne => (¬ a = b → K x.1 L r M) ∧ (a = b → K (pc + 3) L r M)
      | .lt => (a < b → K x.1 L r M) ∧ (¬ a < b → K (pc + 3) L r M)
      | .ge => (b ≤ a → K x.1 L r M) ∧ (¬ b ≤ a → K (pc + 3) L r M)
      | .gt => (b < a → K x.1 L r M) ∧ (¬ b < a → K (pc + 3) L r M)
      | .le => (a ≤ b → K x.1 L r M) ∧ (¬ a ≤ b → K (pc + 3) L r M)
    | _ => False
  | .tableswitch dflt lo hi offs => match st with
    | .inl a :: r => ((a < lo ∨ hi < a) → K ((pc : Int) + dflt).toNat L r M) ∧ es_sw pc (fun t => K t L r M) a lo offs.toList
    | _ => False
  | .lookupswitch dflt ps => match st with
    | .inl a :: r => (es_swo a ps.toList → K ((pc : Int) + dflt).toNat L r M) ∧ es_swl pc (fun t => K t L r M) a ps.toList
    | _ => False
  | .iaload => match st with
    | .inl j :: .inr (.inr c) :: r => match lay c with
      | some (.inl (.int, n)) => (0 ≤ j ∧ j < n) ∧ K (pc + 1) L (.inl (M c j) :: r) M
      | _ => False
    | _ => False
  | .baload => match st with
    | .inl j :: .inr (.inr c) :: r => match lay c with
      | some (.inl (.boolean, n)) => (0 ≤ j ∧ j < n) ∧ K (pc + 1) L (.inl (M c j) :: r) M
      | _ => False
    | _ => False
  | .laload => match st with
    | .inl j :: .inr (.inr c) :: r => match lay c with
      | some (.inl (.long, n)) => (0 ≤ j ∧ j < n) ∧ K (pc + 1) L (.inr (.inl (M c j)) :: r) M
      | _ => False
    | _ => False
  | .aaload => match st with
    | .inl j :: .inr (.inr c) :: r => match lay c with
      | some (.inr (.inr ks)) => 0 ≤ j ∧ match ks[j.toNat]? with
        | some k => K (pc + 1) L (.inr (.inr k) :: r) M
        | none => False
      | _ => False
    | _ => False
  | .iastore => match st with
    | .inl v :: .inl j :: .inr (.inr c) :: r => match lay c with
      | some (.inl (.int, n)) => cond (Nat.blt c NC) ((0 ≤ j ∧ j < n) ∧ K (pc + 1) L r (es_upd M c j v)) False
      | _ => False
    | _ => False
  | .bastore => match st with
    | .inl v :: .inl j :: .inr (.inr c) :: r => match lay c with
      | some (.inl (.boolean, n)) => cond (Nat.blt c NC) ((0 ≤ j ∧ j < n) ∧ (v = 0 ∨ v = 1) ∧ K (pc + 1) L r (es_upd M c j v)) False
      | _ => False
    | _ => False
  | .lastore => match st with
    | .inr (.inl v) :: .inl j :: .inr (.inr c) :: r => match lay c with
      | some (.inl (.long, n)) => cond (Nat.blt c NC) ((0 ≤ j ∧ j < n) ∧ K (pc + 1) L r (es_upd M c j v)) False
      | _ => False
    | _ => False
  | .arraylength => match st with
    | .inr (.inr c) :: r => match lay c with
      | some (.inl (_, n)) => K (pc + 1) L (.inl n :: r) M
      | _ => False
    | _ => False
  | .getfield _ => match st with
    | .inr (.inr c) :: r => match lay c with
      | some (.inr (.inl (ci, fl))) => cond (Nat.beq ci x.1) (match fl[x.2.1]? with
        | some 0 => K (pc + 3) L (.inl (M c x.2.2.2) :: r) M
        | some 1 => K (pc + 3) L (.inl (M c x.2.2.2) :: r) M
        | some (k + 2) => K (pc + 3) L (.inr (.inr k) :: r) M
        | none => False) False
      | _ => False
    | _ => False
  | .putfield _ => match st with
    | .inl v :: .inr (.inr c) :: r => match lay c with
      | some (.inr (.inl (ci, fl))) => cond (Nat.beq ci x.1) (match fl[x.2.1]? with
        | some 0 => K (pc + 3) L r (es_upd M c x.2.2.2 v)
        | some 1 => (v = 0 ∨ v = 1) ∧ K (pc + 3) L r (es_upd M c x.2.2.2 v)
        | _ => False) False
      | _ => False
    | _ => False
  | .invokevirtual _ => match es_pop (x.2.1 + 1) st [] with
    | some (.inr (.inr o) :: av, r) => match lay o with
      | some (.inr (.inl (ci, _))) => cond (Nat.beq ci x.2.2.2.toNat && Nat.ble (es_cat r) 8) (call x.1 (.inr (.inr o) :: av) M (fun v M' => K (pc + 3) L (es_push x.2.2.1 v r) M')) False
      | _ => False
    | _ => False
  | .invokestatic _ => cond (Nat.beq x.1 9998) (match st with
    | .inl n :: .inl dp :: .inr (.inr b) :: .inl sp :: .inr (.inr a) :: r => match lay a, lay b with
      | some (.inl (.int, na)), some (.inl (.int, nb)) => cond (Nat.blt a NC && Nat.blt b NC && Nat.ble (es_cat r) 8) ((0 ≤ sp ∧ 0 ≤ dp ∧ 0 ≤ n ∧ sp + n ≤ na ∧ dp + n ≤ nb) ∧ K (pc + 3) L r (es_cpy M a sp b dp n)) False
      | _, _ => False
    | _ => False) (cond (Nat.beq x.1 9996) (match st with
    | .inl b :: .inl a :: r => cond (Nat.ble (es_cat r) 8) (K (pc + 3) L (.inl (min a b) :: r) M) False
    | _ => False) (cond (Nat.beq x.1 9997) (match st with
    | .inl b :: .inl a :: r => cond (Nat.ble (es_cat r) 8) (K (pc + 3) L (.inl (max a b) :: r) M) False
    | _ => False) (match es_pop x.2.1 st [] with
    | some (av, r) => cond (Nat.ble (es_cat r) 8) (call x.1 av M (fun v M' => K (pc + 3) L (es_push x.2.2.1 v r) M')) False
    | none => False)))
  | .ireturn => match st with
    | [.inl v] => match ret with
      | some .int => Q v M
      | some .boolean => (v = 0 ∨ v = 1) ∧ Q v M
      | _ => False
    | _ => False
  | .lreturn => match st with
    | [.inr (.inl v)] => match ret with
      | some .long => Q v M
      | _ => False
    | _ => False
  | .return_ => match st with
    | [] => match ret with
      | none => Q 0 M
      | _ => False
    | _ => False
  | _ => False
def es_wp (cd : List es_R) (stop : List (Nat × List Bool)) (K : Nat → es_L → List AV → es_M → Prop) : Nat → Nat → es_L → List AV → es_M → Prop
  | 0, pc, L, st, M => K pc L st M
  | n + 1, pc, L, st, M => match es_look cd pc with
    | none => False
    | some q => es_step lay NC call ret Q (fun pc' L' st' M' => match es_stop stop pc' with
      | some m => K pc' (es_mask m L') st' M'
      | none => es_wp cd stop K n pc' L' st' M') pc L st M q.1 q.2.1 q.2.2
end
