/-! THE SMALL MACHINE: the class's instructions over a heap of numbered cells (a verifier's own; tables in 02..05) -/
abbrev XSe : Type := Nat × Nat × List (Option Nat)
abbrev XSh : Type := List XSe
abbrev XHp : Type := XSh × (Nat → Nat → Int32) × (Nat → Nat → Int64)
abbrev XR : Type := Option (Option Value × XHp)
abbrev XX : Type := Nat × (Nat → Int32)
def xSCR : Nat := 1000000
def xSTR : Nat := 1000001
def xSTV : Nat := 1000011
def xrow {α : Type} (I : Nat → Nat → α) (k : Nat) (f : Nat → α) : Nat → Nat → α := fun a => if a = k then f else I a
def xin (i : Int32) (n : Nat) : Bool := !(decide (i < 0) || decide (n ≤ i.toNatClampNeg))
noncomputable def xop (m pc : Nat) : XOp := match ((xprog m).getD (pc / 64) []).find? (fun q => Nat.beq q.1 pc) with
  | some q => q.2
  | none => (.nop, 0, 0, 0, 0, pc + 1)
/-- what stands in a local; a long kills its neighbour's -/
def xkill (ls : List Value) (i : Nat) : List Value := match i with
  | 0 => ls
  | i + 1 => match ls[i]? with
    | some v => if v.category = 2 then ls.set i .null else ls
    | none => ls
def xset1 (ls : List Value) (i : Nat) (v : Value) : List Value := (xkill ls i).set i v
def xset2 (ls : List Value) (i : Nat) (v : Value) : List Value := ((xkill ls i).set i v).set (i + 1) .null
def xcnd (c : ClassFile.Cond) (x y : Int32) : Bool := match c with
  | .eq => decide (x = y)
  | .ne => !decide (x = y)
  | .lt => decide (x < y)
  | .ge => decide (y ≤ x)
  | .gt => decide (y < x)
  | .le => decide (x ≤ y)
/-- instructions on locals and stack alone -/
def xs1 (ins : ClassFile.Instr) (x : Int32) (a c : Nat) (ls st : List Value) : Option (List Value × List Value) :=
  match ins, c, st with
  | .iconst _, _, st => some (ls, .int x :: st)
  | .bipush _, _, st => some (ls, .int x :: st)
  | .sipush _, _, st => some (ls, .int x :: st)
  | .ldc_w _, _, st => some (ls, .int x :: st)
  | .ldc _, 0, st => some (ls, .int x :: st)
  | .ldc _, 1, st => if a < 2 then some (ls, .ref (xSTR + a) :: st) else none
  | .lconst _, _, st => some (ls, .long x.toInt64 :: st)
  | .ldc2_w _, _, st => some (ls, .long x.toInt64 :: st)
  | .iload_n _, _, st => match ls[a]? with
    | some (.int y) => some (ls, .int y :: st)
    | _ => none
  | .iload _, _, st => match ls[a]? with
    | some (.int y) => some (ls, .int y :: st)
    | _ => none
  | .lload_n _, _, st => match ls[a]? with
    | some (.long y) => some (ls, .long y :: st)
    | _ => none
  | .lload _, _, st => match ls[a]? with
    | some (.long y) => some (ls, .long y :: st)
    | _ => none
  | .aload_n _, _, st => match ls[a]? with
    | some (.ref y) => some (ls, .ref y :: st)
    | _ => none
  | .aload _, _, st => match ls[a]? with
    | some (.ref y) => some (ls, .ref y :: st)
    | _ => none
  | .istore_n _, _, .int y :: st => if a < ls.length then some (xset1 ls a (.int y), st) else none
  | .istore _, _, .int y :: st => if a < ls.length then some (xset1 ls a (.int y), st) else none
  | .astore_n _, _, .ref y :: st => if a < ls.length then some (xset1 ls a (.ref y), st) else none
  | .astore _, _, .ref y :: st => if a < ls.length then some (xset1 ls a (.ref y), st) else none
  | .lstore_n _, _, .long y :: st => if a + 1 < ls.length then some (xset2 ls a (.long y), st) else none
  | .lstore _, _, .long y :: st => if a + 1 < ls.length then some (xset2 ls a (.long y), st) else none
  | .iinc _ _, _, st => match ls[a]? with
    | some (.int y) => some (xset1 ls a (.int (y + x)), st)
    | _ => none
  | .iadd, _, .int y :: .int z :: st => some (ls, .int (z + y) :: st)
  | .isub, _, .int y :: .int z :: st => some (ls, .int (z - y) :: st)
  | .imul, _, .int y :: .int z :: st => some (ls, .int (z * y) :: st)
  | .idiv, _, .int y :: .int z :: st => if y = 0 then none else some (ls, .int (z / y) :: st)
  | .irem, _, .int y :: .int z :: st => if y = 0 then none else some (ls, .int (z - z / y * y) :: st)
  | .ineg, _, .int z :: st => some (ls, .int (-z) :: st)
  | .iand, _, .int y :: .int z :: st => some (ls, .int (z &&& y) :: st)
  | .ior, _, .int y :: .int z :: st => some (ls, .int (z ||| y) :: st)
  | .ixor, _, .int y :: .int z :: st => some (ls, .int (z ^^^ y) :: st)
  | .ishl, _, .int y :: .int z :: st => some (ls, .int (z <<< (y &&& 31)) :: st)
  | .ishr, _, .int y :: .int z :: st => some (ls, .int (z >>> (y &&& 31)) :: st)
  | .iushr, _, .int y :: .int z :: st => some (ls, .int (z.toUInt32 >>> (y.toUInt32 &&& Int32.toUInt32 31)).toInt32 :: st)
  | .ladd, _, .long y :: .long z :: st => some (ls, .long (z + y) :: st)
  | .lmul, _, .long y :: .long z :: st => some (ls, .long (z * y) :: st)
  | .ldiv, _, .long y :: .long z :: st => if y = 0 then none else some (ls, .long (z / y) :: st)
  | .lrem, _, .long y :: .long z :: st => if y = 0 then none else some (ls, .long (z - z / y * y) :: st)
  | .lcmp, _, .long y :: .long z :: st => some (ls, .int (lg_cmp z y) :: st)
  | .i2l, _, .int z :: st => some (ls, .long z.toInt64 :: st)
  | .l2i, _, .long z :: st => some (ls, .int z.toInt32 :: st)
  | .i2b, _, .int z :: st => some (ls, .int z.toInt8.toInt32 :: st)
  | .i2c, _, .int z :: st => some (ls, .int (z.toUInt32 % 65536).toInt32 :: st)
  | .dup, _, v :: st => if v.category = 1 then some (ls, v :: v :: st) else none
  | .dup2, _, v :: w :: st => if v.category = 1 ∧ w.category = 1 then some (ls, v :: w :: v :: w :: st) else none
  | .pop, _, v :: st => if v.category = 1 then some (ls, st) else none
  | _, _, _ => none
/-- where a jump goes -/
def xjmp (ins : ClassFile.Instr) (a nx pc : Nat) (st : List Value) : Option (Nat × List Value) :=
  match ins, st with
  | .goto _, st => some (a, st)
  | .ifCond c _, .int x :: st => some (bif xcnd c x 0 then a else nx, st)
  | .if_icmp c _, .int y :: .int x :: st => some (bif xcnd c x y then a else nx, st)
  | .tableswitch _ lo hi offs, .int x :: st => if x.toInt < lo ∨ hi < x.toInt then some (a, st) else
    match offs[(x.toInt - lo).toNat]? with
    | some off => some (((pc : Int) + off).toNat, st)
    | none => none
  | _, _ => none
/-- a cell of that class with a field there -/
def xobj (sh : XSh) (o ci b : Nat) : Option (List (Option Nat)) := match sh[o]? with
  | some (k, n, rs) => if k = 5 + ci ∧ b < n then some rs else none
  | none => none
/-- a row of that kind: its length -/
def xarr (sh : XSh) (o k : Nat) : Option Nat := match sh[o]? with
  | some (k', n, _) => if k' = k then some n else none
  | none => none
def xnarz (x : Int32) : Bool := decide (x = 0) || decide (x = 1)
/-- instructions that look at cells or write numbers into them; the shape stays -/
def xs2 (X : XX) (ins : ClassFile.Instr) (a b c : Nat) (h : XHp) (st : List Value) : Option (List Value × XHp) :=
  match ins, c, st with
  | .getfield _, 0, .ref o :: st => match xobj h.1 o a b with
    | some _ => some (.int (h.2.1 o b) :: st, h)
    | none => none
  | .getfield _, 10, .ref o :: st => match xobj h.1 o a b with
    | some _ => some (.int (h.2.1 o b) :: st, h)
    | none => none
  | .getfield _, 2, .ref o :: st => match xobj h.1 o a b with
    | some rs => match rs.getD b none with
      | some r => some (.ref r :: st, h)
      | none => none
    | none => none
  | .getfield _, 12, .ref o :: st => match xobj h.1 o a b with
    | some rs => match rs.getD b none with
      | some r => some (.ref r :: st, h)
      | none => none
    | none => none
  | .getfield _, 3, .ref o :: st => if xSTR ≤ o ∧ o < xSTR + 2 then some (.ref (xSTV + (o - xSTR)) :: st, h) else none
  | .getfield _, 4, .ref o :: st => if xSTR ≤ o ∧ o < xSTR + 2 then some (.int 0 :: st, h) else none
  | .getstatic _, 5, st => some (.int 1 :: st, h)
  | .getstatic _, 6, st => some (.float 0 :: st, h)
  | .putfield _, 0, .int y :: .ref o :: st => match xobj h.1 o a b with
    | some _ => some (st, h.1, xrow h.2.1 o (upd (h.2.1 o) b y), h.2.2)
    | none => none
  | .putfield _, 10, .int y :: .ref o :: st => match xobj h.1 o a b with
    | some _ => some (st, h.1, xrow h.2.1 o (upd (h.2.1 o) b y), h.2.2)
    | none => none
  | .putfield _, 1, .int y :: .ref o :: st => match xobj h.1 o a b with
    | some _ => if xnarz y = true then some (st, h.1, xrow h.2.1 o (upd (h.2.1 o) b y), h.2.2) else none
    | none => none
  | .iaload, _, .int i :: .ref o :: st => match xarr h.1 o 0 with
    | some n => if xin i n = true then some (.int (h.2.1 o i.toNatClampNeg) :: st, h) else none
    | none => if o = xSCR ∧ xin i X.1 = true then some (.int (X.2 i.toNatClampNeg) :: st, h) else none
  | .baload, _, .int i :: .ref o :: st => match xarr h.1 o 1 with
    | some n => if xin i n = true then some (.int (h.2.1 o i.toNatClampNeg) :: st, h) else none
    | none => match xarr h.1 o 2 with
      | some n => if xin i n = true then some (.int (h.2.1 o i.toNatClampNeg) :: st, h) else none
      | none => if (xSTV ≤ o ∧ o < xSTV + 2) ∧ xin i (xstr (o - xSTV)).length = true then some (.int ((xstr (o - xSTV)).getD i.toNatClampNeg 0) :: st, h) else none
  | .laload, _, .int i :: .ref o :: st => match xarr h.1 o 3 with
    | some n => if xin i n = true then some (.long (h.2.2 o i.toNatClampNeg) :: st, h) else none
    | none => none
  | .aaload, _, .int i :: .ref o :: st => match h.1[o]? with
    | some (4, n, rs) => if xin i n = true then match rs.getD i.toNatClampNeg none with
      | some r => some (.ref r :: st, h)
      | none => none else none
    | _ => none
  | .iastore, _, .int y :: .int i :: .ref o :: st => match xarr h.1 o 0 with
    | some n => if xin i n = true then some (st, h.1, xrow h.2.1 o (upd (h.2.1 o) i.toNatClampNeg y), h.2.2) else none
    | none => none
  | .bastore, _, .int y :: .int i :: .ref o :: st => match xarr h.1 o 1 with
    | some n => if xin i n = true then some (st, h.1, xrow h.2.1 o (upd (h.2.1 o) i.toNatClampNeg y.toInt8.toInt32), h.2.2) else none
    | none => match xarr h.1 o 2 with
      | some n => if xin i n = true then some (st, h.1, xrow h.2.1 o (upd (h.2.1 o) i.toNatClampNeg (y &&& 1)), h.2.2) else none
      | none => none
  | .lastore, _, .long y :: .int i :: .ref o :: st => match xarr h.1 o 3 with
    | some n => if xin i n = true then some (st, h.1, h.2.1, xrow h.2.2 o (vp_updL (h.2.2 o) i.toNatClampNeg y)) else none
    | none => none
  | .arraylength, _, .ref o :: st => match h.1[o]? with
    | some (k, n, _) => if k < 5 then some (.int (Int32.ofNat n) :: st, h) else none
    | none => if o = xSCR then some (.int (Int32.ofNat X.1) :: st, h) else if xSTV ≤ o ∧ o < xSTV + 2 then some (.int (Int32.ofNat (xstr (o - xSTV)).length) :: st, h) else none
  | .invokestatic _, 2, .int n :: .int dp :: .ref o2 :: .int sp :: .ref o1 :: st => match xarr h.1 o1 0, xarr h.1 o2 0 with
    | some n1, some n2 => if (¬ sp < 0 ∧ ¬ dp < 0 ∧ ¬ n < 0 ∧ sp.toNatClampNeg + n.toNatClampNeg ≤ n1 ∧ dp.toNatClampNeg + n.toNatClampNeg ≤ n2) ∧ (st.map fun v => v.category).sum ≤ 8 then
        some (st, h.1, xrow h.2.1 o2 (va_cpy (h.2.1 o1) (h.2.1 o2) sp.toNatClampNeg dp.toNatClampNeg n.toNatClampNeg), h.2.2) else none
    | _, _ => none
  | .invokestatic _, 3, .int y :: .int x :: st => if (st.map fun v => v.category).sum ≤ 8 then some (.int (if x < y then y else x) :: st, h) else none
  | .invokestatic _, 4, .int y :: .int x :: st => if (st.map fun v => v.category).sum ≤ 8 then some (.int (if y < x then y else x) :: st, h) else none
  | .invokespecial _, 1, .ref o :: st => if (st.map fun v => v.category).sum ≤ 8 then some (st, h) else none
  | _, _, _ => none
/-- a reference that the shape, or the world outside, has -/
def xokv (len : Nat) (v : Value) : Bool := match v with
  | .ref r => decide (r < len) || decide (1000000 ≤ r)
  | _ => true
def xoks (len : Nat) (vs : List Value) : Bool := vs.all (xokv len)
def xokh (sh : XSh) : Bool := decide (sh.length < 1000000) && sh.all (fun e => e.2.2.all (fun o => match o with
  | some r => decide (r < sh.length)
  | none => true))
/-- instructions that make cells, or write references -/
def xs3 (ins : ClassFile.Instr) (a b c : Nat) (h : XHp) (ls st : List Value) : Option (List Value × XHp) :=
  match ins, c, st with
  | .new _, _, st => if xokh h.1 = true ∧ xoks h.1.length (ls ++ st) = true then some (.ref h.1.length :: st, h.1 ++ [(5 + a, b, List.replicate b none)], xrow h.2.1 h.1.length (fun _ => 0), xrow h.2.2 h.1.length (fun _ => 0)) else none
  | .newarray _, _, .int n :: st => if (xokh h.1 = true ∧ xoks h.1.length (ls ++ st) = true) ∧ (¬ n < 0 ∧ n.toNatClampNeg ≤ 60000000) then
      some (.ref h.1.length :: st, h.1 ++ [(a, n.toNatClampNeg, [])], xrow h.2.1 h.1.length (fun _ => 0), xrow h.2.2 h.1.length (fun _ => 0)) else none
  | .anewarray _, _, .int n :: st => if (xokh h.1 = true ∧ xoks h.1.length (ls ++ st) = true) ∧ (¬ n < 0 ∧ n.toNatClampNeg ≤ 60000000) then
      some (.ref h.1.length :: st, h.1 ++ [(4, n.toNatClampNeg, List.replicate n.toNatClampNeg none)], xrow h.2.1 h.1.length (fun _ => 0), xrow h.2.2 h.1.length (fun _ => 0)) else none
  | .putfield _, 2, .ref r :: .ref o :: st => match h.1[o]? with
    | some (k, n, rs) => if (k = 5 + a ∧ b < n) ∧ (b < rs.length ∧ r < h.1.length) then some (st, h.1.set o (k, n, rs.set b (some r)), h.2) else none
    | none => none
  | .aastore, _, .ref r :: .int i :: .ref o :: st => match h.1[o]?, h.1[r]? with
    | some (4, n, rs), some (k, _, _) => if (k = 5 + xciT ∧ xin i n = true) ∧ i.toNatClampNeg < rs.length then some (st, h.1.set o (4, n, rs.set i.toNatClampNeg (some r)), h.2) else none
    | _, _ => none
  | _, _, _ => none
def xsl (vs : List Value) : List Value := vs.flatMap fun v => if v.category = 2 then [v, .null] else [v]
def xent (vs : List Value) (n : Nat) : List Value := xsl vs ++ List.replicate (n - (xsl vs).length) .null
def xnar (c : Nat) (y : Int32) : Bool := match c with
  | 0 => true
  | 1 => xnarz y
  | 2 => decide (y.toInt8.toInt32 = y)
  | _ => decide (y.toUInt32.toUInt16.toUInt32.toInt32 = y)
def xret (ins : ClassFile.Instr) (c : Nat) (st : List Value) : Option (Option Value) := match ins, st with
  | .ireturn, [.int y] => if xnar c y = true then some (some (.int y)) else none
  | .lreturn, [.long y] => some (some (.long y))
  | .return_, [] => some none
  | _, _ => none
/-- a call: what the receiver must be -/
def xcall (ins : ClassFile.Instr) (c : Nat) : Option Nat := match ins, c with
  | .invokestatic _, 20 => some 0
  | .invokestatic _, 30 => some 0
  | .invokevirtual _, 40 => some 1
  | .invokespecial _, 60 => some 2
  | .invokespecial _, 70 => some 2
  | _, _ => none
/-- a receiver of the method's class -/
def xrecv (sh : XSh) (oc : Nat) (v : Option Value) : Bool := match v with
  | some (.ref o) => match sh[o]? with
    | some (k, _, _) => decide (k = 5 + oc)
    | none => decide (xSTR ≤ o ∧ o < xSTR + 2) && Nat.beq oc xocS
  | _ => false
