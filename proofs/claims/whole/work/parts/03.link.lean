/-! what each instruction of a listing must be, for the pure machine's one to stand for it -/
def cnN : Jvm.ClassFile.Cond → Nat
  | .eq => 0 | .ne => 1 | .lt => 2 | .ge => 3 | .gt => 4 | .le => 5
def acN : Jvm.ClassFile.ACond → Nat
  | .eq => 0 | .ne => 1
def toB (sts : List Nat) (b : Nat) (pc : Nat) (off : Int) : Bool := match sts[b]? with | some t => decide ((pc : Int) + off = (t : Int)) | none => false
def lkSw (sts : List Nat) (pc : Nat) : List (Int × Int) → List Nat → Bool
  | [], [] => true
  | (k, off) :: ps, k' :: b :: t => decide (k = (k' : Int)) && decide (k < 2147483648) && toB sts b pc off && lkSw sts pc ps t
  | _, _ => false
def lkT (sts : List Nat) (pc : Nat) : List Int → List Nat → Bool
  | [], [] => true
  | off :: ps, b :: t => toB sts b pc off && lkT sts pc ps t
  | _, _ => false
def fkN : FieldType → Nat
  | .int => 0 | .boolean => 1 | .long => 2 | _ => 3
def lk1 (own : Nat) (isIn : Bool) (pc : Nat) (sts : List Nat) (ins : Instr) (len : Nat) (op : Nat) (as : List Nat) (z : Int) : Bool :=
  match ins with
  | .aconst_null => op == 2 && len == 1
  | .aload i => op == 5 && as == [i] && len == 2
  | .aload_n k => op == 5 && as == [k.val] && len == 1
  | .iload i => op == 3 && as == [i] && len == 2
  | .iload_n k => op == 3 && as == [k.val] && len == 1
  | .lload i => op == 4 && as == [i] && len == 2
  | .lload_n k => op == 4 && as == [k.val] && len == 1
  | .istore i => op == 6 && as == [i] && len == 2
  | .istore_n k => op == 6 && as == [k.val] && len == 1
  | .lstore i => op == 7 && as == [i] && len == 2
  | .lstore_n k => op == 7 && as == [k.val] && len == 1
  | .astore i => op == 8 && as == [i] && len == 2
  | .astore_n k => op == 8 && as == [k.val] && len == 1
  | .iinc i n => op == 9 && as == [i] && z == n && len == 3
  | .iconst n => op == 0 && z == n && len == 1
  | .bipush n => op == 0 && decide ((Int8.ofInt n).toInt32 = Int32.ofInt z) && len == 2
  | .sipush n => op == 0 && decide ((Int16.ofInt n).toInt32 = Int32.ofInt z) && len == 3
  | .lconst k => op == 1 && decide (z = (k.val : Int)) && len == 1
  | .ldc i => op == 0 && len == 2 && CIT.any (fun q => q.1 == own && q.2.1 == i && q.2.2.1 == z)
  | .ldc_w i => op == 0 && len == 3 && CIT.any (fun q => q.1 == own && q.2.1 == i && q.2.2.1 == z)
  | .ldc2_w i => op == 1 && len == 3 && CLT.any (fun q => q.1 == own && q.2.1 == i && q.2.2.1 == z)
  | .dup => op == 10 && len == 1
  | .dup2 => op == 11 && len == 1
  | .pop => op == 12 && len == 1
  | .pop2 => op == 13 && len == 1
  | .iadd => op == 20 && len == 1
  | .isub => op == 21 && len == 1
  | .imul => op == 22 && len == 1
  | .idiv => op == 23 && len == 1
  | .irem => op == 24 && len == 1
  | .ishl => op == 25 && len == 1
  | .ishr => op == 26 && len == 1
  | .iushr => op == 27 && len == 1
  | .iand => op == 28 && len == 1
  | .ior => op == 29 && len == 1
  | .ixor => op == 30 && len == 1
  | .ineg => op == 35 && len == 1
  | .i2b => op == 36 && len == 1
  | .i2l => op == 37 && len == 1
  | .i2c => op == 38 && len == 1
  | .ladd => op == 40 && len == 1
  | .lsub => op == 41 && len == 1
  | .lmul => op == 42 && len == 1
  | .ldiv => op == 43 && len == 1
  | .lrem => op == 44 && len == 1
  | .land => op == 45 && len == 1
  | .lcmp => op == 46 && len == 1
  | .lneg => op == 55 && len == 1
  | .l2i => op == 56 && len == 1
  | .getfield i => op == 60 && len == 3 && FLT.any (fun q => q.1 == own && q.2.1 == i && as == [q.2.2.2.1, q.2.2.1])
  | .putfield i => op == 61 && len == 3 && FLT.any (fun q => q.1 == own && q.2.1 == i && as == [q.2.2.2.1, fkN (myTy q.2.2.1 q.2.2.2.1), q.2.2.1] && (!(clT q.2.2.1 q.2.2.2.1).2.2.2 || (isIn && own == q.2.2.1)))
  | .iaload => op == 62 && len == 1
  | .iastore => op == 63 && len == 1
  | .laload => op == 64 && len == 1
  | .lastore => op == 65 && len == 1
  | .baload => op == 66 && len == 1
  | .bastore => op == 67 && len == 1
  | .arraylength => op == 68 && len == 1
  | .new i => op == 69 && len == 3 && NLT.any (fun q => q.1 == own && q.2.1 == i && (match as with | c :: _ :: ts => c == q.2.2.1 && ts == (myTys.getD c []).map fkN | _ => false))
  | .newarray t => op == 70 && len == 2 && as == [match t with | .int => 0 | .byte => 1 | .boolean => 2 | .long => 3 | _ => 9]
  | .invokespecial i => len == 3 && ((op == 129 && OLT.any (fun q => q.1 == own && q.2.1 == i)) || (op == 120 && MLT.any (fun q => q.1 == own && q.2.1 == i && (q.2.2.2.1 == 2 || q.2.2.2.1 == 5) && as == [q.2.2.1, (MK.getD q.2.2.1 (0, 0)).2])))
  | .invokevirtual i => len == 3 && op == 120 && MLT.any (fun q => q.1 == own && q.2.1 == i && (q.2.2.2.1 == 0 || q.2.2.2.1 == 3) && as == [q.2.2.1, (MK.getD q.2.2.1 (0, 0)).2])
  | .invokestatic i => len == 3 && op == 120 && MLT.any (fun q => q.1 == own && q.2.1 == i && (q.2.2.2.1 == 1 || q.2.2.2.1 == 4) && as == [q.2.2.1, (MK.getD q.2.2.1 (0, 0)).2])
  | .goto off => op == 100 && len == 3 && (match as with | [b] => toB sts b pc off | _ => false)
  | .ifCond c off => op == 101 && len == 3 && (match as with | [c', b] => c' == cnN c && toB sts b pc off | _ => false)
  | .if_icmp c off => op == 102 && len == 3 && (match as with | [c', b] => c' == cnN c && toB sts b pc off | _ => false)
  | .if_acmp c off => op == 103 && len == 3 && (match as with | [c', b] => c' == acN c && toB sts b pc off | _ => false)
  | .ifnull off => op == 104 && len == 3 && (match as with | [c', b] => c' == 0 && toB sts b pc off | _ => false)
  | .ifnonnull off => op == 104 && len == 3 && (match as with | [c', b] => c' == 1 && toB sts b pc off | _ => false)
  | .tableswitch d lo hi offs => op == 105 && (match as with | b :: bs => toB sts b pc d && lkT sts pc offs.toList bs | _ => false) && z == lo && decide (hi - lo + 1 = (offs.size : Int))
  | .lookupswitch d ps => op == 106 && (match as with | b :: bs => toB sts b pc d && lkSw sts pc ps.toList bs | _ => false) && (ps.toList.zip (ps.toList.drop 1)).all (fun (a, next) => a.1 < next.1)
  | .return_ => op == 110 && len == 1
  | .ireturn => op == 111 && len == 1
  | .lreturn => op == 112 && len == 1
  | .areturn => op == 113 && len == 1
  | _ => false
/-- what stands for static members: 80 to 86 -/
def lkS (own : Nat) (ins : Instr) (len : Nat) (op : Nat) (as : List Nat) : Bool :=
  match ins with
  | .getstatic i => len == 3 && ((op == 80 && (match as with | [s] => SLT.any (fun q => q.1 == own && q.2.1 == i && q.2.2 == s) | _ => false)) || (op == 86 && QCT.any (fun q => q.1 == own && q.2 == i)))
  | .ldc i => op == 80 && len == 2 && as == [22, i] && own == 11 && i == KTXT
  | .getfield i => len == 3 && (match as with | [k] => (op == 81 && WLT.any (fun q => q.1 == own && q.2.1 == i && q.2.2 == k)) || (op == 85 && QLT.any (fun q => q.1 == own && q.2.1 == i && q.2.2 == k)) | _ => false)
  | .aaload => op == 82 && len == 1
  | .iaload => op == 83 && len == 1
  | .baload => op == 87 && len == 1
  | .arraylength => op == 84 && len == 1
  | .invokestatic i => len == 3 && ((MLK.any (fun q => q.1 == own && q.2.1 == i && q.2.2.1 == op) && decide (121 ≤ op) && decide (op ≤ 126)) || (op == 127 && KCI.any (fun q => q.1 == own && q.2 == i)))
  | _ => false
def lkb (own : Nat) (isIn : Bool) (cc : ByteArray) (sts : List Nat) : Nat → List PI → Bool
  | _, [] => true
  | pc, (op, as, z) :: r =>
    if op = 107 then match as with | [b] => decide (sts[b]? = some pc) | _ => false
    else match decode cc pc with
      | .ok (ins, len) => (if (80 ≤ op ∧ op < 90) ∨ (121 ≤ op ∧ op < 129) then lkS own ins len op as else lk1 own isIn pc sts ins len op as z) && lkb own isIn cc sts (pc + len) r
      | .error _ => false
def lkBs (own : Nat) (isIn : Bool) (cc : ByteArray) (sts : List Nat) : List Nat → List (List PI) → Bool
  | [], [] => true
  | p :: ps, b :: bs => lkb own isIn cc sts p b && lkBs own isIn cc sts ps bs
  | _, _ => false
/-- a method's kind of answer: int 0, boolean 1, long 2, none 3 .. -/
def retOk (ret : Option FieldType) (op : Nat) (as : List Nat) : Bool := match ret with
  | none => op == 110
  | some .int => op == 111 && as == [0]
  | some .boolean => op == 111 && as == [1]
  | some .char => op == 111 && as == [2]
  | some .byte => op == 111 && as == [3]
  | some .long => op == 112
  | some (.object _) => op == 113
  | _ => false
def retsOk (ret : Option FieldType) (bs : List (List PI)) : Bool := bs.all (fun b => b.all (fun q => !(decide (110 ≤ q.1) && decide (q.1 < 120)) || retOk ret q.1 q.2.1))
def lkM (q : mrec) : Bool := lkBs q.2.1 (q.1.name == "<init>") q.2.2.1 q.2.2.2.2.2.1 q.2.2.2.2.2.1 q.2.2.2.2.2.2 && retsOk q.2.2.2.2.1 q.2.2.2.2.2.2 && decide (q.2.2.2.1 ≤ 21) && decide (q.2.2.2.2.2.1.head? = some 0)
