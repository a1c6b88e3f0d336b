/-! The tables are what the class files say: each instruction by its decoding, each link by its word. -/
def cnd : Jvm.ClassFile.Cond → Nat
  | .eq => 0 | .ne => 1 | .lt => 2 | .ge => 3 | .gt => 4 | .le => 5
def natT : Nat → ArrayType
  | 0 => .int | 1 => .byte | 2 => .char | _ => .long
def ckConst (i : Nat) (e : Nat) (vi : Int32) (ins : Instr) (len : Nat) : Bool := match ins with
  | .iconst n => Nat.beq len 1 && decide (Int32.ofInt n = vi)
  | .bipush n => Nat.beq len 2 && decide ((Int8.ofInt n).toInt32 = vi)
  | .sipush n => Nat.beq len 3 && decide ((Int16.ofInt n).toInt32 = vi)
  | .ldc n => Nat.beq len 2 && decide (wt e = some (Jvm.Cond.constant (cN (mCls i)) n vi))
  | .ldc_w n => Nat.beq len 3 && decide (wt e = some (Jvm.Cond.constant (cN (mCls i)) n vi))
  | _ => false
def ckConstL (i : Nat) (e : Nat) (vl : Int64) (ins : Instr) (len : Nat) : Bool := match ins with
  | .lconst n => Nat.beq len 1 && decide (Int64.ofNat (n : Nat) = vl)
  | .ldc2_w n => Nat.beq len 3 && decide (wt e = some (Jvm.Cond.constantLong (cN (mCls i)) n vl))
  | _ => false
def ckStr (i b : Nat) (ins : Instr) (len : Nat) : Bool := match ins with
  | .ldc n => Nat.beq len 2 && Nat.blt b nStr && Nat.beq (strE b).1 (mCls i) && Nat.beq (strE b).2.1 n
  | _ => false
def ckIload (b : Nat) (ins : Instr) (len : Nat) : Bool := match ins with
  | .iload n => Nat.beq len 2 && Nat.beq n b
  | .iload_n n => Nat.beq len 1 && Nat.beq (n : Nat) b
  | _ => false
def ckLload (b : Nat) (ins : Instr) (len : Nat) : Bool := match ins with
  | .lload n => Nat.beq len 2 && Nat.beq n b
  | .lload_n n => Nat.beq len 1 && Nat.beq (n : Nat) b
  | _ => false
def ckAload (b : Nat) (ins : Instr) (len : Nat) : Bool := match ins with
  | .aload n => Nat.beq len 2 && Nat.beq n b
  | .aload_n n => Nat.beq len 1 && Nat.beq (n : Nat) b
  | _ => false
def ckIstore (i b : Nat) (ins : Instr) (len : Nat) : Bool := Nat.blt b (mMax i) && (match ins with
  | .istore n => Nat.beq len 2 && Nat.beq n b
  | .istore_n n => Nat.beq len 1 && Nat.beq (n : Nat) b
  | _ => false)
def ckLstore (i b : Nat) (ins : Instr) (len : Nat) : Bool := Nat.blt (b + 1) (mMax i) && (match ins with
  | .lstore n => Nat.beq len 2 && Nat.beq n b
  | .lstore_n n => Nat.beq len 1 && Nat.beq (n : Nat) b
  | _ => false)
def ckAstore (i b : Nat) (ins : Instr) (len : Nat) : Bool := Nat.blt b (mMax i) && (match ins with
  | .astore n => Nat.beq len 2 && Nat.beq n b
  | .astore_n n => Nat.beq len 1 && Nat.beq (n : Nat) b
  | _ => false)
def ckIinc (i b : Nat) (vi : Int32) (ins : Instr) (len : Nat) : Bool := Nat.blt b (mMax i) && (match ins with
  | .iinc n z => Nat.beq len 3 && Nat.beq n b && decide (Int32.ofInt z = vi)
  | _ => false)
/-- instructions without operands, by their tag -/
def plainI : Nat → Option Instr
  | 10 => some .iadd | 11 => some .isub | 12 => some .imul | 13 => some .idiv | 14 => some .irem | 15 => some .iand | 16 => some .ior | 17 => some .ixor
  | 18 => some .ishl | 19 => some .ishr | 20 => some .iushr | 21 => some .ineg | 22 => some .ladd | 23 => some .lsub | 24 => some .lmul | 25 => some .ldiv | 26 => some .lrem
  | 27 => some .land | 28 => some .i2l | 29 => some .l2i | 30 => some .i2b | 31 => some .i2c | 32 => some .lcmp | 33 => some .pop | 34 => some .dup | 35 => some .dup2
  | 70 => some .iaload | 71 => some .baload | 72 => some .caload | 73 => some .laload | 74 => some .aaload | 75 => some .iastore | 76 => some .bastore | 77 => some .castore
  | 78 => some .lastore | 79 => some .aastore | 80 => some .arraylength | 100 => some .ireturn | 101 => some .lreturn | 102 => some .areturn | 103 => some .return_
  | _ => none
def ckIf (pc b k : Nat) (ins : Instr) (len : Nat) : Bool := match ins with
  | .ifCond q o => Nat.beq len 3 && Nat.beq (cnd q) k && decide ((pc : Int) + o = (b : Int))
  | _ => false
def ckIcmp (pc b k : Nat) (ins : Instr) (len : Nat) : Bool := match ins with
  | .if_icmp q o => Nat.beq len 3 && Nat.beq (cnd q) k && decide ((pc : Int) + o = (b : Int))
  | _ => false
def ckGoto (pc b : Nat) (ins : Instr) (len : Nat) : Bool := match ins with
  | .goto o => Nat.beq len 3 && decide ((pc : Int) + o = (b : Int))
  | _ => false
def ckGet (i k b c e : Nat) (ins : Instr) (len : Nat) : Bool := match ins with
  | .getfield n => Nat.beq len 3 && Nat.blt e nFld && Nat.beq (fldE e).1 (mCls i) && Nat.beq (fldE e).2.1 n && Nat.beq (fldE e).2.2.1 b && Nat.beq (fldE e).2.2.2.1 c && Nat.beq (fk b c) k
  | _ => false
def ckPut (i k b c e : Nat) (ins : Instr) (len : Nat) : Bool := match ins with
  | .putfield n => Nat.beq len 3 && Nat.blt e nFld && Nat.beq (fldE e).1 (mCls i) && Nat.beq (fldE e).2.1 n && Nat.beq (fldE e).2.2.1 b && Nat.beq (fldE e).2.2.2.1 c && Nat.beq (fk b c) k
  | _ => false
def ckGetS (i e : Nat) (f d : String) (ins : Instr) (len : Nat) : Bool := match ins with
  | .getfield n => Nat.beq len 3 && decide (wt e = some (Jvm.Cond.fieldLink (cN (mCls i)) n "java/lang/String" f d)) && Nat.beq (mCls i) 12
  | _ => false
def ckStat (i b e : Nat) (ins : Instr) (len : Nat) : Bool := match ins with
  | .getstatic n => Nat.beq len 3 && (bif Nat.beq b 0 then decide (wt e = some (Jvm.Cond.fieldLink (cN (mCls i)) n "java/lang/String" "COMPACT_STRINGS" "Z"))
      else decide (wt e = some (Jvm.Cond.fieldLink (cN (mCls i)) n "jdk/internal/util/Preconditions" "SIOOBE_FORMATTER" "Ljava/util/function/BiFunction;")))
  | _ => false
def ckCall (i b c e : Nat) (ins : Instr) (len : Nat) : Bool := Nat.beq len 3 && Nat.blt e nMet && Nat.beq (metE e).1 (mCls i) && Nat.beq (metE e).2.2.1 b && Nat.beq (metE e).2.2.2.1 c && (match ins with
  | .invokevirtual n => Nat.beq (metE e).2.1 n && (Nat.beq c 0 || Nat.beq c 3)
  | .invokestatic n => Nat.beq (metE e).2.1 n && (Nat.beq c 1 || Nat.beq c 4 || Nat.beq c 8)
  | .invokespecial n => Nat.beq (metE e).2.1 n && (Nat.beq c 2 || Nat.beq c 5 || Nat.beq c 9)
  | _ => false)
def ckNew (i b e : Nat) (ins : Instr) (len : Nat) : Bool := match ins with
  | .new n => Nat.beq len 3 && Nat.blt b 11 && decide (wt e = some (Jvm.Cond.classLink (cN (mCls i)) n (cN b)))
  | _ => false
def ckNewa (b : Nat) (ins : Instr) (len : Nat) : Bool := match ins with
  | .newarray t => Nat.beq len 2 && Nat.blt b 4 && decide (t = natT b)
  | _ => false
def ckANew (i e : Nat) (ins : Instr) (len : Nat) : Bool := match ins with
  | .anewarray n => Nat.beq len 3 && decide (wt e = some (Jvm.Cond.classLink (cN (mCls i)) n "DeepBathing$Moment"))
  | _ => false
def ckMulti (i e : Nat) (ins : Instr) (len : Nat) : Bool := match ins with
  | .multianewarray n k => Nat.beq len 4 && Nat.beq k 2 && decide (wt e = some (Jvm.Cond.classLink (cN (mCls i)) n "[[I"))
  | _ => false
def ckTab (pc b : Nat) (ins : Instr) : Bool := match ins with
  | .tableswitch d lo hi offs => (match swE b with
    | some (l0, ts, t) => decide (l0 = lo ∧ hi = lo + (ts.length : Int) - 1 ∧ offs.toList.map (fun o => (pc : Int) + o) = ts.map (fun q => (q.2 : Int)) ∧ (pc : Int) + d = (t : Int) ∧ ts.map Prod.fst = (List.range ts.length).map (fun k : Nat => lo + (k : Int)))
    | none => false)
  | _ => false
def ckLook (pc b : Nat) (ins : Instr) : Bool := match ins with
  | .lookupswitch d ps => (match swE b with
    | some (_, ts, t) => decide (ps.toList.map (fun q => (q.1, (pc : Int) + q.2)) = ts.map (fun q => (q.1, (q.2 : Int))) ∧ (pc : Int) + d = (t : Int)) && (ps.toList.zip (ps.toList.drop 1)).all (fun (a, next) => a.1 < next.1)
    | none => false)
  | _ => false
def ckI (i pc tag b c e : Nat) (vi : Int32) (vl : Int64) (ins : Instr) (len : Nat) : Bool :=
  match tag with
  | 0 => ckConst i e vi ins len
  | 1 => ckConstL i e vl ins len
  | 2 => ckStr i b ins len
  | 3 => ckIload b ins len
  | 4 => ckLload b ins len
  | 5 => ckAload b ins len
  | 6 => ckIstore i b ins len
  | 7 => ckLstore i b ins len
  | 8 => ckAstore i b ins len
  | 9 => ckIinc i b vi ins len
  | 40 => ckIf pc b 0 ins len | 41 => ckIf pc b 1 ins len | 42 => ckIf pc b 2 ins len | 43 => ckIf pc b 3 ins len | 44 => ckIf pc b 4 ins len | 45 => ckIf pc b 5 ins len
  | 50 => ckIcmp pc b 0 ins len | 51 => ckIcmp pc b 1 ins len | 52 => ckIcmp pc b 2 ins len | 53 => ckIcmp pc b 3 ins len | 54 => ckIcmp pc b 4 ins len | 55 => ckIcmp pc b 5 ins len
  | 56 => ckGoto pc b ins len
  | 60 => ckGet i 0 b c e ins len | 61 => ckGet i 1 b c e ins len | 62 => ckGet i 2 b c e ins len
  | 63 => ckPut i 0 b c e ins len | 64 => ckPut i 1 b c e ins len | 67 => ckPut i 2 b c e ins len
  | 65 => ckGetS i e "value" "[B" ins len | 66 => ckGetS i e "coder" "B" ins len
  | 90 => ckCall i b c e ins len
  | 110 => ckNew i b e ins len | 111 => ckNewa b ins len | 112 => ckANew i e ins len | 113 => ckMulti i e ins len
  | 120 => ckTab pc b ins | 121 => ckLook pc b ins
  | 130 => ckStat i b e ins len
  | t => Nat.beq len 1 && decide (plainI t = some ins)
def ckOp (i pc : Nat) : Bool := match opT i pc with
  | none => true
  | some (tag, b, c, e, nx, vi, vl) => (match decode (mCode i) pc with
    | .ok (ins, len) => Nat.beq nx (pc + len) && ckI i pc tag b c e vi vl ins len
    | .error _ => false)
def ckM (i : Nat) : Bool := (List.range (mLen i)).all (ckOp i)
def ckMs (a n : Nat) : Bool := (List.range n).all (fun k => ckM (a + k))
theorem ck_0 : ckMs 0 18 = true := by decide +kernel
theorem ck_1 : ckMs 18 13 = true := by decide +kernel
theorem ck_2 : ckMs 31 21 = true := by decide +kernel
theorem ck_3 : ckMs 52 21 = true := by decide +kernel
theorem ck_4 : ckMs 73 23 = true := by decide +kernel
theorem ck_5 : ckMs 96 16 = true := by decide +kernel
theorem ck_6 : ckMs 112 25 = true := by decide +kernel
theorem ck_7 : ckMs 137 25 = true := by decide +kernel
theorem ck_9 : ckMs 163 19 = true := by decide +kernel
theorem ck_10 : ckMs 182 22 = true := by decide +kernel
theorem ck_11 : ckMs 204 21 = true := by decide +kernel
theorem ck_12 : ckMs 225 18 = true := by decide +kernel
theorem ck_13 : ckMs 243 20 = true := by decide +kernel
theorem ck_14 : ckMs 263 14 = true := by decide +kernel
theorem ck_15 : ckMs 277 13 = true := by decide +kernel
theorem ck_16 : ckMs 290 8 = true := by decide +kernel
theorem ck_18 : ckMs 299 13 = true := by decide +kernel
