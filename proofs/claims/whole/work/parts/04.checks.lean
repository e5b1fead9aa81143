/-! what the kernel checks of the code tables, once: each row is the method's own instruction, and its words stand in the tables -/
def xclN (ci : Nat) : String := (vwCl.getD ci ("", TX0, 0)).1
def xclT (ci : Nat) : u_T := (vwCl.getD ci ("", TX0, 0)).2.1
def xlen (i : Instr) (len : Nat) : Bool := match i with
  | .iconst _ => len == 1 | .bipush _ => len == 2 | .sipush _ => len == 3 | .lconst _ => len == 1 | .ldc _ => len == 2 | .ldc_w _ => len == 3 | .ldc2_w _ => len == 3
  | .iload _ => len == 2 | .iload_n _ => len == 1 | .lload _ => len == 2 | .lload_n _ => len == 1 | .aload _ => len == 2 | .aload_n _ => len == 1
  | .istore _ => len == 2 | .istore_n _ => len == 1 | .lstore _ => len == 2 | .astore _ => len == 2 | .astore_n _ => len == 1 | .iinc _ _ => len == 3
  | .iadd => len == 1 | .isub => len == 1 | .imul => len == 1 | .iand => len == 1 | .ior => len == 1 | .ixor => len == 1 | .ishl => len == 1 | .ishr => len == 1 | .iushr => len == 1 | .idiv => len == 1 | .irem => len == 1
  | .ladd => len == 1 | .lsub => len == 1 | .lmul => len == 1 | .land => len == 1 | .lor => len == 1 | .ldiv => len == 1 | .lshl => len == 1 | .lcmp => len == 1 | .i2l => len == 1 | .i2b => len == 1 | .i2c => len == 1 | .pop => len == 1 | .dup => len == 1 | .dup2 => len == 1
  | .ifCond _ _ => len == 3 | .if_icmp _ _ => len == 3 | .goto _ => len == 3 | .tableswitch _ _ _ _ => true
  | .getfield _ => len == 3 | .putfield _ => len == 3 | .getstatic _ => len == 3 | .iaload => len == 1 | .baload => len == 1 | .aaload => len == 1 | .iastore => len == 1 | .bastore => len == 1 | .aastore => len == 1 | .arraylength => len == 1
  | .new _ => len == 3 | .newarray _ => len == 2 | .anewarray _ => len == 3 | .invokespecial _ => len == 3 | .invokestatic _ => len == 3 | .invokevirtual _ => len == 3
  | .ireturn => len == 1 | .lreturn => len == 1 | .areturn => len == 1 | .return_ => len == 1 | .athrow => true
  | _ => false
def xokW (z : Nat) (k : XRow) : Bool := match k with
  | (pc, ins, _, a, b, v, w) => match ins with
    | .ifCond _ off => decide ((pc : Int) + off = (a : Int))
    | .if_icmp _ off => decide ((pc : Int) + off = (a : Int))
    | .goto off => decide ((pc : Int) + off = (a : Int))
    | .getfield i => if a = 100 then decide (xw w = some (.fieldLink (xow z) i "java/lang/String" (if b = 0 then "value" else "coder") (if b = 0 then "[B" else "B"))) else decide (a < 13 ∧ b < xnf a ∧ xw w = some (.fieldLink (xow z) i (xclN a) (xclT a b).2.1 (xclT a b).2.2.1))
    | .putfield i => decide (a < 13 ∧ b < xnf a ∧ xw w = some (.fieldLink (xow z) i (xclN a) (xclT a b).2.1 (xclT a b).2.2.1) ∧ ((xclT a b).2.2.2 = false ∨ ((xclT a b).2.2.2 = true ∧ (xnm z).name = "<init>" ∧ (xclT a b).1 = xow z)))
    | .getstatic i => if a = 0 then decide (xw w = some (.fieldLink (xow z) i "java/lang/String" "COMPACT_STRINGS" "Z")) else if a = 1 then decide (xw w = some (.fieldLink (xow z) i "jdk/internal/util/Preconditions" "SIOOBE_FORMATTER" "Ljava/util/function/BiFunction;")) else true
    | .ldc i => if b = 0 then decide (xw w = some (.constant (xow z) i (Int32.ofInt v))) else if b = 1 then decide ((xstrs[a]?).map (fun q => (q.1, q.2.1)) = some (xow z, i)) else true
    | .ldc_w i => decide (xw w = some (.constant (xow z) i (Int32.ofInt v)))
    | .ldc2_w i => decide (xw w = some (.constantLong (xow z) i (Int64.ofInt v)))
    | .new i => decide (a < 13 ∧ xw w = some (.classLink (xow z) i (xclN a)))
    | .newarray t => decide ((a = 13 ∧ t = .int ∧ xw w = some (.arrayClass .int)) ∨ (a = 14 ∧ t = .byte ∧ xw w = some (.arrayClass .byte)))
    | .anewarray i => decide ((a = 15 ∧ xw w = some (.classLink (xow z) i "ConvoyTown$Cross")) ∨ (a = 16 ∧ xw w = some (.classLink (xow z) i "ConvoyTown$Street")))
    | .invokespecial i => if a = 1000 then decide (xw w = some (.methodLink (xow z) i Lib.objectInit)) else decide (a < 228 ∧ xw w = some (if v = 0 then .methodLink (xow z) i (xnm a) else .methodLinkNest (xow z) i (xnm a) "ConvoyTown") ∧ (parseMethodDescriptor (xnm a).desc).map (fun d => d.parameters.length + 1) = some b ∧ (xnm a).name = "<init>")
    | .invokevirtual i => decide (a < 228 ∧ v = 0 ∧ xw w = some (.methodLink (xow z) i (xnm a)) ∧ (parseMethodDescriptor (xnm a).desc).map (fun d => d.parameters.length + 1) = some b ∧ (xmt a).2.2.2.2.2.2.2.2 < 9999999)
    | .invokestatic i => if a = 1001 then decide (xw w = some (.methodLink (xow z) i Lib.Math.max.name)) else if a = 1002 then decide (xw w = some (.methodLink (xow z) i Lib.Math.min.name)) else if a = 1003 then decide (xw w = some (.methodLink (xow z) i Lib.Math.abs.name)) else if a = 1004 then decide (xw w = some (.methodLink (xow z) i arraycopyName)) else if a = 9999 then true else decide (a < 228 ∧ v = 0 ∧ xw w = some (.methodLink (xow z) i (xnm a)) ∧ (parseMethodDescriptor (xnm a).desc).map (fun d => d.parameters.length) = some b ∧ (xmt a).2.2.2.2.2.2.1 < 9999999)
    | _ => true
def xokR (z : Nat) (k : XRow) : Bool := decide (decode (xbt z) k.1 = .ok (k.2.1, k.2.2.1)) && (xlen k.2.1 k.2.2.1 && xokW z k)
def xokC (z : Nat) : Bool := (xcodes.getD z []).all (xokR z)
def xokM (z : Nat) : Bool := match xmt z with
  | (y, bt, mx, rt, pc, pi, ps, pn, pv) => decide (xw pc = some (.code y bt mx rt) ∧ xw pi = some (.initialized y.cls) ∧ plainName y.cls = true ∧ y.cls ≠ "java/lang/invoke/MethodHandle" ∧ y.cls ≠ "java/lang/invoke/VarHandle" ∧ mx ≤ 80) && ((decide (ps < 9999999) && decide (xw ps = some (.static y))) || (decide (ps = 9999999) && decide (xw pn = some (.instanceMethod y)) && (decide (pv = 9999999) || decide (xw pv = some (.selects y.cls y y)))))
set_option maxRecDepth 1000000
theorem xokM_all : (List.range 228).all xokM = true := by decide +kernel
theorem xok_0 : (List.range' 0 40).all xokC = true := by decide +kernel
theorem xok_1 : (List.range' 40 30).all xokC = true := by decide +kernel
theorem xok_2 : (List.range' 70 30).all xokC = true := by decide +kernel
theorem xok_3 : (List.range' 100 40).all xokC = true := by decide +kernel
theorem xok_4 : (List.range' 140 30).all xokC = true := by decide +kernel
theorem xok_5 : (List.range' 170 30).all xokC = true := by decide +kernel
theorem xok_6 : (List.range' 200 28).all xokC = true := by decide +kernel
theorem xok_7 : xokC 228 = true := by decide +kernel
