/-! what the kernel checks of the code tables, once: each row is the method's own instruction, and its link is in the table of links -/
def xmt (z : Nat) : XMeth := xmeths.getD z (⟨"", "", ""⟩, ⟨#[]⟩, 0, none, 0, 0, 0)
def xnm (z : Nat) : MethodName := (xmt z).1
def xbt (z : Nat) : ByteArray := (xmt z).2.1
def xmx (z : Nat) : Nat := (xmt z).2.2.1
def xrt (z : Nat) : Option FieldType := (xmt z).2.2.2.1
def xoc (z : Nat) : Nat := (xmt z).2.2.2.2.1
def xow (z : Nat) : String := (xnm z).cls
def xclN (ci : Nat) : String := (vwCl.getD ci ("", TX0, 0)).1
def xclT (ci : Nat) : u_T := (vwCl.getD ci ("", TX0, 0)).2.1
def xnf (ci : Nat) : Nat := (vwCl.getD ci ("", TX0, 0)).2.2
def xnfN : List Nat := [5, 7, 5, 10, 3, 12, 13, 6, 7, 15, 8, 8, 28]
def xlen (i : Instr) (len : Nat) : Bool := match i with
  | .iconst _ => len == 1 | .bipush _ => len == 2 | .sipush _ => len == 3 | .lconst _ => len == 1 | .ldc _ => len == 2 | .ldc_w _ => len == 3 | .ldc2_w _ => len == 3
  | .iload _ => len == 2 | .iload_n _ => len == 1 | .lload _ => len == 2 | .lload_n _ => len == 1 | .aload _ => len == 2 | .aload_n _ => len == 1
  | .istore _ => len == 2 | .istore_n _ => len == 1 | .lstore _ => len == 2 | .astore _ => len == 2 | .astore_n _ => len == 1 | .iinc _ _ => len == 3
  | .iadd => len == 1 | .isub => len == 1 | .imul => len == 1 | .iand => len == 1 | .ior => len == 1 | .ixor => len == 1 | .ishl => len == 1 | .ishr => len == 1 | .iushr => len == 1 | .idiv => len == 1 | .irem => len == 1
  | .ladd => len == 1 | .lsub => len == 1 | .lmul => len == 1 | .land => len == 1 | .lor => len == 1 | .ldiv => len == 1 | .lshl => len == 1 | .lcmp => len == 1 | .i2l => len == 1 | .i2b => len == 1 | .i2c => len == 1 | .pop => len == 1 | .dup => len == 1 | .dup2 => len == 1
  | .ifCond _ _ => len == 3 | .if_icmp _ _ => len == 3 | .goto _ => len == 3 | .tableswitch _ _ _ _ => true
  | .getfield _ => len == 3 | .putfield _ => len == 3 | .getstatic _ => len == 3 | .iaload => len == 1 | .baload => len == 1 | .aaload => len == 1 | .iastore => len == 1 | .bastore => len == 1 | .aastore => len == 1 | .arraylength => len == 1
  | .new _ => len == 3 | .newarray _ => len == 2 | .anewarray _ => len == 3 | .invokespecial _ => len == 3 | .invokestatic _ => len == 3 | .invokevirtual _ => len == 3
  | .ireturn => len == 1 | .lreturn => len == 1 | .areturn => len == 1 | .return_ => len == 1 | .athrow => true
  | _ => false
/-- by the table: what kind a method is (1 static, 2 selected, 3 a constructor), how many arguments it takes (the receiver apart) -/
def xkn (a : Nat) : Nat := (xmt a).2.2.2.2.2.1
def xnp (a : Nat) : Nat := (xmt a).2.2.2.2.2.2
def xokW (z : Nat) (k : XRow) : Bool := match k with
  | (pc, ins, _, a, b, v, w) => match ins with
    | .ifCond _ off => decide ((pc : Int) + off = (a : Int))
    | .if_icmp _ off => decide ((pc : Int) + off = (a : Int))
    | .goto off => decide ((pc : Int) + off = (a : Int))
    | .getfield i => decide (xLF[w]? = some (xoc z, i, a, b)) && (if a = 100 then decide (b < 2) else decide (a < 13 ∧ b < xnfN.getD a 0))
    | .putfield i => decide (xLF[w]? = some (xoc z, i, a, b)) && decide (a < 13 ∧ b < xnfN.getD a 0 ∧ ((xclT a b).2.2.2 = false ∨ ((xclT a b).2.2.2 = true ∧ xoc z = a ∧ xkn z = 3)))
    | .getstatic i => decide (xLF[w]? = some (xoc z, i, 200, a))
    | .ldc i => if b = 0 then decide (xLK[w]? = some (xoc z, i, v)) else if b = 1 then decide (xstrN[a]? = some (xoc z, i)) else true
    | .ldc_w i => decide (xLK[w]? = some (xoc z, i, v))
    | .ldc2_w i => decide (xLL[w]? = some (xoc z, i, v))
    | .new i => decide (a < 13 ∧ xLC[w]? = some (xoc z, i, a))
    | .newarray t => decide ((a = 13 ∧ t = .int) ∨ (a = 14 ∧ t = .byte))
    | .anewarray i => decide ((a = 15 ∨ a = 16) ∧ xLC[w]? = some (xoc z, i, a))
    | .invokespecial i => if a = 1000 then decide (xLM[w]? = some (xoc z, i, 1000, 0)) else decide (a < 228 ∧ xLM[w]? = some (xoc z, i, a, v.toNat) ∧ xkn a = 3 ∧ b = xnp a + 1)
    | .invokevirtual i => decide (a < 228 ∧ xLM[w]? = some (xoc z, i, a, 0) ∧ xkn a = 2 ∧ b = xnp a + 1)
    | .invokestatic i => if a = 9999 then true else decide (xLM[w]? = some (xoc z, i, a, 0)) && (if a < 228 then decide (xkn a = 1 ∧ b = xnp a) else decide (1001 ≤ a ∧ a ≤ 1004))
    | _ => true
def xokR (z : Nat) (k : XRow) : Bool := decide (decode (xbt z) k.1 = .ok (k.2.1, k.2.2.1)) && (xlen k.2.1 k.2.2.1 && xokW z k)
def xokC (z : Nat) : Bool := (xcodes.getD z []).all (xokR z)
/-- a link's word -/
def xwF (q : Nat × Nat × Nat × Nat) : Cond := match q with
  | (o, i, a, b) => if a = 100 then (if b = 0 then .fieldLink (xocN o) i "java/lang/String" "value" "[B" else .fieldLink (xocN o) i "java/lang/String" "coder" "B") else if a = 200 then (if b = 0 then .fieldLink (xocN o) i "java/lang/String" "COMPACT_STRINGS" "Z" else .fieldLink (xocN o) i "jdk/internal/util/Preconditions" "SIOOBE_FORMATTER" "Ljava/util/function/BiFunction;") else .fieldLink (xocN o) i (xclN a) (xclT a b).2.1 (xclT a b).2.2.1
def xspN (a : Nat) : MethodName := if a = 1000 then Lib.objectInit else if a = 1001 then Lib.Math.max.name else if a = 1002 then Lib.Math.min.name else if a = 1003 then Lib.Math.abs.name else if a = 1004 then arraycopyName else xnm a
def xwM (q : Nat × Nat × Nat × Nat) : Cond := match q with
  | (o, i, a, v) => if v = 0 then .methodLink (xocN o) i (xspN a) else .methodLinkNest (xocN o) i (xspN a) "ConvoyTown"
def xwC (q : Nat × Nat × Nat) : Cond := match q with
  | (o, i, a) => .classLink (xocN o) i (if a = 15 then "ConvoyTown$Cross" else if a = 16 then "ConvoyTown$Street" else xclN a)
def xwK (q : Nat × Nat × Int) : Cond := match q with
  | (o, i, v) => .constant (xocN o) i (Int32.ofInt v)
def xwL (q : Nat × Nat × Int) : Cond := match q with
  | (o, i, v) => .constantLong (xocN o) i (Int64.ofInt v)
def xwMM (q : XMeth) : Prop := Cond.code q.1 q.2.1 q.2.2.1 q.2.2.2.1 ∈ lw_tbl ∧ Cond.initialized q.1.cls ∈ lw_tbl ∧ (q.2.2.2.2.2.1 = 1 → Cond.static q.1 ∈ lw_tbl) ∧ (q.2.2.2.2.2.1 = 2 → Cond.instanceMethod q.1 ∈ lw_tbl ∧ Cond.selects q.1.cls q.1 q.1 ∈ lw_tbl) ∧ (q.2.2.2.2.2.1 = 3 → Cond.instanceMethod q.1 ∈ lw_tbl ∧ q.1.name = "<init>" ∧ q.2.2.2.1 = none) ∧ plainName q.1.cls = true ∧ (q.1.cls ≠ "java/lang/invoke/MethodHandle" ∧ q.1.cls ≠ "java/lang/invoke/VarHandle") ∧ q.2.2.1 ≤ 80 ∧ (parseMethodDescriptor q.1.desc).map (fun d => d.parameters.length) = some q.2.2.2.2.2.2
def xwMO (q : XMeth) : Prop := xocN q.2.2.2.2.1 = q.1.cls
theorem xw_ch_mem (j : Nat) (c : Cond) (hc : c ∈ xw_ch j) : c ∈ lw_tbl := by
  unfold lw_tbl tables_1
  simp only [List.mem_append]
  unfold xw_ch at hc
  split at hc
  · exact Or.inr (Or.inl hc)
  · exact Or.inr (Or.inr (Or.inl hc))
  · exact Or.inr (Or.inr (Or.inr (Or.inl hc)))
  · exact Or.inr (Or.inr (Or.inr (Or.inr (Or.inl hc))))
  · exact Or.inr (Or.inr (Or.inr (Or.inr (Or.inr (Or.inl hc)))))
  · exact Or.inr (Or.inr (Or.inr (Or.inr (Or.inr (Or.inr (Or.inl hc))))))
  · exact Or.inr (Or.inr (Or.inr (Or.inr (Or.inr (Or.inr (Or.inr hc))))))
  · exact Or.inl hc
theorem xw_mem {w : Nat} {c : Cond} (h : xw w = some c) : c ∈ lw_tbl := xw_ch_mem _ c (List.mem_of_getElem? h)
