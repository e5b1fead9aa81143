/-! An interpreter of the code tables over a plain heap: places are numbers from 0 on, in the order in which they were made; a cell is its kind (0 to 12: the class of that number in vwCl; 13 int[], 14 byte[], 15 Cross[], 16 Street[]) and its numbers (a reference is its place, null is -1) -/
abbrev XHp : Type := List (Nat × List Int32)
def xU0 : Value := .retAddr 0
def xSB : Nat := 1000000
def xSC : Nat := 3000000
def xkd (h : XHp) (o : Nat) : Nat := (h.getD o (99, [])).1
def xda (h : XHp) (o : Nat) : List Int32 := (h.getD o (99, [])).2
def xln (h : XHp) (o : Nat) : Nat := (xda h o).length
def xrd (h : XHp) (o i : Nat) : Int32 := (xda h o).getD i 0
def xwr (h : XHp) (o i : Nat) (x : Int32) : XHp := h.set o (xkd h o, (xda h o).set i x)
def xtys : List (Nat → FieldType) := [tyX0, tyX1, tyX2, tyX3, tyX4, tyX5, tyX6, tyX7, tyX8, tyX9, tyX10, tyX11, tyX12]
def xty (ci k : Nat) : FieldType := (xtys.getD ci (fun _ => .int)) k
def xisR : FieldType → Bool
  | .object _ => true
  | .array _ => true
  | _ => false
def xsv (r : Bool) (x : Int32) : Value := match r with
  | true => if x < 0 then .null else .ref x.toNatClampNeg
  | false => .int x
def xdef (ci : Nat) : List Int32 := (List.range (xnf ci)).map (fun k => if xisR (xty ci k) then -1 else 0)
/-- what a field of a type holds for a value -/
def xenc (ty : FieldType) (v : Value) : Option Int32 := match xisR ty, v with
  | true, .ref i => if i < 1000000 then some (Int32.ofNat i) else none
  | true, .null => some (-1)
  | false, .int x => if narrow ty (.int x) = .int x ∧ fits ty (.int x) = true then some x else none
  | _, _ => none
def xcond (c : ClassFile.Cond) (x y : Int32) : Bool := match c with
  | .eq => decide (x = y)
  | .ne => decide (¬ x = y)
  | .lt => decide (x < y)
  | .ge => decide (y ≤ x)
  | .gt => decide (y < x)
  | .le => decide (x ≤ y)
/-- the bytes of the String constants -/
def xbyt : List (List Int32) := xstrs.map (fun q => q.2.2.toList.map (fun ch => Int32.ofNat ch.toNat))
def xclr (ls : List Value) (i : Nat) : List Value := match i with
  | 0 => ls
  | j + 1 => match ls[j]? with
    | some v => if v.category = 2 then ls.set j xU0 else ls
    | none => ls
def xst1 (ls : List Value) (i : Nat) (v : Value) : List Value := (xclr ls i).set i v
def xst2 (ls : List Value) (i : Nat) (v : Value) : List Value := ((xclr ls i).set i v).set (i + 1) xU0
abbrev xin (i : Int32) (n : Nat) : Prop := 0 ≤ i.toInt ∧ i.toInt < n
def xcpy (f g : List Int32) (sp dp n : Nat) : List Int32 := (List.range g.length).map (fun k => if dp ≤ k ∧ k < dp + n then f.getD (sp + (k - dp)) 0 else g.getD k 0)
abbrev XSt : Type := Nat × List Value × List Value × XHp
def xbi (f : Int32 → Int32 → Int32) (n : Nat) (ls st : List Value) (h : XHp) : Option XSt := match st with
  | .int y :: .int x :: s => some (n, ls, .int (f x y) :: s, h)
  | _ => none
def xbl (f : Int64 → Int64 → Int64) (n : Nat) (ls st : List Value) (h : XHp) : Option XSt := match st with
  | .long y :: .long x :: s => some (n, ls, .long (f x y) :: s, h)
  | _ => none
def xload (i n : Nat) (ls st : List Value) (h : XHp) (t : Nat) : Option XSt := match ls[i]? with
  | some (.int x) => if t = 0 then some (n, ls, .int x :: st, h) else none
  | some (.long x) => if t = 1 then some (n, ls, .long x :: st, h) else none
  | some (.ref x) => if t = 2 then some (n, ls, .ref x :: st, h) else none
  | _ => none
def xstore (i n : Nat) (ls st : List Value) (h : XHp) (t : Nat) : Option XSt := match st with
  | .int x :: s => if t = 0 ∧ i < ls.length then some (n, xst1 ls i (.int x), s, h) else none
  | .long x :: s => if t = 1 ∧ i + 1 < ls.length then some (n, xst2 ls i (.long x), s, h) else none
  | .ref x :: s => if t = 2 ∧ i < ls.length then some (n, xst1 ls i (.ref x), s, h) else none
  | _ => none
/-- one instruction that neither calls nor returns; X: the script -/
def xstep (X : List Int32) (k : XRow) (ls st : List Value) (h : XHp) : Option XSt := match k with
  | (pc, ins, len, a, b, v, _) => match ins with
    | .iconst c => some (pc + 1, ls, .int (Int32.ofInt c) :: st, h)
    | .bipush c => some (pc + 2, ls, .int (Int8.ofInt c).toInt32 :: st, h)
    | .sipush c => some (pc + 3, ls, .int (Int16.ofInt c).toInt32 :: st, h)
    | .lconst c => some (pc + 1, ls, .long (Int64.ofNat c) :: st, h)
    | .ldc _ => if b = 0 then some (pc + 2, ls, .int (Int32.ofInt v) :: st, h) else if b = 1 ∧ a < 19 then some (pc + 2, ls, .ref (xSB + 2 * a) :: st, h) else none
    | .ldc_w _ => if b = 0 then some (pc + 3, ls, .int (Int32.ofInt v) :: st, h) else none
    | .ldc2_w _ => some (pc + 3, ls, .long (Int64.ofInt v) :: st, h)
    | .iload i => xload i (pc + 2) ls st h 0
    | .iload_n i => xload i (pc + 1) ls st h 0
    | .lload i => xload i (pc + 2) ls st h 1
    | .lload_n i => xload i (pc + 1) ls st h 1
    | .aload i => xload i (pc + 2) ls st h 2
    | .aload_n i => xload i (pc + 1) ls st h 2
    | .istore i => xstore i (pc + 2) ls st h 0
    | .istore_n i => xstore i (pc + 1) ls st h 0
    | .lstore i => xstore i (pc + 2) ls st h 1
    | .astore i => xstore i (pc + 2) ls st h 2
    | .astore_n i => xstore i (pc + 1) ls st h 2
    | .iinc i c => match ls[i]? with
      | some (.int x) => some (pc + 3, xst1 ls i (.int (x + Int32.ofInt c)), st, h)
      | _ => none
    | .iadd => xbi (fun x y => x + y) (pc + 1) ls st h
    | .isub => xbi (fun x y => x - y) (pc + 1) ls st h
    | .imul => xbi (fun x y => x * y) (pc + 1) ls st h
    | .iand => xbi (fun x y => x &&& y) (pc + 1) ls st h
    | .ior => xbi (fun x y => x ||| y) (pc + 1) ls st h
    | .ixor => xbi (fun x y => x ^^^ y) (pc + 1) ls st h
    | .ishl => xbi (fun x y => x <<< (y &&& 31)) (pc + 1) ls st h
    | .ishr => xbi (fun x y => x >>> (y &&& 31)) (pc + 1) ls st h
    | .iushr => xbi (fun x y => (x.toUInt32 >>> (y.toUInt32 &&& Int32.toUInt32 31)).toInt32) (pc + 1) ls st h
    | .idiv => match st with
      | .int y :: .int x :: s => if y = 0 then none else some (pc + 1, ls, .int (x / y) :: s, h)
      | _ => none
    | .irem => match st with
      | .int y :: .int x :: s => if y = 0 then none else some (pc + 1, ls, .int (x - x / y * y) :: s, h)
      | _ => none
    | .ladd => xbl (fun x y => x + y) (pc + 1) ls st h
    | .lsub => xbl (fun x y => x - y) (pc + 1) ls st h
    | .lmul => xbl (fun x y => x * y) (pc + 1) ls st h
    | .land => xbl (fun x y => x &&& y) (pc + 1) ls st h
    | .lor => xbl (fun x y => x ||| y) (pc + 1) ls st h
    | .ldiv => match st with
      | .long y :: .long x :: s => if y = 0 then none else some (pc + 1, ls, .long (x / y) :: s, h)
      | _ => none
    | .lshl => match st with
      | .int y :: .long x :: s => some (pc + 1, ls, .long (x <<< (y.toInt64 &&& 63)) :: s, h)
      | _ => none
    | .lcmp => match st with
      | .long y :: .long x :: s => some (pc + 1, ls, .int (lg_cmp x y) :: s, h)
      | _ => none
    | .i2l => match st with
      | .int x :: s => some (pc + 1, ls, .long x.toInt64 :: s, h)
      | _ => none
    | .i2b => match st with
      | .int x :: s => some (pc + 1, ls, .int x.toInt8.toInt32 :: s, h)
      | _ => none
    | .i2c => match st with
      | .int x :: s => some (pc + 1, ls, .int (x.toUInt32 % 65536).toInt32 :: s, h)
      | _ => none
    | .pop => match st with
      | .int _ :: s => some (pc + 1, ls, s, h)
      | _ => none
    | .dup => match st with
      | .int x :: s => some (pc + 1, ls, .int x :: .int x :: s, h)
      | .ref x :: s => some (pc + 1, ls, .ref x :: .ref x :: s, h)
      | _ => none
    | .dup2 => match st with
      | .int x :: .ref y :: s => some (pc + 1, ls, .int x :: .ref y :: .int x :: .ref y :: s, h)
      | _ => none
    | .ifCond c _ => match st with
      | .int x :: s => some (if xcond c x 0 = true then a else pc + 3, ls, s, h)
      | _ => none
    | .if_icmp c _ => match st with
      | .int y :: .int x :: s => some (if xcond c x y = true then a else pc + 3, ls, s, h)
      | _ => none
    | .goto _ => some (a, ls, st, h)
    | .tableswitch dflt lo hi offs => match st with
      | .int x :: s =>
        if x.toInt < lo ∨ hi < x.toInt then (if 0 ≤ (pc : Int) + dflt then some (((pc : Int) + dflt).toNat, ls, s, h) else none)
        else match offs[(x.toInt - lo).toNat]? with
          | some off => if 0 ≤ (pc : Int) + off then some (((pc : Int) + off).toNat, ls, s, h) else none
          | none => none
      | _ => none
    | .getfield _ => match st with
      | .ref o :: s =>
        if a = 100 then (if xSB ≤ o ∧ o < xSB + 38 ∧ o % 2 = 0 then (if b = 0 then some (pc + 3, ls, .ref (o + 1) :: s, h) else some (pc + 3, ls, .int 0 :: s, h)) else none)
        else if o < h.length ∧ xkd h o = a ∧ b < xln h o then some (pc + 3, ls, xsv (xisR (xty a b)) (xrd h o b) :: s, h) else none
      | _ => none
    | .putfield _ => match st with
      | w :: .ref o :: s =>
        if o < h.length ∧ xkd h o = a ∧ b < xln h o then (match xenc (xty a b) w with
          | some x => some (pc + 3, ls, s, xwr h o b x)
          | none => none) else none
      | _ => none
    | .getstatic _ => if a = 0 then some (pc + 3, ls, .int 1 :: st, h) else if a = 1 then some (pc + 3, ls, .retAddr 7 :: st, h) else none
    | .iaload => match st with
      | .int i :: .ref o :: s =>
        if o = xSC then (if xin i X.length ∧ X.length ≤ 4000 then some (pc + 1, ls, .int (X.getD i.toNatClampNeg 0) :: s, h) else none)
        else if o < h.length ∧ xkd h o = 13 ∧ xin i (xln h o) then some (pc + 1, ls, .int (xrd h o i.toNatClampNeg) :: s, h) else none
      | _ => none
    | .baload => match st with
      | .int i :: .ref o :: s =>
        if xSB ≤ o then (if o < xSB + 38 ∧ o % 2 = 1 ∧ xin i (xbyt.getD ((o - xSB) / 2) []).length then some (pc + 1, ls, .int ((xbyt.getD ((o - xSB) / 2) []).getD i.toNatClampNeg 0) :: s, h) else none)
        else if o < h.length ∧ xkd h o = 14 ∧ xin i (xln h o) then some (pc + 1, ls, .int (xrd h o i.toNatClampNeg) :: s, h) else none
      | _ => none
    | .aaload => match st with
      | .int i :: .ref o :: s => if o < h.length ∧ (xkd h o = 15 ∨ xkd h o = 16) ∧ xin i (xln h o) then some (pc + 1, ls, xsv true (xrd h o i.toNatClampNeg) :: s, h) else none
      | _ => none
    | .iastore => match st with
      | .int x :: .int i :: .ref o :: s => if o < h.length ∧ xkd h o = 13 ∧ xin i (xln h o) then some (pc + 1, ls, s, xwr h o i.toNatClampNeg x) else none
      | _ => none
    | .bastore => match st with
      | .int x :: .int i :: .ref o :: s => if o < h.length ∧ xkd h o = 14 ∧ xin i (xln h o) then some (pc + 1, ls, s, xwr h o i.toNatClampNeg x.toInt8.toInt32) else none
      | _ => none
    | .aastore => match st with
      | .ref w :: .int i :: .ref o :: s => if o < h.length ∧ w < h.length ∧ ((xkd h o = 15 ∧ xkd h w = 1) ∨ (xkd h o = 16 ∧ xkd h w = 8)) ∧ xin i (xln h o) ∧ w < 1000000 then some (pc + 1, ls, s, xwr h o i.toNatClampNeg (Int32.ofNat w)) else none
      | _ => none
    | .arraylength => match st with
      | .ref o :: s =>
        if o = xSC then (if X.length ≤ 4000 then some (pc + 1, ls, .int (Int32.ofNat X.length) :: s, h) else none)
        else if xSB ≤ o then (if o < xSB + 38 ∧ o % 2 = 1 then some (pc + 1, ls, .int (Int32.ofNat (xbyt.getD ((o - xSB) / 2) []).length) :: s, h) else none)
        else if o < h.length ∧ 13 ≤ xkd h o ∧ xkd h o ≤ 16 then some (pc + 1, ls, .int (Int32.ofNat (xln h o)) :: s, h) else none
      | _ => none
    | .new _ => if a < 13 ∧ h.length < 900000 then some (pc + 3, ls, .ref h.length :: st, h ++ [(a, xdef a)]) else none
    | .newarray _ => match st with
      | .int n :: s => if 0 ≤ n.toInt ∧ n.toInt ≤ 10000 ∧ (a = 13 ∨ a = 14) ∧ h.length < 900000 then some (pc + 2, ls, .ref h.length :: s, h ++ [(a, List.replicate n.toNatClampNeg 0)]) else none
      | _ => none
    | .anewarray _ => match st with
      | .int n :: s => if 0 ≤ n.toInt ∧ n.toInt ≤ 10000 ∧ (a = 15 ∨ a = 16) ∧ h.length < 900000 then some (pc + 3, ls, .ref h.length :: s, h ++ [(a, List.replicate n.toNatClampNeg (-1))]) else none
      | _ => none
    | .invokespecial _ => match st with
      | .ref o :: s => if a = 1000 ∧ (s.map Value.category).sum ≤ 8 then some (pc + 3, ls, s, h) else none
      | _ => none
    | .invokestatic _ =>
      if a = 1004 then (match st with
        | .int n :: .int dp :: .ref o :: .int sp :: .ref q :: s => if o < h.length ∧ q < h.length ∧ xkd h o = 13 ∧ xkd h q = 13 ∧ 0 ≤ sp.toInt ∧ 0 ≤ dp.toInt ∧ 0 ≤ n.toInt ∧ sp.toInt + n.toInt ≤ xln h q ∧ dp.toInt + n.toInt ≤ xln h o ∧ (s.map Value.category).sum ≤ 8 then some (pc + 3, ls, s, h.set o (13, xcpy (xda h q) (xda h o) sp.toNatClampNeg dp.toNatClampNeg n.toNatClampNeg)) else none
        | _ => none)
      else if a = 1003 then (match st with
        | .int x :: s => if (s.map Value.category).sum ≤ 8 then some (pc + 3, ls, .int (if 0 ≤ x then x else 0 - x) :: s, h) else none
        | _ => none)
      else if a = 1001 then (match st with
        | .int y :: .int x :: s => if (s.map Value.category).sum ≤ 8 then some (pc + 3, ls, .int (if x < y then y else x) :: s, h) else none
        | _ => none)
      else if a = 1002 then (match st with
        | .int y :: .int x :: s => if (s.map Value.category).sum ≤ 8 then some (pc + 3, ls, .int (if y < x then y else x) :: s, h) else none
        | _ => none)
      else none
    | _ => none
def xlook (z pc : Nat) : Option XRow := (xcodes.getD z []).find? (fun r => r.1 == pc)
def xxp : List Value → List Value
  | [] => []
  | v :: vs => if v.category = 2 then v :: xU0 :: xxp vs else v :: xxp vs
def xloc (z : Nat) (as : List Value) : List Value := xxp as ++ List.replicate (xmx z - (xxp as).length) xU0
/-- is it a call of a method of the tables: 1 virtual, 2 special, 3 static; 0 no -/
def xcall (k : XRow) : Nat := match k.2.1 with
  | .invokevirtual _ => if k.2.2.2.1 < 228 then 1 else 9
  | .invokespecial _ => if k.2.2.2.1 < 228 then 2 else 0
  | .invokestatic _ => if k.2.2.2.1 < 228 then 3 else 0
  | _ => 0
/-- is it a return, and of what -/
def xret (k : XRow) (rt : Option FieldType) (st : List Value) : Option (Option (Option Value)) := match k.2.1 with
  | .return_ => match st with
    | [] => if rt = none then some (some none) else some none
    | _ => some none
  | .ireturn => match st with
    | [.int x] => (match rt with
      | some ty => if narrow ty (.int x) = .int x ∧ xisR ty = false ∧ ¬ ty = .long then some (some (some (.int x))) else some none
      | none => some none)
    | _ => some none
  | .lreturn => match st with
    | [.long x] => if rt = some .long then some (some (some (.long x))) else some none
    | _ => some none
  | .areturn => match st with
    | [.ref x] => (match rt with
      | some ty => if xisR ty = true then some (some (some (.ref x))) else some none
      | none => some none)
    | _ => some none
  | _ => none
/-- may the receiver be called so (14: String) -/
def xrec (c z : Nat) (h : XHp) (as : List Value) : Bool := match as with
  | .ref o :: _ => if xoc z = 14 then decide (c = 3 ∨ (c = 1 ∧ xSB ≤ o ∧ o < xSB + 38 ∧ o % 2 = 0)) else decide (c = 3 ∨ c = 2 ∨ (o < h.length ∧ xkd h o = xoc z ∧ xoc z < 13))
  | _ => decide (c = 3)
/-- n: steps that are left, d: calls one in another that are left -/
def xrun (X : List Int32) : Nat → Nat → Nat → Nat → List Value → List Value → XHp → Option (Option Value × XHp)
  | 0, _, _, _, _, _, _ => none
  | n + 1, d, z, pc, ls, st, h => match xlook z pc with
    | none => none
    | some k =>
      if xcall k = 0 then
        match xret k (xrt z) st with
        | some (some r) => some (r, h)
        | some none => none
        | none => match xstep X k ls st h with
          | some (pc', ls', st', h') => xrun X n d z pc' ls' st' h'
          | none => none
      else match d with
        | 0 => none
        | d' + 1 =>
          if xcall k < 4 ∧ k.2.2.2.2.1 ≤ st.length ∧ ((st.drop k.2.2.2.2.1).map Value.category).sum ≤ 8 ∧ (xxp (st.take k.2.2.2.2.1).reverse).length ≤ xmx k.2.2.2.1 ∧ xrec (xcall k) k.2.2.2.1 h (st.take k.2.2.2.2.1).reverse = true then
            match xrun X n d' k.2.2.2.1 0 (xloc k.2.2.2.1 (st.take k.2.2.2.2.1).reverse) [] h with
            | some (r, h') => xrun X n (d' + 1) z (pc + 3) ls (r.toList ++ st.drop k.2.2.2.2.1) h'
            | none => none
          else none
