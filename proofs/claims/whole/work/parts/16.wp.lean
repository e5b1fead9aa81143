/-! the rules again, for a claim Q on the answer and on the memory behind it -/
def xW (X : List Int32) (d z pc : Nat) (ls st : List Value) (F : XF) (Q : Option Value → XF → Prop) : Prop := ∃ r F', xE X d z pc ls st F r F' ∧ xPT F' ∧ Q r F'
def xqi (Q : Int → XF → Prop) : Option Value → XF → Prop := fun r F' => ∃ y : Int, r = some (vi y) ∧ Q y F'
def xql (Q : Int → XF → Prop) : Option Value → XF → Prop := fun r F' => ∃ y : Int, r = some (vl y) ∧ Q y F'
def xqr (Q : Nat → XF → Prop) : Option Value → XF → Prop := fun r F' => ∃ y : Nat, r = some (.ref y) ∧ xob 9 y ∧ Q y F'
def xqv (Q : XF → Prop) : Option Value → XF → Prop := fun r F' => r = none ∧ Q F'
abbrev xMI (X : List Int32) (d z : Nat) (as : List Value) (F : XF) (Q : Int → XF → Prop) : Prop := xW X d z 0 (xloc z as) [] F (xqi Q)
abbrev xML (X : List Int32) (d z : Nat) (as : List Value) (F : XF) (Q : Int → XF → Prop) : Prop := xW X d z 0 (xloc z as) [] F (xql Q)
abbrev xMR (X : List Int32) (d z : Nat) (as : List Value) (F : XF) (Q : Nat → XF → Prop) : Prop := xW X d z 0 (xloc z as) [] F (xqr Q)
abbrev xMV (X : List Int32) (d z : Nat) (as : List Value) (F : XF) (Q : XF → Prop) : Prop := xW X d z 0 (xloc z as) [] F (xqv Q)
theorem xob_0 : xob 0 37 := by decide
theorem xob_3 : xob 3 98 := by decide
theorem xob_4 : xob 4 128 := by decide
theorem xob_5 : xob 5 18 := by decide
theorem xob_10 : xob 10 104 := by decide
theorem xob_11 : xob 11 0 := by decide
theorem xob_12 : xob 12 131 := by decide
section XWU
variable {X : List Int32} {d z pc a b w : Nat} {v : Int} {ls st : List Value} {F : XF} {Q : Option Value → XF → Prop}
theorem xW.monoI {P Q : Int → XF → Prop} (h : xW X d z pc ls st F (xqi P)) (k : ∀ y G, xPT G → P y G → Q y G) : xW X d z pc ls st F (xqi Q) := by
  obtain ⟨r, F', e, hP, y, hy, hq⟩ := h
  exact ⟨r, F', e, hP, y, hy, k y F' hP hq⟩
theorem xW.monoL {P Q : Int → XF → Prop} (h : xW X d z pc ls st F (xql P)) (k : ∀ y G, xPT G → P y G → Q y G) : xW X d z pc ls st F (xql Q) := by
  obtain ⟨r, F', e, hP, y, hy, hq⟩ := h
  exact ⟨r, F', e, hP, y, hy, k y F' hP hq⟩
theorem xW.monoR {P Q : Nat → XF → Prop} (h : xW X d z pc ls st F (xqr P)) (k : ∀ y G, xPT G → xob 9 y → P y G → Q y G) : xW X d z pc ls st F (xqr Q) := by
  obtain ⟨r, F', e, hP, y, hy, hy2, hq⟩ := h
  exact ⟨r, F', e, hP, y, hy, hy2, k y F' hP hy2 hq⟩
theorem xW.monoV {P Q : XF → Prop} (h : xW X d z pc ls st F (xqv P)) (k : ∀ G, xPT G → P G → Q G) : xW X d z pc ls st F (xqv Q) := by
  obtain ⟨r, F', e, hP, hy, hq⟩ := h
  exact ⟨r, F', e, hP, hy, k F' hP hq⟩
theorem xw_iconst {c : Int} (hk : xlook z pc = some (pc, .iconst c, 1, a, b, v, w)) {n : Nat} (hn : pc + 1 = n) (e : xW X d z n ls (vi c :: st) F Q) : xW X d z pc ls st F Q := by
  obtain ⟨r, F', e, hzq⟩ := e
  exact ⟨r, F', xr_iconst hk hn e, hzq⟩
theorem xw_bipush {c : Int} (hk : xlook z pc = some (pc, .bipush c, 2, a, b, v, w)) {n : Nat} (hn : pc + 2 = n) (hc : (Int8.ofInt c).toInt32 = Int32.ofInt c) (e : xW X d z n ls (vi c :: st) F Q) : xW X d z pc ls st F Q := by
  obtain ⟨r, F', e, hzq⟩ := e
  exact ⟨r, F', xr_bipush hk hn hc e, hzq⟩
theorem xw_sipush {c : Int} (hk : xlook z pc = some (pc, .sipush c, 3, a, b, v, w)) {n : Nat} (hn : pc + 3 = n) (hc : (Int16.ofInt c).toInt32 = Int32.ofInt c) (e : xW X d z n ls (vi c :: st) F Q) : xW X d z pc ls st F Q := by
  obtain ⟨r, F', e, hzq⟩ := e
  exact ⟨r, F', xr_sipush hk hn hc e, hzq⟩
theorem xw_lconst {c : Fin 2} {k : Int} (hk : xlook z pc = some (pc, .lconst c, 1, a, b, v, w)) {n : Nat} (hn : pc + 1 = n) (hc : Int64.ofNat c = Int64.ofInt k) (e : xW X d z n ls (vl k :: st) F Q) : xW X d z pc ls st F Q := by
  obtain ⟨r, F', e, hzq⟩ := e
  exact ⟨r, F', xr_lconst hk hn hc e, hzq⟩
theorem xw_ldc {i : Nat} (hk : xlook z pc = some (pc, .ldc i, 2, a, b, v, w)) {n : Nat} (hn : pc + 2 = n) (hb : b = 0) (e : xW X d z n ls (vi v :: st) F Q) : xW X d z pc ls st F Q := by
  obtain ⟨r, F', e, hzq⟩ := e
  exact ⟨r, F', xr_ldc hk hn hb e, hzq⟩
theorem xw_ldcs {i : Nat} (hk : xlook z pc = some (pc, .ldc i, 2, a, b, v, w)) {n : Nat} (hn : pc + 2 = n) (hb : b = 1 ∧ a < 19) (e : xW X d z n ls (.ref (xSB + 2 * a) :: st) F Q) : xW X d z pc ls st F Q := by
  obtain ⟨r, F', e, hzq⟩ := e
  exact ⟨r, F', xr_ldcs hk hn hb e, hzq⟩
theorem xw_ldcw {i : Nat} (hk : xlook z pc = some (pc, .ldc_w i, 3, a, b, v, w)) {n : Nat} (hn : pc + 3 = n) (hb : b = 0) (e : xW X d z n ls (vi v :: st) F Q) : xW X d z pc ls st F Q := by
  obtain ⟨r, F', e, hzq⟩ := e
  exact ⟨r, F', xr_ldcw hk hn hb e, hzq⟩
theorem xw_ldc2 {i : Nat} (hk : xlook z pc = some (pc, .ldc2_w i, 3, a, b, v, w)) {n : Nat} (hn : pc + 3 = n) (e : xW X d z n ls (vl v :: st) F Q) : xW X d z pc ls st F Q := by
  obtain ⟨r, F', e, hzq⟩ := e
  exact ⟨r, F', xr_ldc2 hk hn e, hzq⟩
theorem xw_iload {i : Nat} {x : Int} (hk : xlook z pc = some (pc, .iload i, 2, a, b, v, w)) {n : Nat} (hn : pc + 2 = n) (hl : ls[i]? = some (vi x)) (e : xW X d z n ls (vi x :: st) F Q) : xW X d z pc ls st F Q := by
  obtain ⟨r, F', e, hzq⟩ := e
  exact ⟨r, F', xr_iload hk hn hl e, hzq⟩
theorem xw_iload_n {i : Fin 4} {x : Int} (hk : xlook z pc = some (pc, .iload_n i, 1, a, b, v, w)) {n : Nat} (hn : pc + 1 = n) (hl : ls[(i : Nat)]? = some (vi x)) (e : xW X d z n ls (vi x :: st) F Q) : xW X d z pc ls st F Q := by
  obtain ⟨r, F', e, hzq⟩ := e
  exact ⟨r, F', xr_iload_n hk hn hl e, hzq⟩
theorem xw_lload {i : Nat} {x : Int} (hk : xlook z pc = some (pc, .lload i, 2, a, b, v, w)) {n : Nat} (hn : pc + 2 = n) (hl : ls[i]? = some (vl x)) (e : xW X d z n ls (vl x :: st) F Q) : xW X d z pc ls st F Q := by
  obtain ⟨r, F', e, hzq⟩ := e
  exact ⟨r, F', xr_lload hk hn hl e, hzq⟩
theorem xw_lload_n {i : Fin 4} {x : Int} (hk : xlook z pc = some (pc, .lload_n i, 1, a, b, v, w)) {n : Nat} (hn : pc + 1 = n) (hl : ls[(i : Nat)]? = some (vl x)) (e : xW X d z n ls (vl x :: st) F Q) : xW X d z pc ls st F Q := by
  obtain ⟨r, F', e, hzq⟩ := e
  exact ⟨r, F', xr_lload_n hk hn hl e, hzq⟩
theorem xw_aload {i : Nat} {x : Nat} (hk : xlook z pc = some (pc, .aload i, 2, a, b, v, w)) {n : Nat} (hn : pc + 2 = n) (hl : ls[i]? = some (.ref x)) (e : xW X d z n ls (.ref x :: st) F Q) : xW X d z pc ls st F Q := by
  obtain ⟨r, F', e, hzq⟩ := e
  exact ⟨r, F', xr_aload hk hn hl e, hzq⟩
theorem xw_aload_n {i : Fin 4} {x : Nat} (hk : xlook z pc = some (pc, .aload_n i, 1, a, b, v, w)) {n : Nat} (hn : pc + 1 = n) (hl : ls[(i : Nat)]? = some (.ref x)) (e : xW X d z n ls (.ref x :: st) F Q) : xW X d z pc ls st F Q := by
  obtain ⟨r, F', e, hzq⟩ := e
  exact ⟨r, F', xr_aload_n hk hn hl e, hzq⟩
theorem xw_istore {i : Nat} {x : Int} {ls' : List Value} (hk : xlook z pc = some (pc, .istore i, 2, a, b, v, w)) {n : Nat} (hn : pc + 2 = n) (hi : i < ls.length) (hl : xst1 ls i (vi x) = ls') (e : xW X d z n ls' st F Q) : xW X d z pc ls (vi x :: st) F Q := by
  obtain ⟨r, F', e, hzq⟩ := e
  exact ⟨r, F', xr_istore hk hn hi hl e, hzq⟩
theorem xw_istore_n {i : Fin 4} {x : Int} {ls' : List Value} (hk : xlook z pc = some (pc, .istore_n i, 1, a, b, v, w)) {n : Nat} (hn : pc + 1 = n) (hi : (i : Nat) < ls.length) (hl : xst1 ls i (vi x) = ls') (e : xW X d z n ls' st F Q) : xW X d z pc ls (vi x :: st) F Q := by
  obtain ⟨r, F', e, hzq⟩ := e
  exact ⟨r, F', xr_istore_n hk hn hi hl e, hzq⟩
theorem xw_astore {i : Nat} {x : Nat} {ls' : List Value} (hk : xlook z pc = some (pc, .astore i, 2, a, b, v, w)) {n : Nat} (hn : pc + 2 = n) (hi : i < ls.length) (hl : xst1 ls i (.ref x) = ls') (e : xW X d z n ls' st F Q) : xW X d z pc ls (.ref x :: st) F Q := by
  obtain ⟨r, F', e, hzq⟩ := e
  exact ⟨r, F', xr_astore hk hn hi hl e, hzq⟩
theorem xw_astore_n {i : Fin 4} {x : Nat} {ls' : List Value} (hk : xlook z pc = some (pc, .astore_n i, 1, a, b, v, w)) {n : Nat} (hn : pc + 1 = n) (hi : (i : Nat) < ls.length) (hl : xst1 ls i (.ref x) = ls') (e : xW X d z n ls' st F Q) : xW X d z pc ls (.ref x :: st) F Q := by
  obtain ⟨r, F', e, hzq⟩ := e
  exact ⟨r, F', xr_astore_n hk hn hi hl e, hzq⟩
theorem xw_lstore {i : Nat} {x : Int} {ls' : List Value} (hk : xlook z pc = some (pc, .lstore i, 2, a, b, v, w)) {n : Nat} (hn : pc + 2 = n) (hi : i + 1 < ls.length) (hl : xst2 ls i (vl x) = ls') (e : xW X d z n ls' st F Q) : xW X d z pc ls (vl x :: st) F Q := by
  obtain ⟨r, F', e, hzq⟩ := e
  exact ⟨r, F', xr_lstore hk hn hi hl e, hzq⟩
theorem xw_iinc {i : Nat} {c x : Int} {ls' : List Value} (hk : xlook z pc = some (pc, .iinc i c, 3, a, b, v, w)) {n : Nat} (hn : pc + 3 = n) (hl : ls[i]? = some (vi x)) (hl2 : xst1 ls i (vi (x + c)) = ls') (e : xW X d z n ls' st F Q) : xW X d z pc ls st F Q := by
  obtain ⟨r, F', e, hzq⟩ := e
  exact ⟨r, F', xr_iinc hk hn hl hl2 e, hzq⟩
theorem xw_iadd {x y : Int} (hk : xlook z pc = some (pc, .iadd, 1, a, b, v, w)) {n : Nat} (hn : pc + 1 = n) (e : xW X d z n ls (vi (x + y) :: st) F Q) : xW X d z pc ls (vi y :: vi x :: st) F Q := by
  obtain ⟨r, F', e, hzq⟩ := e
  exact ⟨r, F', xr_iadd hk hn e, hzq⟩
theorem xw_isub {x y : Int} (hk : xlook z pc = some (pc, .isub, 1, a, b, v, w)) {n : Nat} (hn : pc + 1 = n) (e : xW X d z n ls (vi (x - y) :: st) F Q) : xW X d z pc ls (vi y :: vi x :: st) F Q := by
  obtain ⟨r, F', e, hzq⟩ := e
  exact ⟨r, F', xr_isub hk hn e, hzq⟩
theorem xw_imul {x y : Int} (hk : xlook z pc = some (pc, .imul, 1, a, b, v, w)) {n : Nat} (hn : pc + 1 = n) (e : xW X d z n ls (vi (x * y) :: st) F Q) : xW X d z pc ls (vi y :: vi x :: st) F Q := by
  obtain ⟨r, F', e, hzq⟩ := e
  exact ⟨r, F', xr_imul hk hn e, hzq⟩
theorem xw_ladd {x y : Int} (hk : xlook z pc = some (pc, .ladd, 1, a, b, v, w)) {n : Nat} (hn : pc + 1 = n) (e : xW X d z n ls (vl (x + y) :: st) F Q) : xW X d z pc ls (vl y :: vl x :: st) F Q := by
  obtain ⟨r, F', e, hzq⟩ := e
  exact ⟨r, F', xr_ladd hk hn e, hzq⟩
theorem xw_lsub {x y : Int} (hk : xlook z pc = some (pc, .lsub, 1, a, b, v, w)) {n : Nat} (hn : pc + 1 = n) (e : xW X d z n ls (vl (x - y) :: st) F Q) : xW X d z pc ls (vl y :: vl x :: st) F Q := by
  obtain ⟨r, F', e, hzq⟩ := e
  exact ⟨r, F', xr_lsub hk hn e, hzq⟩
theorem xw_lmul {x y : Int} (hk : xlook z pc = some (pc, .lmul, 1, a, b, v, w)) {n : Nat} (hn : pc + 1 = n) (e : xW X d z n ls (vl (x * y) :: st) F Q) : xW X d z pc ls (vl y :: vl x :: st) F Q := by
  obtain ⟨r, F', e, hzq⟩ := e
  exact ⟨r, F', xr_lmul hk hn e, hzq⟩
theorem xw_iand {x y : Int} (hk : xlook z pc = some (pc, .iand, 1, a, b, v, w)) {n : Nat} (hn : pc + 1 = n) (e : xW X d z n ls (vi (xand x y) :: st) F Q) : xW X d z pc ls (vi y :: vi x :: st) F Q := by
  obtain ⟨r, F', e, hzq⟩ := e
  exact ⟨r, F', xr_iand hk hn e, hzq⟩
theorem xw_ior {x y : Int} (hk : xlook z pc = some (pc, .ior, 1, a, b, v, w)) {n : Nat} (hn : pc + 1 = n) (e : xW X d z n ls (vi (xior x y) :: st) F Q) : xW X d z pc ls (vi y :: vi x :: st) F Q := by
  obtain ⟨r, F', e, hzq⟩ := e
  exact ⟨r, F', xr_ior hk hn e, hzq⟩
theorem xw_ixor {x y : Int} (hk : xlook z pc = some (pc, .ixor, 1, a, b, v, w)) {n : Nat} (hn : pc + 1 = n) (e : xW X d z n ls (vi (xxor x y) :: st) F Q) : xW X d z pc ls (vi y :: vi x :: st) F Q := by
  obtain ⟨r, F', e, hzq⟩ := e
  exact ⟨r, F', xr_ixor hk hn e, hzq⟩
theorem xw_ishl {x y : Int} (hk : xlook z pc = some (pc, .ishl, 1, a, b, v, w)) {n : Nat} (hn : pc + 1 = n) (e : xW X d z n ls (vi (xshl x y) :: st) F Q) : xW X d z pc ls (vi y :: vi x :: st) F Q := by
  obtain ⟨r, F', e, hzq⟩ := e
  exact ⟨r, F', xr_ishl hk hn e, hzq⟩
theorem xw_ishr {x y : Int} (hk : xlook z pc = some (pc, .ishr, 1, a, b, v, w)) {n : Nat} (hn : pc + 1 = n) (e : xW X d z n ls (vi (xshr x y) :: st) F Q) : xW X d z pc ls (vi y :: vi x :: st) F Q := by
  obtain ⟨r, F', e, hzq⟩ := e
  exact ⟨r, F', xr_ishr hk hn e, hzq⟩
theorem xw_iushr {x y : Int} (hk : xlook z pc = some (pc, .iushr, 1, a, b, v, w)) {n : Nat} (hn : pc + 1 = n) (e : xW X d z n ls (vi (xush x y) :: st) F Q) : xW X d z pc ls (vi y :: vi x :: st) F Q := by
  obtain ⟨r, F', e, hzq⟩ := e
  exact ⟨r, F', xr_iushr hk hn e, hzq⟩
theorem xw_land {x y : Int} (hk : xlook z pc = some (pc, .land, 1, a, b, v, w)) {n : Nat} (hn : pc + 1 = n) (e : xW X d z n ls (vl (xlan x y) :: st) F Q) : xW X d z pc ls (vl y :: vl x :: st) F Q := by
  obtain ⟨r, F', e, hzq⟩ := e
  exact ⟨r, F', xr_land hk hn e, hzq⟩
theorem xw_lor {x y : Int} (hk : xlook z pc = some (pc, .lor, 1, a, b, v, w)) {n : Nat} (hn : pc + 1 = n) (e : xW X d z n ls (vl (xlor x y) :: st) F Q) : xW X d z pc ls (vl y :: vl x :: st) F Q := by
  obtain ⟨r, F', e, hzq⟩ := e
  exact ⟨r, F', xr_lor hk hn e, hzq⟩
theorem xw_lshl {x y : Int} (hk : xlook z pc = some (pc, .lshl, 1, a, b, v, w)) {n : Nat} (hn : pc + 1 = n) (e : xW X d z n ls (vl (xlsh x y) :: st) F Q) : xW X d z pc ls (vi y :: vl x :: st) F Q := by
  obtain ⟨r, F', e, hzq⟩ := e
  exact ⟨r, F', xr_lshl hk hn e, hzq⟩
theorem xw_i2b {x : Int} (hk : xlook z pc = some (pc, .i2b, 1, a, b, v, w)) {n : Nat} (hn : pc + 1 = n) (e : xW X d z n ls (vi (xbyte x) :: st) F Q) : xW X d z pc ls (vi x :: st) F Q := by
  obtain ⟨r, F', e, hzq⟩ := e
  exact ⟨r, F', xr_i2b hk hn e, hzq⟩
theorem xw_i2c {x : Int} (hk : xlook z pc = some (pc, .i2c, 1, a, b, v, w)) {n : Nat} (hn : pc + 1 = n) (e : xW X d z n ls (vi (xchr x) :: st) F Q) : xW X d z pc ls (vi x :: st) F Q := by
  obtain ⟨r, F', e, hzq⟩ := e
  exact ⟨r, F', xr_i2c hk hn e, hzq⟩
theorem xw_idiv {x y : Int} (hk : xlook z pc = some (pc, .idiv, 1, a, b, v, w)) {n : Nat} (hn : pc + 1 = n) (hx : 0 ≤ x ∧ x ≤ 2147483647) (hy : 0 < y ∧ y ≤ 2147483647) (e : xW X d z n ls (vi (x / y) :: st) F Q) : xW X d z pc ls (vi y :: vi x :: st) F Q := by
  obtain ⟨r, F', e, hzq⟩ := e
  exact ⟨r, F', xr_idiv hk hn hx hy e, hzq⟩
theorem xw_irem {x y : Int} (hk : xlook z pc = some (pc, .irem, 1, a, b, v, w)) {n : Nat} (hn : pc + 1 = n) (hx : 0 ≤ x ∧ x ≤ 2147483647) (hy : 0 < y ∧ y ≤ 2147483647) (e : xW X d z n ls (vi (x % y) :: st) F Q) : xW X d z pc ls (vi y :: vi x :: st) F Q := by
  obtain ⟨r, F', e, hzq⟩ := e
  exact ⟨r, F', xr_irem hk hn hx hy e, hzq⟩
theorem xw_ldiv {x y : Int} (hk : xlook z pc = some (pc, .ldiv, 1, a, b, v, w)) {n : Nat} (hn : pc + 1 = n) (hx : 0 ≤ x ∧ x ≤ 9223372036854775807) (hy : 0 < y ∧ y ≤ 9223372036854775807) (e : xW X d z n ls (vl (x / y) :: st) F Q) : xW X d z pc ls (vl y :: vl x :: st) F Q := by
  obtain ⟨r, F', e, hzq⟩ := e
  exact ⟨r, F', xr_ldiv hk hn hx hy e, hzq⟩
theorem xw_i2l {x : Int} (hk : xlook z pc = some (pc, .i2l, 1, a, b, v, w)) {n : Nat} (hn : pc + 1 = n) (hx : inR x) (e : xW X d z n ls (vl x :: st) F Q) : xW X d z pc ls (vi x :: st) F Q := by
  obtain ⟨r, F', e, hzq⟩ := e
  exact ⟨r, F', xr_i2l hk hn hx e, hzq⟩
theorem xw_lcmp {x y : Int} (hk : xlook z pc = some (pc, .lcmp, 1, a, b, v, w)) {n : Nat} (hn : pc + 1 = n) (hx : inL x) (hy : inL y) (e : xW X d z n ls (vi (xcmp x y) :: st) F Q) : xW X d z pc ls (vl y :: vl x :: st) F Q := by
  obtain ⟨r, F', e, hzq⟩ := e
  exact ⟨r, F', xr_lcmp hk hn hx hy e, hzq⟩
theorem xw_pop {x : Int} (hk : xlook z pc = some (pc, .pop, 1, a, b, v, w)) {n : Nat} (hn : pc + 1 = n) (e : xW X d z n ls st F Q) : xW X d z pc ls (vi x :: st) F Q := by
  obtain ⟨r, F', e, hzq⟩ := e
  exact ⟨r, F', xr_pop hk hn e, hzq⟩
theorem xw_dupi {x : Int} (hk : xlook z pc = some (pc, .dup, 1, a, b, v, w)) {n : Nat} (hn : pc + 1 = n) (e : xW X d z n ls (vi x :: vi x :: st) F Q) : xW X d z pc ls (vi x :: st) F Q := by
  obtain ⟨r, F', e, hzq⟩ := e
  exact ⟨r, F', xr_dupi hk hn e, hzq⟩
theorem xw_dupr {x : Nat} (hk : xlook z pc = some (pc, .dup, 1, a, b, v, w)) {n : Nat} (hn : pc + 1 = n) (e : xW X d z n ls (.ref x :: .ref x :: st) F Q) : xW X d z pc ls (.ref x :: st) F Q := by
  obtain ⟨r, F', e, hzq⟩ := e
  exact ⟨r, F', xr_dupr hk hn e, hzq⟩
theorem xw_dup2 {x : Int} {y : Nat} (hk : xlook z pc = some (pc, .dup2, 1, a, b, v, w)) {n : Nat} (hn : pc + 1 = n) (e : xW X d z n ls (vi x :: .ref y :: vi x :: .ref y :: st) F Q) : xW X d z pc ls (vi x :: .ref y :: st) F Q := by
  obtain ⟨r, F', e, hzq⟩ := e
  exact ⟨r, F', xr_dup2 hk hn e, hzq⟩
theorem xw_goto {f : Int} {m : Nat} (hk : xlook z pc = some (pc, .goto f, 3, a, b, v, w)) (hm : a = m) (e : xW X d z m ls st F Q) : xW X d z pc ls st F Q := by
  obtain ⟨r, F', e, hzq⟩ := e
  exact ⟨r, F', xr_goto hk hm e, hzq⟩
theorem xw_icmp_eq {x y f : Int} (hk : xlook z pc = some (pc, .if_icmp .eq f, 3, a, b, v, w)) {n m : Nat} (hn : pc + 3 = n) (hm : a = m) (hx : inR x) (hy : inR y) (e : (x = y → xW X d z m ls st F Q) ∧ (¬ (x = y) → xW X d z n ls st F Q)) : xW X d z pc ls (vi y :: vi x :: st) F Q := by
  rcases Classical.em (x = y) with c | c
  · obtain ⟨r, F', e, hzq⟩ := e.1 c
    exact ⟨r, F', xr_icmp_eq hk hn hm hx hy ⟨fun _ => e, fun k => absurd c k⟩, hzq⟩
  · obtain ⟨r, F', e, hzq⟩ := e.2 c
    exact ⟨r, F', xr_icmp_eq hk hn hm hx hy ⟨fun k => absurd k c, fun _ => e⟩, hzq⟩
theorem xw_if_eq {x f : Int} (hk : xlook z pc = some (pc, .ifCond .eq f, 3, a, b, v, w)) {n m : Nat} (hn : pc + 3 = n) (hm : a = m) (hx : inR x) (e : (x = 0 → xW X d z m ls st F Q) ∧ (¬ (x = 0) → xW X d z n ls st F Q)) : xW X d z pc ls (vi x :: st) F Q := by
  rcases Classical.em (x = 0) with c | c
  · obtain ⟨r, F', e, hzq⟩ := e.1 c
    exact ⟨r, F', xr_if_eq hk hn hm hx ⟨fun _ => e, fun k => absurd c k⟩, hzq⟩
  · obtain ⟨r, F', e, hzq⟩ := e.2 c
    exact ⟨r, F', xr_if_eq hk hn hm hx ⟨fun k => absurd k c, fun _ => e⟩, hzq⟩
theorem xw_icmp_ne {x y f : Int} (hk : xlook z pc = some (pc, .if_icmp .ne f, 3, a, b, v, w)) {n m : Nat} (hn : pc + 3 = n) (hm : a = m) (hx : inR x) (hy : inR y) (e : (¬ x = y → xW X d z m ls st F Q) ∧ (¬ (¬ x = y) → xW X d z n ls st F Q)) : xW X d z pc ls (vi y :: vi x :: st) F Q := by
  rcases Classical.em (¬ x = y) with c | c
  · obtain ⟨r, F', e, hzq⟩ := e.1 c
    exact ⟨r, F', xr_icmp_ne hk hn hm hx hy ⟨fun _ => e, fun k => absurd c k⟩, hzq⟩
  · obtain ⟨r, F', e, hzq⟩ := e.2 c
    exact ⟨r, F', xr_icmp_ne hk hn hm hx hy ⟨fun k => absurd k c, fun _ => e⟩, hzq⟩
theorem xw_if_ne {x f : Int} (hk : xlook z pc = some (pc, .ifCond .ne f, 3, a, b, v, w)) {n m : Nat} (hn : pc + 3 = n) (hm : a = m) (hx : inR x) (e : (¬ x = 0 → xW X d z m ls st F Q) ∧ (¬ (¬ x = 0) → xW X d z n ls st F Q)) : xW X d z pc ls (vi x :: st) F Q := by
  rcases Classical.em (¬ x = 0) with c | c
  · obtain ⟨r, F', e, hzq⟩ := e.1 c
    exact ⟨r, F', xr_if_ne hk hn hm hx ⟨fun _ => e, fun k => absurd c k⟩, hzq⟩
  · obtain ⟨r, F', e, hzq⟩ := e.2 c
    exact ⟨r, F', xr_if_ne hk hn hm hx ⟨fun k => absurd k c, fun _ => e⟩, hzq⟩
theorem xw_icmp_lt {x y f : Int} (hk : xlook z pc = some (pc, .if_icmp .lt f, 3, a, b, v, w)) {n m : Nat} (hn : pc + 3 = n) (hm : a = m) (hx : inR x) (hy : inR y) (e : (x < y → xW X d z m ls st F Q) ∧ (¬ (x < y) → xW X d z n ls st F Q)) : xW X d z pc ls (vi y :: vi x :: st) F Q := by
  rcases Classical.em (x < y) with c | c
  · obtain ⟨r, F', e, hzq⟩ := e.1 c
    exact ⟨r, F', xr_icmp_lt hk hn hm hx hy ⟨fun _ => e, fun k => absurd c k⟩, hzq⟩
  · obtain ⟨r, F', e, hzq⟩ := e.2 c
    exact ⟨r, F', xr_icmp_lt hk hn hm hx hy ⟨fun k => absurd k c, fun _ => e⟩, hzq⟩
theorem xw_if_lt {x f : Int} (hk : xlook z pc = some (pc, .ifCond .lt f, 3, a, b, v, w)) {n m : Nat} (hn : pc + 3 = n) (hm : a = m) (hx : inR x) (e : (x < 0 → xW X d z m ls st F Q) ∧ (¬ (x < 0) → xW X d z n ls st F Q)) : xW X d z pc ls (vi x :: st) F Q := by
  rcases Classical.em (x < 0) with c | c
  · obtain ⟨r, F', e, hzq⟩ := e.1 c
    exact ⟨r, F', xr_if_lt hk hn hm hx ⟨fun _ => e, fun k => absurd c k⟩, hzq⟩
  · obtain ⟨r, F', e, hzq⟩ := e.2 c
    exact ⟨r, F', xr_if_lt hk hn hm hx ⟨fun k => absurd k c, fun _ => e⟩, hzq⟩
theorem xw_icmp_ge {x y f : Int} (hk : xlook z pc = some (pc, .if_icmp .ge f, 3, a, b, v, w)) {n m : Nat} (hn : pc + 3 = n) (hm : a = m) (hx : inR x) (hy : inR y) (e : (y ≤ x → xW X d z m ls st F Q) ∧ (¬ (y ≤ x) → xW X d z n ls st F Q)) : xW X d z pc ls (vi y :: vi x :: st) F Q := by
  rcases Classical.em (y ≤ x) with c | c
  · obtain ⟨r, F', e, hzq⟩ := e.1 c
    exact ⟨r, F', xr_icmp_ge hk hn hm hx hy ⟨fun _ => e, fun k => absurd c k⟩, hzq⟩
  · obtain ⟨r, F', e, hzq⟩ := e.2 c
    exact ⟨r, F', xr_icmp_ge hk hn hm hx hy ⟨fun k => absurd k c, fun _ => e⟩, hzq⟩
theorem xw_if_ge {x f : Int} (hk : xlook z pc = some (pc, .ifCond .ge f, 3, a, b, v, w)) {n m : Nat} (hn : pc + 3 = n) (hm : a = m) (hx : inR x) (e : (0 ≤ x → xW X d z m ls st F Q) ∧ (¬ (0 ≤ x) → xW X d z n ls st F Q)) : xW X d z pc ls (vi x :: st) F Q := by
  rcases Classical.em (0 ≤ x) with c | c
  · obtain ⟨r, F', e, hzq⟩ := e.1 c
    exact ⟨r, F', xr_if_ge hk hn hm hx ⟨fun _ => e, fun k => absurd c k⟩, hzq⟩
  · obtain ⟨r, F', e, hzq⟩ := e.2 c
    exact ⟨r, F', xr_if_ge hk hn hm hx ⟨fun k => absurd k c, fun _ => e⟩, hzq⟩
theorem xw_icmp_gt {x y f : Int} (hk : xlook z pc = some (pc, .if_icmp .gt f, 3, a, b, v, w)) {n m : Nat} (hn : pc + 3 = n) (hm : a = m) (hx : inR x) (hy : inR y) (e : (y < x → xW X d z m ls st F Q) ∧ (¬ (y < x) → xW X d z n ls st F Q)) : xW X d z pc ls (vi y :: vi x :: st) F Q := by
  rcases Classical.em (y < x) with c | c
  · obtain ⟨r, F', e, hzq⟩ := e.1 c
    exact ⟨r, F', xr_icmp_gt hk hn hm hx hy ⟨fun _ => e, fun k => absurd c k⟩, hzq⟩
  · obtain ⟨r, F', e, hzq⟩ := e.2 c
    exact ⟨r, F', xr_icmp_gt hk hn hm hx hy ⟨fun k => absurd k c, fun _ => e⟩, hzq⟩
theorem xw_if_gt {x f : Int} (hk : xlook z pc = some (pc, .ifCond .gt f, 3, a, b, v, w)) {n m : Nat} (hn : pc + 3 = n) (hm : a = m) (hx : inR x) (e : (0 < x → xW X d z m ls st F Q) ∧ (¬ (0 < x) → xW X d z n ls st F Q)) : xW X d z pc ls (vi x :: st) F Q := by
  rcases Classical.em (0 < x) with c | c
  · obtain ⟨r, F', e, hzq⟩ := e.1 c
    exact ⟨r, F', xr_if_gt hk hn hm hx ⟨fun _ => e, fun k => absurd c k⟩, hzq⟩
  · obtain ⟨r, F', e, hzq⟩ := e.2 c
    exact ⟨r, F', xr_if_gt hk hn hm hx ⟨fun k => absurd k c, fun _ => e⟩, hzq⟩
theorem xw_icmp_le {x y f : Int} (hk : xlook z pc = some (pc, .if_icmp .le f, 3, a, b, v, w)) {n m : Nat} (hn : pc + 3 = n) (hm : a = m) (hx : inR x) (hy : inR y) (e : (x ≤ y → xW X d z m ls st F Q) ∧ (¬ (x ≤ y) → xW X d z n ls st F Q)) : xW X d z pc ls (vi y :: vi x :: st) F Q := by
  rcases Classical.em (x ≤ y) with c | c
  · obtain ⟨r, F', e, hzq⟩ := e.1 c
    exact ⟨r, F', xr_icmp_le hk hn hm hx hy ⟨fun _ => e, fun k => absurd c k⟩, hzq⟩
  · obtain ⟨r, F', e, hzq⟩ := e.2 c
    exact ⟨r, F', xr_icmp_le hk hn hm hx hy ⟨fun k => absurd k c, fun _ => e⟩, hzq⟩
theorem xw_if_le {x f : Int} (hk : xlook z pc = some (pc, .ifCond .le f, 3, a, b, v, w)) {n m : Nat} (hn : pc + 3 = n) (hm : a = m) (hx : inR x) (e : (x ≤ 0 → xW X d z m ls st F Q) ∧ (¬ (x ≤ 0) → xW X d z n ls st F Q)) : xW X d z pc ls (vi x :: st) F Q := by
  rcases Classical.em (x ≤ 0) with c | c
  · obtain ⟨r, F', e, hzq⟩ := e.1 c
    exact ⟨r, F', xr_if_le hk hn hm hx ⟨fun _ => e, fun k => absurd c k⟩, hzq⟩
  · obtain ⟨r, F', e, hzq⟩ := e.2 c
    exact ⟨r, F', xr_if_le hk hn hm hx ⟨fun k => absurd k c, fun _ => e⟩, hzq⟩
theorem xw_tabOut {x df lo hi : Int} {offs : Array Int} {len t : Nat} (hk : xlook z pc = some (pc, .tableswitch df lo hi offs, len, a, b, v, w)) (hx : inR x) (h : x < lo ∨ hi < x) (ht : (pc : Int) + df = (t : Int)) (e : xW X d z t ls st F Q) : xW X d z pc ls (vi x :: st) F Q := by
  obtain ⟨r, F', e, hzq⟩ := e
  exact ⟨r, F', xr_tabOut hk hx h ht e, hzq⟩
theorem xw_tabIn {x df lo hi off : Int} {offs : Array Int} {len t : Nat} (hk : xlook z pc = some (pc, .tableswitch df lo hi offs, len, a, b, v, w)) (hx : inR x) (h : ¬ (x < lo ∨ hi < x)) (ho : offs[(x - lo).toNat]? = some off) (ht : (pc : Int) + off = (t : Int)) (e : xW X d z t ls st F Q) : xW X d z pc ls (vi x :: st) F Q := by
  obtain ⟨r, F', e, hzq⟩ := e
  exact ⟨r, F', xr_tabIn hk hx h ho ht e, hzq⟩
theorem xw_geti {i o : Nat} (hk : xlook z pc = some (pc, .getfield i, 3, a, b, v, w)) (ha : ¬ a = 100) (ho : o < 146 ∧ xkd0 o = a ∧ b < xln0 o) (ht : xisR (xty a b) = false) {n : Nat} (hn : pc + 3 = n) (e : xW X d z n ls (vi (F o b) :: st) F Q) : xW X d z pc ls (.ref o :: st) F Q := by
  obtain ⟨r, F', e, hzq⟩ := e
  exact ⟨r, F', xr_geti hk ha ho ht hn e, hzq⟩
theorem xw_getr {i o q : Nat} (hk : xlook z pc = some (pc, .getfield i, 3, a, b, v, w)) (ha : ¬ a = 100) (ho : o < 146 ∧ xkd0 o = a ∧ b < xln0 o) (ht : xisR (xty a b) = true) (hq : F o b = (q : Int)) (hq9 : q < 1000000) {n : Nat} (hn : pc + 3 = n) (e : xW X d z n ls (.ref q :: st) F Q) : xW X d z pc ls (.ref o :: st) F Q := by
  obtain ⟨r, F', e, hzq⟩ := e
  exact ⟨r, F', xr_getr hk ha ho ht hq hq9 hn e, hzq⟩
theorem xw_puti {i o : Nat} {x : Int} (hk : xlook z pc = some (pc, .putfield i, 3, a, b, v, w)) (ho : o < 146 ∧ xkd0 o = a ∧ b < xln0 o) (ht : xty a b = .int) {n : Nat} (hn : pc + 3 = n) (e : xW X d z n ls st (xup F o b x) Q) : xW X d z pc ls (vi x :: .ref o :: st) F Q := by
  obtain ⟨r, F', e, hzq⟩ := e
  exact ⟨r, F', xr_puti hk ho ht hn e, hzq⟩
theorem xw_putz {i o : Nat} {x : Int} (hk : xlook z pc = some (pc, .putfield i, 3, a, b, v, w)) (ho : o < 146 ∧ xkd0 o = a ∧ b < xln0 o) (ht : xty a b = .boolean) (hx : x = 0 ∨ x = 1) {n : Nat} (hn : pc + 3 = n) (e : xW X d z n ls st (xup F o b x) Q) : xW X d z pc ls (vi x :: .ref o :: st) F Q := by
  obtain ⟨r, F', e, hzq⟩ := e
  exact ⟨r, F', xr_putz hk ho ht hx hn e, hzq⟩
theorem xw_putr {i o q : Nat} (hk : xlook z pc = some (pc, .putfield i, 3, a, b, v, w)) (ho : o < 146 ∧ xkd0 o = a ∧ b < xln0 o) (ht : xisR (xty a b) = true) (hq : q < 1000000) {n : Nat} (hn : pc + 3 = n) (e : xW X d z n ls st (xup F o b q) Q) : xW X d z pc ls (.ref q :: .ref o :: st) F Q := by
  obtain ⟨r, F', e, hzq⟩ := e
  exact ⟨r, F', xr_putr hk ho ht hq hn e, hzq⟩
theorem xw_iald {o : Nat} {i : Int} (hk : xlook z pc = some (pc, .iaload, 1, a, b, v, w)) (ho : o < 146 ∧ xkd0 o = 13) (hi : 0 ≤ i ∧ i < (xln0 o : Int)) {n : Nat} (hn : pc + 1 = n) (e : xW X d z n ls (vi (F o i) :: st) F Q) : xW X d z pc ls (vi i :: .ref o :: st) F Q := by
  obtain ⟨r, F', e, hzq⟩ := e
  exact ⟨r, F', xr_iald hk ho hi hn e, hzq⟩
theorem xw_bald {o : Nat} {i : Int} (hk : xlook z pc = some (pc, .baload, 1, a, b, v, w)) (ho : o < 146 ∧ xkd0 o = 14) (hi : 0 ≤ i ∧ i < (xln0 o : Int)) {n : Nat} (hn : pc + 1 = n) (e : xW X d z n ls (vi (F o i) :: st) F Q) : xW X d z pc ls (vi i :: .ref o :: st) F Q := by
  obtain ⟨r, F', e, hzq⟩ := e
  exact ⟨r, F', xr_bald hk ho hi hn e, hzq⟩
theorem xw_aald {o q : Nat} {i : Int} (hk : xlook z pc = some (pc, .aaload, 1, a, b, v, w)) (ho : o < 146 ∧ (xkd0 o = 15 ∨ xkd0 o = 16)) (hi : 0 ≤ i ∧ i < (xln0 o : Int)) (hq : F o i = (q : Int)) (hq9 : q < 1000000) {n : Nat} (hn : pc + 1 = n) (e : xW X d z n ls (.ref q :: st) F Q) : xW X d z pc ls (vi i :: .ref o :: st) F Q := by
  obtain ⟨r, F', e, hzq⟩ := e
  exact ⟨r, F', xr_aald hk ho hi hq hq9 hn e, hzq⟩
theorem xw_iast {o : Nat} {i x : Int} (hk : xlook z pc = some (pc, .iastore, 1, a, b, v, w)) (ho : o < 146 ∧ xkd0 o = 13) (hi : 0 ≤ i ∧ i < (xln0 o : Int)) {n : Nat} (hn : pc + 1 = n) (e : xW X d z n ls st (xup F o i x) Q) : xW X d z pc ls (vi x :: vi i :: .ref o :: st) F Q := by
  obtain ⟨r, F', e, hzq⟩ := e
  exact ⟨r, F', xr_iast hk ho hi hn e, hzq⟩
theorem xw_bast {o : Nat} {i x : Int} (hk : xlook z pc = some (pc, .bastore, 1, a, b, v, w)) (ho : o < 146 ∧ xkd0 o = 14) (hi : 0 ≤ i ∧ i < (xln0 o : Int)) {n : Nat} (hn : pc + 1 = n) (e : xW X d z n ls st (xup F o i (xbyte x)) Q) : xW X d z pc ls (vi x :: vi i :: .ref o :: st) F Q := by
  obtain ⟨r, F', e, hzq⟩ := e
  exact ⟨r, F', xr_bast hk ho hi hn e, hzq⟩
theorem xw_alen {o : Nat} (hk : xlook z pc = some (pc, .arraylength, 1, a, b, v, w)) (ho : o < 146 ∧ 13 ≤ xkd0 o ∧ xkd0 o ≤ 16) {n : Nat} (hn : pc + 1 = n) (e : xW X d z n ls (vi (xln0 o) :: st) F Q) : xW X d z pc ls (.ref o :: st) F Q := by
  obtain ⟨r, F', e, hzq⟩ := e
  exact ⟨r, F', xr_alen hk ho hn e, hzq⟩
theorem xw_sald {i : Int} (hk : xlook z pc = some (pc, .iaload, 1, a, b, v, w)) (hX : X.length ≤ 4000) (hi : 0 ≤ i ∧ i < (X.length : Int)) {n : Nat} (hn : pc + 1 = n) (e : xW X d z n ls (vi (xsc X i) :: st) F Q) : xW X d z pc ls (vi i :: .ref xSC :: st) F Q := by
  obtain ⟨r, F', e, hzq⟩ := e
  exact ⟨r, F', xr_sald hk hX hi hn e, hzq⟩
theorem xw_slen (hk : xlook z pc = some (pc, .arraylength, 1, a, b, v, w)) (hX : X.length ≤ 4000) {n : Nat} (hn : pc + 1 = n) (e : xW X d z n ls (vi (X.length : Int) :: st) F Q) : xW X d z pc ls (.ref xSC :: st) F Q := by
  obtain ⟨r, F', e, hzq⟩ := e
  exact ⟨r, F', xr_slen hk hX hn e, hzq⟩
theorem xw_max {i : Nat} {x y : Int} (hk : xlook z pc = some (pc, .invokestatic i, 3, a, b, v, w)) (ha : a = 1001) (hs : (st.map Value.category).sum ≤ 8) (hx : inR x) (hy : inR y) {n : Nat} (hn : pc + 3 = n) (e : xW X d z n ls (vi (max x y) :: st) F Q) : xW X d z pc ls (vi y :: vi x :: st) F Q := by
  obtain ⟨r, F', e, hzq⟩ := e
  exact ⟨r, F', xr_max hk ha hs hx hy hn e, hzq⟩
theorem xw_min {i : Nat} {x y : Int} (hk : xlook z pc = some (pc, .invokestatic i, 3, a, b, v, w)) (ha : a = 1002) (hs : (st.map Value.category).sum ≤ 8) (hx : inR x) (hy : inR y) {n : Nat} (hn : pc + 3 = n) (e : xW X d z n ls (vi (min x y) :: st) F Q) : xW X d z pc ls (vi y :: vi x :: st) F Q := by
  obtain ⟨r, F', e, hzq⟩ := e
  exact ⟨r, F', xr_min hk ha hs hx hy hn e, hzq⟩
theorem xw_abs {i : Nat} {x : Int} (hk : xlook z pc = some (pc, .invokestatic i, 3, a, b, v, w)) (ha : a = 1003) (hs : (st.map Value.category).sum ≤ 8) (hx : inR x) {n : Nat} (hn : pc + 3 = n) (e : xW X d z n ls (vi (if 0 ≤ x then x else 0 - x) :: st) F Q) : xW X d z pc ls (vi x :: st) F Q := by
  obtain ⟨r, F', e, hzq⟩ := e
  exact ⟨r, F', xr_abs hk ha hs hx hn e, hzq⟩
theorem xw_copy {i o q : Nat} {nn dp sp : Int} (hk : xlook z pc = some (pc, .invokestatic i, 3, a, b, v, w)) (ha : a = 1004) (hs : (st.map Value.category).sum ≤ 8) (ho : o < 146 ∧ xkd0 o = 13) (hq : q < 146 ∧ xkd0 q = 13) (h1 : 0 ≤ sp) (h2 : 0 ≤ dp) (h3 : 0 ≤ nn) (h4 : sp + nn ≤ xln0 q) (h5 : dp + nn ≤ xln0 o) {n : Nat} (hn : pc + 3 = n) (e : xW X d z n ls st (xcopy F q sp o dp nn) Q) : xW X d z pc ls (vi nn :: vi dp :: .ref o :: vi sp :: .ref q :: st) F Q := by
  obtain ⟨r, F', e, hzq⟩ := e
  exact ⟨r, F', xr_copy hk ha hs ho hq h1 h2 h3 h4 h5 hn e, hzq⟩
theorem xw_ireturn {Q : Int → XF → Prop} (hP : xPT F) {x : Int} (hk : xlook z pc = some (pc, .ireturn, 1, a, b, v, w)) (h : xrt z = some .int) (q : Q x F) : xW X d z pc ls [vi x] F (xqi Q) := ⟨_, _, xr_ireturn hk h, hP, x, rfl, q⟩
theorem xw_zreturn {Q : Int → XF → Prop} (hP : xPT F) {x : Int} (hk : xlook z pc = some (pc, .ireturn, 1, a, b, v, w)) (h : xrt z = some .boolean) (hx : x = 0 ∨ x = 1) (q : Q x F) : xW X d z pc ls [vi x] F (xqi Q) := ⟨_, _, xr_zreturn hk h hx, hP, x, rfl, q⟩
theorem xw_lreturn {Q : Int → XF → Prop} (hP : xPT F) {x : Int} (hk : xlook z pc = some (pc, .lreturn, 1, a, b, v, w)) (h : xrt z = some .long) (q : Q x F) : xW X d z pc ls [vl x] F (xql Q) := ⟨_, _, xr_lreturn hk h, hP, x, rfl, q⟩
theorem xw_areturn {Q : Nat → XF → Prop} (hP : xPT F) {x : Nat} {ty : FieldType} (hk : xlook z pc = some (pc, .areturn, 1, a, b, v, w)) (h : xrt z = some ty) (hx : xisR ty = true) (h9 : xob 9 x) (q : Q x F) : xW X d z pc ls [.ref x] F (xqr Q) := ⟨_, _, xr_areturn hk h hx, hP, x, rfl, h9, q⟩
theorem xw_return {Q : XF → Prop} (hP : xPT F) (hk : xlook z pc = some (pc, .return_, 1, a, b, v, w)) (h : xrt z = none) (q : Q F) : xW X d z pc ls [] F (xqv Q) := ⟨_, _, xr_return hk h, hP, rfl, q⟩
theorem xw_calls {i dk : Nat} {as : List Value} {F1 : XF} {r1 : Option Value} (hk : xlook z pc = some (pc, .invokestatic i, 3, a, b, v, w)) (ha : a < 228) (hd : dk < d) (hb : b ≤ st.length ∧ ((st.drop b).map Value.category).sum ≤ 8 ∧ (xxp as).length ≤ xmx a ∧ xoc a ≠ 14) (has : (st.take b).reverse = as) (e1 : xM X dk a as F r1 F1) {n : Nat} (hn : pc + 3 = n) (e2 : xW X d z n ls (r1.toList ++ st.drop b) F1 Q) : xW X d z pc ls st F Q := by
  obtain ⟨r, F', e2, hzq⟩ := e2
  exact ⟨r, F', xr_calls hk ha hd hb has e1 hn e2, hzq⟩
theorem xw_callv {i dk o : Nat} {as : List Value} {F1 : XF} {r1 : Option Value} (hk : xlook z pc = some (pc, .invokevirtual i, 3, a, b, v, w)) (ha : a < 228) (hd : dk < d) (hb : b ≤ st.length ∧ ((st.drop b).map Value.category).sum ≤ 8 ∧ (xxp (.ref o :: as)).length ≤ xmx a) (ho : o < 146 ∧ xkd0 o = xoc a ∧ xoc a < 13) (has : (st.take b).reverse = .ref o :: as) (e1 : xM X dk a (.ref o :: as) F r1 F1) {n : Nat} (hn : pc + 3 = n) (e2 : xW X d z n ls (r1.toList ++ st.drop b) F1 Q) : xW X d z pc ls st F Q := by
  obtain ⟨r, F', e2, hzq⟩ := e2
  exact ⟨r, F', xr_callv hk ha hd hb ho has e1 hn e2, hzq⟩
theorem xw_callt {i dk k : Nat} {as : List Value} {F1 : XF} {r1 : Option Value} (hk : xlook z pc = some (pc, .invokevirtual i, 3, a, b, v, w)) (ha : a < 228) (hd : dk < d) (hb : b ≤ st.length ∧ ((st.drop b).map Value.category).sum ≤ 8 ∧ (xxp (.ref (xSB + 2 * k) :: as)).length ≤ xmx a) (ho : xoc a = 14 ∧ k < 19) (has : (st.take b).reverse = .ref (xSB + 2 * k) :: as) (e1 : xM X dk a (.ref (xSB + 2 * k) :: as) F r1 F1) {n : Nat} (hn : pc + 3 = n) (e2 : xW X d z n ls (r1.toList ++ st.drop b) F1 Q) : xW X d z pc ls st F Q := by
  obtain ⟨r, F', e2, hzq⟩ := e2
  exact ⟨r, F', xr_callt hk ha hd hb ho has e1 hn e2, hzq⟩
theorem xw_geti2 {i o : Nat} {u : Int} (hk : xlook z pc = some (pc, .getfield i, 3, a, b, v, w)) (ha : ¬ a = 100) (ho : o < 146 ∧ xkd0 o = a ∧ b < xln0 o) (ht : xisR (xty a b) = false) (hu : F o b = u) {n : Nat} (hn : pc + 3 = n) (e : xW X d z n ls (vi u :: st) F Q) : xW X d z pc ls (.ref o :: st) F Q := xw_geti hk ha ho ht hn (by rw [hu]; exact e)
theorem xw_iald2 {o : Nat} {i u : Int} (hk : xlook z pc = some (pc, .iaload, 1, a, b, v, w)) (ho : o < 146 ∧ xkd0 o = 13) (hi : 0 ≤ i ∧ i < (xln0 o : Int)) (hu : F o i = u) {n : Nat} (hn : pc + 1 = n) (e : xW X d z n ls (vi u :: st) F Q) : xW X d z pc ls (vi i :: .ref o :: st) F Q := xw_iald hk ho hi hn (by rw [hu]; exact e)
theorem xw_bald2 {o : Nat} {i u : Int} (hk : xlook z pc = some (pc, .baload, 1, a, b, v, w)) (ho : o < 146 ∧ xkd0 o = 14) (hi : 0 ≤ i ∧ i < (xln0 o : Int)) (hu : F o i = u) {n : Nat} (hn : pc + 1 = n) (e : xW X d z n ls (vi u :: st) F Q) : xW X d z pc ls (vi i :: .ref o :: st) F Q := xw_bald hk ho hi hn (by rw [hu]; exact e)
end XWU
