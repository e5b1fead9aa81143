/-! a rule an instruction, over the memory -/
abbrev xE (X : List Int32) (d z pc : Nat) (ls st : List Value) (F : XF) (r : Option Value) (F' : XF) : Prop := xEv X d z pc ls st (xhp F) r (xhp F')
/-- a method z with these arguments -/
abbrev xM (X : List Int32) (d z : Nat) (as : List Value) (F : XF) (r : Option Value) (F' : XF) : Prop := xE X d z 0 (xloc z as) [] F r F'
section XRU
variable {X : List Int32} {d z pc a b w : Nat} {v : Int} {ls st : List Value} {F F' : XF} {r : Option Value}
theorem xr_iconst {c : Int} (hk : xlook z pc = some (pc, .iconst c, 1, a, b, v, w)) {n : Nat} (hn : pc + 1 = n)  (e : xE X d z n ls (vi c :: st) F r F') : xE X d z pc ls st F r F' := by
  subst hn
  refine xE_step hk rfl (fun _ => rfl) ?_ e
  simp only [xstep]
theorem xr_bipush {c : Int} (hk : xlook z pc = some (pc, .bipush c, 2, a, b, v, w)) {n : Nat} (hn : pc + 2 = n) (hc : (Int8.ofInt c).toInt32 = Int32.ofInt c) (e : xE X d z n ls (vi c :: st) F r F') : xE X d z pc ls st F r F' := by
  subst hn
  refine xE_step hk rfl (fun _ => rfl) ?_ e
  simp only [xstep, hc]
theorem xr_sipush {c : Int} (hk : xlook z pc = some (pc, .sipush c, 3, a, b, v, w)) {n : Nat} (hn : pc + 3 = n) (hc : (Int16.ofInt c).toInt32 = Int32.ofInt c) (e : xE X d z n ls (vi c :: st) F r F') : xE X d z pc ls st F r F' := by
  subst hn
  refine xE_step hk rfl (fun _ => rfl) ?_ e
  simp only [xstep, hc]
theorem xr_lconst {c : Fin 2} {k : Int} (hk : xlook z pc = some (pc, .lconst c, 1, a, b, v, w)) {n : Nat} (hn : pc + 1 = n) (hc : Int64.ofNat c = Int64.ofInt k) (e : xE X d z n ls (vl k :: st) F r F') : xE X d z pc ls st F r F' := by
  subst hn
  refine xE_step hk rfl (fun _ => rfl) ?_ e
  simp only [xstep, hc]
theorem xr_ldc {i : Nat} (hk : xlook z pc = some (pc, .ldc i, 2, a, b, v, w)) {n : Nat} (hn : pc + 2 = n) (hb : b = 0) (e : xE X d z n ls (vi v :: st) F r F') : xE X d z pc ls st F r F' := by
  subst hn
  refine xE_step hk rfl (fun _ => rfl) ?_ e
  simp only [xstep, hb, if_true]
theorem xr_ldcs {i : Nat} (hk : xlook z pc = some (pc, .ldc i, 2, a, b, v, w)) {n : Nat} (hn : pc + 2 = n) (hb : b = 1 ∧ a < 19) (e : xE X d z n ls (.ref (xSB + 2 * a) :: st) F r F') : xE X d z pc ls st F r F' := by
  subst hn
  refine xE_step hk rfl (fun _ => rfl) ?_ e
  simp only [xstep]
  rw [if_neg (by omega), if_pos hb]
theorem xr_ldcw {i : Nat} (hk : xlook z pc = some (pc, .ldc_w i, 3, a, b, v, w)) {n : Nat} (hn : pc + 3 = n) (hb : b = 0) (e : xE X d z n ls (vi v :: st) F r F') : xE X d z pc ls st F r F' := by
  subst hn
  refine xE_step hk rfl (fun _ => rfl) ?_ e
  simp only [xstep, hb, if_true]
theorem xr_ldc2 {i : Nat} (hk : xlook z pc = some (pc, .ldc2_w i, 3, a, b, v, w)) {n : Nat} (hn : pc + 3 = n)  (e : xE X d z n ls (vl v :: st) F r F') : xE X d z pc ls st F r F' := by
  subst hn
  refine xE_step hk rfl (fun _ => rfl) ?_ e
  simp only [xstep]
theorem xr_iload {i : Nat} {x : Int} (hk : xlook z pc = some (pc, .iload i, 2, a, b, v, w)) {n : Nat} (hn : pc + 2 = n) (hl : ls[i]? = some (vi x)) (e : xE X d z n ls (vi x :: st) F r F') : xE X d z pc ls st F r F' := by
  subst hn
  refine xE_step hk rfl (fun _ => rfl) ?_ e
  simp only [xstep, xload, hl, if_true]
theorem xr_iload_n {i : Fin 4} {x : Int} (hk : xlook z pc = some (pc, .iload_n i, 1, a, b, v, w)) {n : Nat} (hn : pc + 1 = n) (hl : ls[(i : Nat)]? = some (vi x)) (e : xE X d z n ls (vi x :: st) F r F') : xE X d z pc ls st F r F' := by
  subst hn
  refine xE_step hk rfl (fun _ => rfl) ?_ e
  simp only [xstep, xload, hl, if_true]
theorem xr_lload {i : Nat} {x : Int} (hk : xlook z pc = some (pc, .lload i, 2, a, b, v, w)) {n : Nat} (hn : pc + 2 = n) (hl : ls[i]? = some (vl x)) (e : xE X d z n ls (vl x :: st) F r F') : xE X d z pc ls st F r F' := by
  subst hn
  refine xE_step hk rfl (fun _ => rfl) ?_ e
  simp only [xstep, xload, hl, if_true]
theorem xr_lload_n {i : Fin 4} {x : Int} (hk : xlook z pc = some (pc, .lload_n i, 1, a, b, v, w)) {n : Nat} (hn : pc + 1 = n) (hl : ls[(i : Nat)]? = some (vl x)) (e : xE X d z n ls (vl x :: st) F r F') : xE X d z pc ls st F r F' := by
  subst hn
  refine xE_step hk rfl (fun _ => rfl) ?_ e
  simp only [xstep, xload, hl, if_true]
theorem xr_aload {i : Nat} {x : Nat} (hk : xlook z pc = some (pc, .aload i, 2, a, b, v, w)) {n : Nat} (hn : pc + 2 = n) (hl : ls[i]? = some (.ref x)) (e : xE X d z n ls (.ref x :: st) F r F') : xE X d z pc ls st F r F' := by
  subst hn
  refine xE_step hk rfl (fun _ => rfl) ?_ e
  simp only [xstep, xload, hl, if_true]
theorem xr_aload_n {i : Fin 4} {x : Nat} (hk : xlook z pc = some (pc, .aload_n i, 1, a, b, v, w)) {n : Nat} (hn : pc + 1 = n) (hl : ls[(i : Nat)]? = some (.ref x)) (e : xE X d z n ls (.ref x :: st) F r F') : xE X d z pc ls st F r F' := by
  subst hn
  refine xE_step hk rfl (fun _ => rfl) ?_ e
  simp only [xstep, xload, hl, if_true]
theorem xr_istore {i : Nat} {x : Int} {ls' : List Value} (hk : xlook z pc = some (pc, .istore i, 2, a, b, v, w)) {n : Nat} (hn : pc + 2 = n) (hi : i < ls.length) (hl : xst1 ls i (vi x) = ls') (e : xE X d z n ls' st F r F') : xE X d z pc ls (vi x :: st) F r F' := by
  subst hn
  refine xE_step hk rfl (fun _ => rfl) ?_ e
  simp only [xstep, xstore]
  rw [if_pos ⟨trivial, hi⟩, hl]
theorem xr_istore_n {i : Fin 4} {x : Int} {ls' : List Value} (hk : xlook z pc = some (pc, .istore_n i, 1, a, b, v, w)) {n : Nat} (hn : pc + 1 = n) (hi : (i : Nat) < ls.length) (hl : xst1 ls i (vi x) = ls') (e : xE X d z n ls' st F r F') : xE X d z pc ls (vi x :: st) F r F' := by
  subst hn
  refine xE_step hk rfl (fun _ => rfl) ?_ e
  simp only [xstep, xstore]
  rw [if_pos ⟨trivial, hi⟩, hl]
theorem xr_astore {i : Nat} {x : Nat} {ls' : List Value} (hk : xlook z pc = some (pc, .astore i, 2, a, b, v, w)) {n : Nat} (hn : pc + 2 = n) (hi : i < ls.length) (hl : xst1 ls i (.ref x) = ls') (e : xE X d z n ls' st F r F') : xE X d z pc ls (.ref x :: st) F r F' := by
  subst hn
  refine xE_step hk rfl (fun _ => rfl) ?_ e
  simp only [xstep, xstore]
  rw [if_pos ⟨trivial, hi⟩, hl]
theorem xr_astore_n {i : Fin 4} {x : Nat} {ls' : List Value} (hk : xlook z pc = some (pc, .astore_n i, 1, a, b, v, w)) {n : Nat} (hn : pc + 1 = n) (hi : (i : Nat) < ls.length) (hl : xst1 ls i (.ref x) = ls') (e : xE X d z n ls' st F r F') : xE X d z pc ls (.ref x :: st) F r F' := by
  subst hn
  refine xE_step hk rfl (fun _ => rfl) ?_ e
  simp only [xstep, xstore]
  rw [if_pos ⟨trivial, hi⟩, hl]
theorem xr_lstore {i : Nat} {x : Int} {ls' : List Value} (hk : xlook z pc = some (pc, .lstore i, 2, a, b, v, w)) {n : Nat} (hn : pc + 2 = n) (hi : i + 1 < ls.length) (hl : xst2 ls i (vl x) = ls') (e : xE X d z n ls' st F r F') : xE X d z pc ls (vl x :: st) F r F' := by
  subst hn
  refine xE_step hk rfl (fun _ => rfl) ?_ e
  simp only [xstep, xstore]
  rw [if_pos ⟨trivial, hi⟩, hl]
theorem xr_iinc {i : Nat} {c x : Int} {ls' : List Value} (hk : xlook z pc = some (pc, .iinc i c, 3, a, b, v, w)) {n : Nat} (hn : pc + 3 = n) (hl : ls[i]? = some (vi x)) (hl2 : xst1 ls i (vi (x + c)) = ls') (e : xE X d z n ls' st F r F') : xE X d z pc ls st F r F' := by
  subst hn
  refine xE_step hk rfl (fun _ => rfl) ?_ e
  simp only [xstep, hl]
  rw [← Int32.ofInt_add, hl2]
theorem xr_iadd {x y : Int} (hk : xlook z pc = some (pc, .iadd, 1, a, b, v, w)) {n : Nat} (hn : pc + 1 = n)  (e : xE X d z n ls (vi (x + y) :: st) F r F') : xE X d z pc ls (vi y :: vi x :: st) F r F' := by
  subst hn
  refine xE_step hk rfl (fun _ => rfl) ?_ e
  simp only [xstep, xbi, vi, Int32.ofInt_add]
theorem xr_isub {x y : Int} (hk : xlook z pc = some (pc, .isub, 1, a, b, v, w)) {n : Nat} (hn : pc + 1 = n)  (e : xE X d z n ls (vi (x - y) :: st) F r F') : xE X d z pc ls (vi y :: vi x :: st) F r F' := by
  subst hn
  refine xE_step hk rfl (fun _ => rfl) ?_ e
  simp only [xstep, xbi, vi, Int32.ofInt_sub]
theorem xr_imul {x y : Int} (hk : xlook z pc = some (pc, .imul, 1, a, b, v, w)) {n : Nat} (hn : pc + 1 = n)  (e : xE X d z n ls (vi (x * y) :: st) F r F') : xE X d z pc ls (vi y :: vi x :: st) F r F' := by
  subst hn
  refine xE_step hk rfl (fun _ => rfl) ?_ e
  simp only [xstep, xbi, vi, Int32.ofInt_mul]
theorem xr_ladd {x y : Int} (hk : xlook z pc = some (pc, .ladd, 1, a, b, v, w)) {n : Nat} (hn : pc + 1 = n)  (e : xE X d z n ls (vl (x + y) :: st) F r F') : xE X d z pc ls (vl y :: vl x :: st) F r F' := by
  subst hn
  refine xE_step hk rfl (fun _ => rfl) ?_ e
  simp only [xstep, xbl, vl, Int64.ofInt_add]
theorem xr_lsub {x y : Int} (hk : xlook z pc = some (pc, .lsub, 1, a, b, v, w)) {n : Nat} (hn : pc + 1 = n)  (e : xE X d z n ls (vl (x - y) :: st) F r F') : xE X d z pc ls (vl y :: vl x :: st) F r F' := by
  subst hn
  refine xE_step hk rfl (fun _ => rfl) ?_ e
  simp only [xstep, xbl, vl, Int64.ofInt_sub]
theorem xr_lmul {x y : Int} (hk : xlook z pc = some (pc, .lmul, 1, a, b, v, w)) {n : Nat} (hn : pc + 1 = n)  (e : xE X d z n ls (vl (x * y) :: st) F r F') : xE X d z pc ls (vl y :: vl x :: st) F r F' := by
  subst hn
  refine xE_step hk rfl (fun _ => rfl) ?_ e
  simp only [xstep, xbl, vl, Int64.ofInt_mul]
def xand (x y : Int) : Int := (Int32.ofInt x &&& Int32.ofInt y).toInt
def xior (x y : Int) : Int := (Int32.ofInt x ||| Int32.ofInt y).toInt
def xxor (x y : Int) : Int := (Int32.ofInt x ^^^ Int32.ofInt y).toInt
def xshl (x y : Int) : Int := (Int32.ofInt x <<< (Int32.ofInt y &&& 31)).toInt
def xshr (x y : Int) : Int := (Int32.ofInt x >>> (Int32.ofInt y &&& 31)).toInt
def xush (x y : Int) : Int := ((Int32.ofInt x).toUInt32 >>> ((Int32.ofInt y).toUInt32 &&& Int32.toUInt32 31)).toInt32.toInt
def xbyte (x : Int) : Int := (Int32.ofInt x).toInt8.toInt32.toInt
def xlsh (x y : Int) : Int := (Int64.ofInt x <<< ((Int32.ofInt y).toInt64 &&& 63)).toInt
def xlor (x y : Int) : Int := (Int64.ofInt x ||| Int64.ofInt y).toInt
def xlan (x y : Int) : Int := (Int64.ofInt x &&& Int64.ofInt y).toInt
def xchr (x : Int) : Int := ((Int32.ofInt x).toUInt32 % 65536).toInt32.toInt
theorem xr_iand {x y : Int} (hk : xlook z pc = some (pc, .iand, 1, a, b, v, w)) {n : Nat} (hn : pc + 1 = n)  (e : xE X d z n ls (vi (xand x y) :: st) F r F') : xE X d z pc ls (vi y :: vi x :: st) F r F' := by
  subst hn
  refine xE_step hk rfl (fun _ => rfl) ?_ e
  simp only [xstep, xbi, vi, xand, Int32.ofInt_toInt]
theorem xr_ior {x y : Int} (hk : xlook z pc = some (pc, .ior, 1, a, b, v, w)) {n : Nat} (hn : pc + 1 = n)  (e : xE X d z n ls (vi (xior x y) :: st) F r F') : xE X d z pc ls (vi y :: vi x :: st) F r F' := by
  subst hn
  refine xE_step hk rfl (fun _ => rfl) ?_ e
  simp only [xstep, xbi, vi, xior, Int32.ofInt_toInt]
theorem xr_ixor {x y : Int} (hk : xlook z pc = some (pc, .ixor, 1, a, b, v, w)) {n : Nat} (hn : pc + 1 = n)  (e : xE X d z n ls (vi (xxor x y) :: st) F r F') : xE X d z pc ls (vi y :: vi x :: st) F r F' := by
  subst hn
  refine xE_step hk rfl (fun _ => rfl) ?_ e
  simp only [xstep, xbi, vi, xxor, Int32.ofInt_toInt]
theorem xr_ishl {x y : Int} (hk : xlook z pc = some (pc, .ishl, 1, a, b, v, w)) {n : Nat} (hn : pc + 1 = n)  (e : xE X d z n ls (vi (xshl x y) :: st) F r F') : xE X d z pc ls (vi y :: vi x :: st) F r F' := by
  subst hn
  refine xE_step hk rfl (fun _ => rfl) ?_ e
  simp only [xstep, xbi, vi, xshl, Int32.ofInt_toInt]
theorem xr_ishr {x y : Int} (hk : xlook z pc = some (pc, .ishr, 1, a, b, v, w)) {n : Nat} (hn : pc + 1 = n)  (e : xE X d z n ls (vi (xshr x y) :: st) F r F') : xE X d z pc ls (vi y :: vi x :: st) F r F' := by
  subst hn
  refine xE_step hk rfl (fun _ => rfl) ?_ e
  simp only [xstep, xbi, vi, xshr, Int32.ofInt_toInt]
theorem xr_iushr {x y : Int} (hk : xlook z pc = some (pc, .iushr, 1, a, b, v, w)) {n : Nat} (hn : pc + 1 = n)  (e : xE X d z n ls (vi (xush x y) :: st) F r F') : xE X d z pc ls (vi y :: vi x :: st) F r F' := by
  subst hn
  refine xE_step hk rfl (fun _ => rfl) ?_ e
  simp only [xstep, xbi, vi, xush, Int32.ofInt_toInt]
theorem xr_land {x y : Int} (hk : xlook z pc = some (pc, .land, 1, a, b, v, w)) {n : Nat} (hn : pc + 1 = n)  (e : xE X d z n ls (vl (xlan x y) :: st) F r F') : xE X d z pc ls (vl y :: vl x :: st) F r F' := by
  subst hn
  refine xE_step hk rfl (fun _ => rfl) ?_ e
  simp only [xstep, xbl, vl, xlan, Int64.ofInt_toInt]
theorem xr_lor {x y : Int} (hk : xlook z pc = some (pc, .lor, 1, a, b, v, w)) {n : Nat} (hn : pc + 1 = n)  (e : xE X d z n ls (vl (xlor x y) :: st) F r F') : xE X d z pc ls (vl y :: vl x :: st) F r F' := by
  subst hn
  refine xE_step hk rfl (fun _ => rfl) ?_ e
  simp only [xstep, xbl, vl, xlor, Int64.ofInt_toInt]
theorem xr_lshl {x y : Int} (hk : xlook z pc = some (pc, .lshl, 1, a, b, v, w)) {n : Nat} (hn : pc + 1 = n)  (e : xE X d z n ls (vl (xlsh x y) :: st) F r F') : xE X d z pc ls (vi y :: vl x :: st) F r F' := by
  subst hn
  refine xE_step hk rfl (fun _ => rfl) ?_ e
  simp only [xstep, vl, xlsh, Int64.ofInt_toInt]
theorem xr_i2b {x : Int} (hk : xlook z pc = some (pc, .i2b, 1, a, b, v, w)) {n : Nat} (hn : pc + 1 = n)  (e : xE X d z n ls (vi (xbyte x) :: st) F r F') : xE X d z pc ls (vi x :: st) F r F' := by
  subst hn
  refine xE_step hk rfl (fun _ => rfl) ?_ e
  simp only [xstep, vi, xbyte, Int32.ofInt_toInt]
theorem xr_i2c {x : Int} (hk : xlook z pc = some (pc, .i2c, 1, a, b, v, w)) {n : Nat} (hn : pc + 1 = n)  (e : xE X d z n ls (vi (xchr x) :: st) F r F') : xE X d z pc ls (vi x :: st) F r F' := by
  subst hn
  refine xE_step hk rfl (fun _ => rfl) ?_ e
  simp only [xstep, vi, xchr, Int32.ofInt_toInt]
theorem xi_div {x y : Int} (hx : 0 ≤ x ∧ x ≤ 2147483647) (hy : 0 < y ∧ y ≤ 2147483647) : Int32.ofInt x / Int32.ofInt y = Int32.ofInt (x / y) := by
  rw [← Int32.toInt_inj, Int32.toInt_div_of_ne_left _ _ (fun z => by
    have := congrArg Int32.toInt z
    rw [xi_to (by omega)] at this
    rw [this] at hx
    exact absurd hx.1 (by decide)), xi_to (by omega), xi_to (by omega), xi_to ?_, Int.tdiv_eq_ediv_of_nonneg hx.1]
  have h1 : 0 ≤ x / y := Int.ediv_nonneg hx.1 (by omega)
  have h2 : x / y ≤ x := Int.ediv_le_self _ hx.1
  omega
theorem xl_div {x y : Int} (hx : 0 ≤ x ∧ x ≤ 9223372036854775807) (hy : 0 < y ∧ y ≤ 9223372036854775807) : Int64.ofInt x / Int64.ofInt y = Int64.ofInt (x / y) := by
  have e : ∀ p q : Int64, p.toInt = q.toInt → p = q := fun p q h => by rw [← Int64.ofInt_toInt p, ← Int64.ofInt_toInt q, h]
  apply e
  rw [Int64.toInt_div_of_ne_left _ _ (fun z => by
    have := congrArg Int64.toInt z
    rw [xl_to (by omega)] at this
    rw [this] at hx
    exact absurd hx.1 (by decide)), xl_to (by omega), xl_to (by omega), xl_to ?_, Int.tdiv_eq_ediv_of_nonneg hx.1]
  have h1 : 0 ≤ x / y := Int.ediv_nonneg hx.1 (by omega)
  have h2 : x / y ≤ x := Int.ediv_le_self _ hx.1
  omega
theorem xi_ne0 {y : Int} (hy : 0 < y ∧ y ≤ 2147483647) : ¬ Int32.ofInt y = 0 := by
  rw [xi_0, xi_inj (by omega) (by omega)]
  omega
theorem xl_ne0 {y : Int} (hy : 0 < y ∧ y ≤ 9223372036854775807) : ¬ Int64.ofInt y = 0 := by
  intro z
  have := congrArg Int64.toInt z
  rw [xl_to (by omega)] at this
  have h0 : (0 : Int64).toInt = 0 := rfl
  omega
theorem xr_idiv {x y : Int} (hk : xlook z pc = some (pc, .idiv, 1, a, b, v, w)) {n : Nat} (hn : pc + 1 = n) (hx : 0 ≤ x ∧ x ≤ 2147483647) (hy : 0 < y ∧ y ≤ 2147483647) (e : xE X d z n ls (vi (x / y) :: st) F r F') : xE X d z pc ls (vi y :: vi x :: st) F r F' := by
  subst hn
  refine xE_step hk rfl (fun _ => rfl) ?_ e
  simp only [xstep, vi]
  rw [if_neg (xi_ne0 hy), xi_div hx hy]
theorem xr_irem {x y : Int} (hk : xlook z pc = some (pc, .irem, 1, a, b, v, w)) {n : Nat} (hn : pc + 1 = n) (hx : 0 ≤ x ∧ x ≤ 2147483647) (hy : 0 < y ∧ y ≤ 2147483647) (e : xE X d z n ls (vi (x % y) :: st) F r F') : xE X d z pc ls (vi y :: vi x :: st) F r F' := by
  subst hn
  refine xE_step hk rfl (fun _ => rfl) ?_ e
  simp only [xstep, vi]
  rw [if_neg (xi_ne0 hy), xi_div hx hy, ← Int32.ofInt_mul, ← Int32.ofInt_sub, Int.emod_def, Int.mul_comm]
theorem xr_ldiv {x y : Int} (hk : xlook z pc = some (pc, .ldiv, 1, a, b, v, w)) {n : Nat} (hn : pc + 1 = n) (hx : 0 ≤ x ∧ x ≤ 9223372036854775807) (hy : 0 < y ∧ y ≤ 9223372036854775807) (e : xE X d z n ls (vl (x / y) :: st) F r F') : xE X d z pc ls (vl y :: vl x :: st) F r F' := by
  subst hn
  refine xE_step hk rfl (fun _ => rfl) ?_ e
  simp only [xstep, vl]
  rw [if_neg (xl_ne0 hy), xl_div hx hy]
theorem xr_i2l {x : Int} (hk : xlook z pc = some (pc, .i2l, 1, a, b, v, w)) {n : Nat} (hn : pc + 1 = n) (hx : inR x) (e : xE X d z n ls (vl x :: st) F r F') : xE X d z pc ls (vi x :: st) F r F' := by
  subst hn
  refine xE_step hk rfl (fun _ => rfl) ?_ e
  simp only [xstep, vi, vl]
  rw [Int32.toInt64_ofInt hx.1 hx.2]
def xcmp (x y : Int) : Int := if y < x then 1 else if x = y then 0 else -1
theorem xl_cmp {x y : Int} (hx : inL x) (hy : inL y) : lg_cmp (Int64.ofInt x) (Int64.ofInt y) = Int32.ofInt (xcmp x y) := by
  have h1 : Int64.ofInt y < Int64.ofInt x ↔ y < x := by rw [Int64.lt_iff_toInt_lt, xl_to hx, xl_to hy]
  have h2 : Int64.ofInt x = Int64.ofInt y ↔ x = y := by
    constructor
    · intro h
      have := congrArg Int64.toInt h
      rw [xl_to hx, xl_to hy] at this
      exact this
    · intro h
      rw [h]
  unfold lg_cmp xcmp
  simp only [GT.gt, h1, h2]
  split
  · rfl
  · split <;> rfl
theorem xr_lcmp {x y : Int} (hk : xlook z pc = some (pc, .lcmp, 1, a, b, v, w)) {n : Nat} (hn : pc + 1 = n) (hx : inL x) (hy : inL y) (e : xE X d z n ls (vi (xcmp x y) :: st) F r F') : xE X d z pc ls (vl y :: vl x :: st) F r F' := by
  subst hn
  refine xE_step hk rfl (fun _ => rfl) ?_ e
  simp only [xstep, vi, vl]
  rw [xl_cmp hx hy]
theorem xr_pop {x : Int} (hk : xlook z pc = some (pc, .pop, 1, a, b, v, w)) {n : Nat} (hn : pc + 1 = n)  (e : xE X d z n ls st F r F') : xE X d z pc ls (vi x :: st) F r F' := by
  subst hn
  refine xE_step hk rfl (fun _ => rfl) ?_ e
  simp only [xstep]
theorem xr_dupi {x : Int} (hk : xlook z pc = some (pc, .dup, 1, a, b, v, w)) {n : Nat} (hn : pc + 1 = n)  (e : xE X d z n ls (vi x :: vi x :: st) F r F') : xE X d z pc ls (vi x :: st) F r F' := by
  subst hn
  refine xE_step hk rfl (fun _ => rfl) ?_ e
  simp only [xstep]
theorem xr_dupr {x : Nat} (hk : xlook z pc = some (pc, .dup, 1, a, b, v, w)) {n : Nat} (hn : pc + 1 = n)  (e : xE X d z n ls (.ref x :: .ref x :: st) F r F') : xE X d z pc ls (.ref x :: st) F r F' := by
  subst hn
  refine xE_step hk rfl (fun _ => rfl) ?_ e
  simp only [xstep]
theorem xr_dup2 {x : Int} {y : Nat} (hk : xlook z pc = some (pc, .dup2, 1, a, b, v, w)) {n : Nat} (hn : pc + 1 = n)  (e : xE X d z n ls (vi x :: .ref y :: vi x :: .ref y :: st) F r F') : xE X d z pc ls (vi x :: .ref y :: st) F r F' := by
  subst hn
  refine xE_step hk rfl (fun _ => rfl) ?_ e
  simp only [xstep]
theorem xr_goto {f : Int} {m : Nat} (hk : xlook z pc = some (pc, .goto f, 3, a, b, v, w)) (hm : a = m) (e : xE X d z m ls st F r F') : xE X d z pc ls st F r F' := by
  skip
  refine xE_step hk rfl (fun _ => rfl) ?_ e
  subst hm
  simp only [xstep]
theorem xr_icmp_eq {x y f : Int} (hk : xlook z pc = some (pc, .if_icmp .eq f, 3, a, b, v, w)) {n m : Nat} (hn : pc + 3 = n) (hm : a = m) (hx : inR x) (hy : inR y) (e : (x = y → xE X d z m ls st F r F') ∧ (¬ (x = y) → xE X d z n ls st F r F')) : xE X d z pc ls (vi y :: vi x :: st) F r F' := by
  subst hn
  subst hm
  by_cases h : x = y
  · refine xE_step hk rfl (fun _ => rfl) ?_ (e.1 h)
    simp only [xstep, xcond, decide_eq_true_eq, xi_inj hx hy]
    rw [if_pos h]
  · refine xE_step hk rfl (fun _ => rfl) ?_ (e.2 h)
    simp only [xstep, xcond, decide_eq_true_eq, xi_inj hx hy]
    rw [if_neg h]
theorem xr_if_eq {x f : Int} (hk : xlook z pc = some (pc, .ifCond .eq f, 3, a, b, v, w)) {n m : Nat} (hn : pc + 3 = n) (hm : a = m) (hx : inR x) (e : (x = 0 → xE X d z m ls st F r F') ∧ (¬ (x = 0) → xE X d z n ls st F r F')) : xE X d z pc ls (vi x :: st) F r F' := by
  subst hn
  subst hm
  have xz0 : inR 0 := by omega
  by_cases h : x = 0
  · refine xE_step hk rfl (fun _ => rfl) ?_ (e.1 h)
    simp only [xstep, xcond, decide_eq_true_eq, xi_0, xi_inj hx xz0]
    rw [if_pos h]
  · refine xE_step hk rfl (fun _ => rfl) ?_ (e.2 h)
    simp only [xstep, xcond, decide_eq_true_eq, xi_0, xi_inj hx xz0]
    rw [if_neg h]
theorem xr_icmp_ne {x y f : Int} (hk : xlook z pc = some (pc, .if_icmp .ne f, 3, a, b, v, w)) {n m : Nat} (hn : pc + 3 = n) (hm : a = m) (hx : inR x) (hy : inR y) (e : (¬ x = y → xE X d z m ls st F r F') ∧ (¬ (¬ x = y) → xE X d z n ls st F r F')) : xE X d z pc ls (vi y :: vi x :: st) F r F' := by
  subst hn
  subst hm
  by_cases h : ¬ x = y
  · refine xE_step hk rfl (fun _ => rfl) ?_ (e.1 h)
    simp only [xstep, xcond, decide_eq_true_eq, xi_inj hx hy]
    rw [if_pos h]
  · refine xE_step hk rfl (fun _ => rfl) ?_ (e.2 h)
    simp only [xstep, xcond, decide_eq_true_eq, xi_inj hx hy]
    rw [if_neg h]
theorem xr_if_ne {x f : Int} (hk : xlook z pc = some (pc, .ifCond .ne f, 3, a, b, v, w)) {n m : Nat} (hn : pc + 3 = n) (hm : a = m) (hx : inR x) (e : (¬ x = 0 → xE X d z m ls st F r F') ∧ (¬ (¬ x = 0) → xE X d z n ls st F r F')) : xE X d z pc ls (vi x :: st) F r F' := by
  subst hn
  subst hm
  have xz0 : inR 0 := by omega
  by_cases h : ¬ x = 0
  · refine xE_step hk rfl (fun _ => rfl) ?_ (e.1 h)
    simp only [xstep, xcond, decide_eq_true_eq, xi_0, xi_inj hx xz0]
    rw [if_pos h]
  · refine xE_step hk rfl (fun _ => rfl) ?_ (e.2 h)
    simp only [xstep, xcond, decide_eq_true_eq, xi_0, xi_inj hx xz0]
    rw [if_neg h]
theorem xr_icmp_lt {x y f : Int} (hk : xlook z pc = some (pc, .if_icmp .lt f, 3, a, b, v, w)) {n m : Nat} (hn : pc + 3 = n) (hm : a = m) (hx : inR x) (hy : inR y) (e : (x < y → xE X d z m ls st F r F') ∧ (¬ (x < y) → xE X d z n ls st F r F')) : xE X d z pc ls (vi y :: vi x :: st) F r F' := by
  subst hn
  subst hm
  by_cases h : x < y
  · refine xE_step hk rfl (fun _ => rfl) ?_ (e.1 h)
    simp only [xstep, xcond, decide_eq_true_eq, xi_lt hx hy]
    rw [if_pos h]
  · refine xE_step hk rfl (fun _ => rfl) ?_ (e.2 h)
    simp only [xstep, xcond, decide_eq_true_eq, xi_lt hx hy]
    rw [if_neg h]
theorem xr_if_lt {x f : Int} (hk : xlook z pc = some (pc, .ifCond .lt f, 3, a, b, v, w)) {n m : Nat} (hn : pc + 3 = n) (hm : a = m) (hx : inR x) (e : (x < 0 → xE X d z m ls st F r F') ∧ (¬ (x < 0) → xE X d z n ls st F r F')) : xE X d z pc ls (vi x :: st) F r F' := by
  subst hn
  subst hm
  have xz0 : inR 0 := by omega
  by_cases h : x < 0
  · refine xE_step hk rfl (fun _ => rfl) ?_ (e.1 h)
    simp only [xstep, xcond, decide_eq_true_eq, xi_0, xi_lt hx xz0]
    rw [if_pos h]
  · refine xE_step hk rfl (fun _ => rfl) ?_ (e.2 h)
    simp only [xstep, xcond, decide_eq_true_eq, xi_0, xi_lt hx xz0]
    rw [if_neg h]
theorem xr_icmp_ge {x y f : Int} (hk : xlook z pc = some (pc, .if_icmp .ge f, 3, a, b, v, w)) {n m : Nat} (hn : pc + 3 = n) (hm : a = m) (hx : inR x) (hy : inR y) (e : (y ≤ x → xE X d z m ls st F r F') ∧ (¬ (y ≤ x) → xE X d z n ls st F r F')) : xE X d z pc ls (vi y :: vi x :: st) F r F' := by
  subst hn
  subst hm
  by_cases h : y ≤ x
  · refine xE_step hk rfl (fun _ => rfl) ?_ (e.1 h)
    simp only [xstep, xcond, decide_eq_true_eq, xi_le hy hx]
    rw [if_pos h]
  · refine xE_step hk rfl (fun _ => rfl) ?_ (e.2 h)
    simp only [xstep, xcond, decide_eq_true_eq, xi_le hy hx]
    rw [if_neg h]
theorem xr_if_ge {x f : Int} (hk : xlook z pc = some (pc, .ifCond .ge f, 3, a, b, v, w)) {n m : Nat} (hn : pc + 3 = n) (hm : a = m) (hx : inR x) (e : (0 ≤ x → xE X d z m ls st F r F') ∧ (¬ (0 ≤ x) → xE X d z n ls st F r F')) : xE X d z pc ls (vi x :: st) F r F' := by
  subst hn
  subst hm
  have xz0 : inR 0 := by omega
  by_cases h : 0 ≤ x
  · refine xE_step hk rfl (fun _ => rfl) ?_ (e.1 h)
    simp only [xstep, xcond, decide_eq_true_eq, xi_0, xi_le xz0 hx]
    rw [if_pos h]
  · refine xE_step hk rfl (fun _ => rfl) ?_ (e.2 h)
    simp only [xstep, xcond, decide_eq_true_eq, xi_0, xi_le xz0 hx]
    rw [if_neg h]
theorem xr_icmp_gt {x y f : Int} (hk : xlook z pc = some (pc, .if_icmp .gt f, 3, a, b, v, w)) {n m : Nat} (hn : pc + 3 = n) (hm : a = m) (hx : inR x) (hy : inR y) (e : (y < x → xE X d z m ls st F r F') ∧ (¬ (y < x) → xE X d z n ls st F r F')) : xE X d z pc ls (vi y :: vi x :: st) F r F' := by
  subst hn
  subst hm
  by_cases h : y < x
  · refine xE_step hk rfl (fun _ => rfl) ?_ (e.1 h)
    simp only [xstep, xcond, decide_eq_true_eq, xi_lt hy hx]
    rw [if_pos h]
  · refine xE_step hk rfl (fun _ => rfl) ?_ (e.2 h)
    simp only [xstep, xcond, decide_eq_true_eq, xi_lt hy hx]
    rw [if_neg h]
theorem xr_if_gt {x f : Int} (hk : xlook z pc = some (pc, .ifCond .gt f, 3, a, b, v, w)) {n m : Nat} (hn : pc + 3 = n) (hm : a = m) (hx : inR x) (e : (0 < x → xE X d z m ls st F r F') ∧ (¬ (0 < x) → xE X d z n ls st F r F')) : xE X d z pc ls (vi x :: st) F r F' := by
  subst hn
  subst hm
  have xz0 : inR 0 := by omega
  by_cases h : 0 < x
  · refine xE_step hk rfl (fun _ => rfl) ?_ (e.1 h)
    simp only [xstep, xcond, decide_eq_true_eq, xi_0, xi_lt xz0 hx]
    rw [if_pos h]
  · refine xE_step hk rfl (fun _ => rfl) ?_ (e.2 h)
    simp only [xstep, xcond, decide_eq_true_eq, xi_0, xi_lt xz0 hx]
    rw [if_neg h]
theorem xr_icmp_le {x y f : Int} (hk : xlook z pc = some (pc, .if_icmp .le f, 3, a, b, v, w)) {n m : Nat} (hn : pc + 3 = n) (hm : a = m) (hx : inR x) (hy : inR y) (e : (x ≤ y → xE X d z m ls st F r F') ∧ (¬ (x ≤ y) → xE X d z n ls st F r F')) : xE X d z pc ls (vi y :: vi x :: st) F r F' := by
  subst hn
  subst hm
  by_cases h : x ≤ y
  · refine xE_step hk rfl (fun _ => rfl) ?_ (e.1 h)
    simp only [xstep, xcond, decide_eq_true_eq, xi_le hx hy]
    rw [if_pos h]
  · refine xE_step hk rfl (fun _ => rfl) ?_ (e.2 h)
    simp only [xstep, xcond, decide_eq_true_eq, xi_le hx hy]
    rw [if_neg h]
theorem xr_if_le {x f : Int} (hk : xlook z pc = some (pc, .ifCond .le f, 3, a, b, v, w)) {n m : Nat} (hn : pc + 3 = n) (hm : a = m) (hx : inR x) (e : (x ≤ 0 → xE X d z m ls st F r F') ∧ (¬ (x ≤ 0) → xE X d z n ls st F r F')) : xE X d z pc ls (vi x :: st) F r F' := by
  subst hn
  subst hm
  have xz0 : inR 0 := by omega
  by_cases h : x ≤ 0
  · refine xE_step hk rfl (fun _ => rfl) ?_ (e.1 h)
    simp only [xstep, xcond, decide_eq_true_eq, xi_0, xi_le hx xz0]
    rw [if_pos h]
  · refine xE_step hk rfl (fun _ => rfl) ?_ (e.2 h)
    simp only [xstep, xcond, decide_eq_true_eq, xi_0, xi_le hx xz0]
    rw [if_neg h]
theorem xr_tabOut {x df lo hi : Int} {offs : Array Int} {len t : Nat} (hk : xlook z pc = some (pc, .tableswitch df lo hi offs, len, a, b, v, w)) (hx : inR x) (h : x < lo ∨ hi < x) (ht : (pc : Int) + df = (t : Int)) (e : xE X d z t ls st F r F') : xE X d z pc ls (vi x :: st) F r F' := by
  refine xE_step hk rfl (fun _ => rfl) ?_ e
  simp only [xstep]
  rw [if_pos (by rw [xi_to hx]; exact h), ht, if_pos (by omega)]
  rfl
theorem xr_tabIn {x df lo hi off : Int} {offs : Array Int} {len t : Nat} (hk : xlook z pc = some (pc, .tableswitch df lo hi offs, len, a, b, v, w)) (hx : inR x) (h : ¬ (x < lo ∨ hi < x)) (ho : offs[(x - lo).toNat]? = some off) (ht : (pc : Int) + off = (t : Int)) (e : xE X d z t ls st F r F') : xE X d z pc ls (vi x :: st) F r F' := by
  refine xE_step hk rfl (fun _ => rfl) ?_ e
  simp only [xstep]
  rw [if_neg (by rw [xi_to hx]; exact h), xi_to hx, ho]
  dsimp only
  rw [ht, if_pos (by omega)]
  rfl
theorem xr_geti {i o : Nat} (hk : xlook z pc = some (pc, .getfield i, 3, a, b, v, w)) (ha : ¬ a = 100) (ho : o < 146 ∧ xkd0 o = a ∧ b < xln0 o) (ht : xisR (xty a b) = false) {n : Nat} (hn : pc + 3 = n) (e : xE X d z n ls (vi (F o b) :: st) F r F') : xE X d z pc ls (.ref o :: st) F r F' := by
  subst hn
  refine xE_step hk rfl (fun _ => rfl) ?_ e
  simp only [xstep]
  rw [if_neg ha, if_pos ⟨by rw [xhp_len]; exact ho.1, by rw [xkd_hp ho.1]; exact ho.2.1, by rw [xln_hp ho.1]; exact ho.2.2⟩, ht, xrd_hp ho.1 ho.2.2]
  rfl
theorem xsv_r {q : Nat} (hq : q < 1000000) : xsv true (Int32.ofInt q) = .ref q := by
  unfold xsv
  have h : inR (q : Int) := by omega
  dsimp only
  rw [xi_0, if_neg (by rw [xi_lt h (by omega)]; omega), xi_cl h]
  rfl
theorem xr_getr {i o q : Nat} (hk : xlook z pc = some (pc, .getfield i, 3, a, b, v, w)) (ha : ¬ a = 100) (ho : o < 146 ∧ xkd0 o = a ∧ b < xln0 o) (ht : xisR (xty a b) = true) (hq : F o b = (q : Int)) (hq9 : q < 1000000) {n : Nat} (hn : pc + 3 = n) (e : xE X d z n ls (.ref q :: st) F r F') : xE X d z pc ls (.ref o :: st) F r F' := by
  subst hn
  refine xE_step hk rfl (fun _ => rfl) ?_ e
  simp only [xstep]
  rw [if_neg ha, if_pos ⟨by rw [xhp_len]; exact ho.1, by rw [xkd_hp ho.1]; exact ho.2.1, by rw [xln_hp ho.1]; exact ho.2.2⟩, ht, xrd_hp ho.1 ho.2.2, hq, xsv_r hq9]
theorem xr_puti {i o : Nat} {x : Int} (hk : xlook z pc = some (pc, .putfield i, 3, a, b, v, w)) (ho : o < 146 ∧ xkd0 o = a ∧ b < xln0 o) (ht : xty a b = .int) {n : Nat} (hn : pc + 3 = n) (e : xE X d z n ls st (xup F o b x) r F') : xE X d z pc ls (vi x :: .ref o :: st) F r F' := by
  subst hn
  refine xE_step hk rfl (fun _ => rfl) ?_ e
  simp only [xstep]
  rw [if_pos ⟨by rw [xhp_len]; exact ho.1, by rw [xkd_hp ho.1]; exact ho.2.1, by rw [xln_hp ho.1]; exact ho.2.2⟩, ht]
  simp only [xenc, xisR]
  rw [if_pos ⟨rfl, rfl⟩]
  dsimp only
  rw [xwr_hp ho.1 ho.2.2]
theorem xr_putz {i o : Nat} {x : Int} (hk : xlook z pc = some (pc, .putfield i, 3, a, b, v, w)) (ho : o < 146 ∧ xkd0 o = a ∧ b < xln0 o) (ht : xty a b = .boolean) (hx : x = 0 ∨ x = 1) {n : Nat} (hn : pc + 3 = n) (e : xE X d z n ls st (xup F o b x) r F') : xE X d z pc ls (vi x :: .ref o :: st) F r F' := by
  subst hn
  refine xE_step hk rfl (fun _ => rfl) ?_ e
  simp only [xstep]
  rw [if_pos ⟨by rw [xhp_len]; exact ho.1, by rw [xkd_hp ho.1]; exact ho.2.1, by rw [xln_hp ho.1]; exact ho.2.2⟩, ht]
  simp only [xenc, xisR]
  rw [if_pos (by rcases hx with rfl | rfl <;> exact ⟨by decide, by decide⟩)]
  dsimp only
  rw [xwr_hp ho.1 ho.2.2]
theorem xr_putr {i o q : Nat} (hk : xlook z pc = some (pc, .putfield i, 3, a, b, v, w)) (ho : o < 146 ∧ xkd0 o = a ∧ b < xln0 o) (ht : xisR (xty a b) = true) (hq : q < 1000000) {n : Nat} (hn : pc + 3 = n) (e : xE X d z n ls st (xup F o b q) r F') : xE X d z pc ls (.ref q :: .ref o :: st) F r F' := by
  subst hn
  refine xE_step hk rfl (fun _ => rfl) ?_ e
  simp only [xstep]
  rw [if_pos ⟨by rw [xhp_len]; exact ho.1, by rw [xkd_hp ho.1]; exact ho.2.1, by rw [xln_hp ho.1]; exact ho.2.2⟩]
  simp only [xenc, ht]
  rw [if_pos hq]
  dsimp only
  rw [show Int32.ofNat q = Int32.ofInt (q : Int) from rfl, xwr_hp ho.1 ho.2.2]
theorem xidx {o : Nat} {i : Int} {n : Nat} (hn : n < 2147483648) (h : 0 ≤ i ∧ i < (n : Int)) : xin (Int32.ofInt i) n ∧ (Int32.ofInt i).toNatClampNeg = i.toNat ∧ i.toNat < n ∧ ((i.toNat : Nat) : Int) = i := by
  have hr : inR i := by omega
  refine ⟨?_, xi_cl hr, by omega, by omega⟩
  show 0 ≤ (Int32.ofInt i).toInt ∧ (Int32.ofInt i).toInt < (n : Int)
  rw [xi_to hr]
  exact h
theorem xsb_ok {k : Nat} (h : k < 19) : xSB ≤ xSB + 2 * k ∧ xSB + 2 * k < xSB + 38 ∧ (xSB + 2 * k) % 2 = 0 := by
  unfold xSB
  omega
theorem xne_sc {o : Nat} (h : o < 146) : ¬ o = xSC := by
  unfold xSC
  omega
theorem xne_sb {o : Nat} (h : o < 146) : ¬ xSB ≤ o := by
  unfold xSB
  omega
theorem xln0_s : ∀ q ∈ xS0, q.2 < 2147483648 := by decide +kernel
theorem xln0_lt {o : Nat} (h : o < 146) : xln0 o < 2147483648 := by
  unfold xln0
  rw [List.getD_eq_getElem?_getD, List.getElem?_eq_getElem (by rw [xS0_len]; exact h)]
  exact xln0_s _ (List.getElem_mem _)
theorem xr_iald {o : Nat} {i : Int} (hk : xlook z pc = some (pc, .iaload, 1, a, b, v, w)) (ho : o < 146 ∧ xkd0 o = 13) (hi : 0 ≤ i ∧ i < (xln0 o : Int)) {n : Nat} (hn : pc + 1 = n) (e : xE X d z n ls (vi (F o i) :: st) F r F') : xE X d z pc ls (vi i :: .ref o :: st) F r F' := by
  subst hn
  refine xE_step hk rfl (fun _ => rfl) ?_ e
  obtain ⟨h1, h2, h3, h4⟩ := xidx (o := o) (xln0_lt ho.1) hi
  simp only [xstep]
  rw [if_neg (xne_sc ho.1), if_pos ⟨by rw [xhp_len]; exact ho.1, by rw [xkd_hp ho.1]; exact ho.2, by rw [xln_hp ho.1]; exact h1⟩, h2, xrd_hp ho.1 h3, h4]
theorem xr_bald {o : Nat} {i : Int} (hk : xlook z pc = some (pc, .baload, 1, a, b, v, w)) (ho : o < 146 ∧ xkd0 o = 14) (hi : 0 ≤ i ∧ i < (xln0 o : Int)) {n : Nat} (hn : pc + 1 = n) (e : xE X d z n ls (vi (F o i) :: st) F r F') : xE X d z pc ls (vi i :: .ref o :: st) F r F' := by
  subst hn
  refine xE_step hk rfl (fun _ => rfl) ?_ e
  obtain ⟨h1, h2, h3, h4⟩ := xidx (o := o) (xln0_lt ho.1) hi
  simp only [xstep]
  rw [if_neg (xne_sb ho.1), if_pos ⟨by rw [xhp_len]; exact ho.1, by rw [xkd_hp ho.1]; exact ho.2, by rw [xln_hp ho.1]; exact h1⟩, h2, xrd_hp ho.1 h3, h4]
theorem xr_aald {o q : Nat} {i : Int} (hk : xlook z pc = some (pc, .aaload, 1, a, b, v, w)) (ho : o < 146 ∧ (xkd0 o = 15 ∨ xkd0 o = 16)) (hi : 0 ≤ i ∧ i < (xln0 o : Int)) (hq : F o i = (q : Int)) (hq9 : q < 1000000) {n : Nat} (hn : pc + 1 = n) (e : xE X d z n ls (.ref q :: st) F r F') : xE X d z pc ls (vi i :: .ref o :: st) F r F' := by
  subst hn
  refine xE_step hk rfl (fun _ => rfl) ?_ e
  obtain ⟨h1, h2, h3, h4⟩ := xidx (o := o) (xln0_lt ho.1) hi
  simp only [xstep]
  rw [if_pos ⟨by rw [xhp_len]; exact ho.1, by rw [xkd_hp ho.1]; exact ho.2, by rw [xln_hp ho.1]; exact h1⟩, h2, xrd_hp ho.1 h3, h4, hq, xsv_r hq9]
theorem xr_iast {o : Nat} {i x : Int} (hk : xlook z pc = some (pc, .iastore, 1, a, b, v, w)) (ho : o < 146 ∧ xkd0 o = 13) (hi : 0 ≤ i ∧ i < (xln0 o : Int)) {n : Nat} (hn : pc + 1 = n) (e : xE X d z n ls st (xup F o i x) r F') : xE X d z pc ls (vi x :: vi i :: .ref o :: st) F r F' := by
  subst hn
  refine xE_step hk rfl (fun _ => rfl) ?_ e
  obtain ⟨h1, h2, h3, h4⟩ := xidx (o := o) (xln0_lt ho.1) hi
  simp only [xstep]
  rw [if_pos ⟨by rw [xhp_len]; exact ho.1, by rw [xkd_hp ho.1]; exact ho.2, by rw [xln_hp ho.1]; exact h1⟩, h2, xwr_hp ho.1 h3, h4]
theorem xr_bast {o : Nat} {i x : Int} (hk : xlook z pc = some (pc, .bastore, 1, a, b, v, w)) (ho : o < 146 ∧ xkd0 o = 14) (hi : 0 ≤ i ∧ i < (xln0 o : Int)) {n : Nat} (hn : pc + 1 = n) (e : xE X d z n ls st (xup F o i (xbyte x)) r F') : xE X d z pc ls (vi x :: vi i :: .ref o :: st) F r F' := by
  subst hn
  refine xE_step hk rfl (fun _ => rfl) ?_ e
  obtain ⟨h1, h2, h3, h4⟩ := xidx (o := o) (xln0_lt ho.1) hi
  simp only [xstep]
  rw [if_pos ⟨by rw [xhp_len]; exact ho.1, by rw [xkd_hp ho.1]; exact ho.2, by rw [xln_hp ho.1]; exact h1⟩, h2]
  conv => rhs; rw [← h4, ← xwr_hp ho.1 h3]
  simp only [xbyte, Int32.ofInt_toInt]
theorem xr_alen {o : Nat} (hk : xlook z pc = some (pc, .arraylength, 1, a, b, v, w)) (ho : o < 146 ∧ 13 ≤ xkd0 o ∧ xkd0 o ≤ 16) {n : Nat} (hn : pc + 1 = n) (e : xE X d z n ls (vi (xln0 o) :: st) F r F') : xE X d z pc ls (.ref o :: st) F r F' := by
  subst hn
  refine xE_step hk rfl (fun _ => rfl) ?_ e
  simp only [xstep]
  rw [if_neg (xne_sc ho.1), if_neg (xne_sb ho.1), if_pos ⟨by rw [xhp_len]; exact ho.1, by rw [xkd_hp ho.1]; exact ho.2⟩, xln_hp ho.1]
  rfl
def xsc (X : List Int32) (i : Int) : Int := (X.getD i.toNat 0).toInt
theorem xsc_R (X : List Int32) (i : Int) : inR (xsc X i) := by
  unfold xsc
  have h1 := Int32.toInt_lt (X.getD i.toNat 0)
  have h2 := Int32.le_toInt (X.getD i.toNat 0)
  omega
theorem xr_sald {i : Int} (hk : xlook z pc = some (pc, .iaload, 1, a, b, v, w)) (hX : X.length ≤ 4000) (hi : 0 ≤ i ∧ i < (X.length : Int)) {n : Nat} (hn : pc + 1 = n) (e : xE X d z n ls (vi (xsc X i) :: st) F r F') : xE X d z pc ls (vi i :: .ref xSC :: st) F r F' := by
  subst hn
  refine xE_step hk rfl (fun _ => rfl) ?_ e
  obtain ⟨h1, h2, h3, h4⟩ := xidx (o := 0) (n := X.length) (by omega) hi
  simp only [xstep, if_true, xsc, vi, Int32.ofInt_toInt]
  rw [if_pos ⟨h1, hX⟩, h2]
theorem xr_slen (hk : xlook z pc = some (pc, .arraylength, 1, a, b, v, w)) (hX : X.length ≤ 4000) {n : Nat} (hn : pc + 1 = n) (e : xE X d z n ls (vi (X.length : Int) :: st) F r F') : xE X d z pc ls (.ref xSC :: st) F r F' := by
  subst hn
  refine xE_step hk rfl (fun _ => rfl) ?_ e
  simp only [xstep, if_true]
  rw [if_pos hX]
  rfl
theorem xr_max {i : Nat} {x y : Int} (hk : xlook z pc = some (pc, .invokestatic i, 3, a, b, v, w)) (ha : a = 1001) (hs : (st.map Value.category).sum ≤ 8) (hx : inR x) (hy : inR y) {n : Nat} (hn : pc + 3 = n) (e : xE X d z n ls (vi (max x y) :: st) F r F') : xE X d z pc ls (vi y :: vi x :: st) F r F' := by
  subst hn
  subst ha
  refine xE_step hk rfl (fun _ => rfl) ?_ e
  simp only [xstep]
  rw [if_neg (by decide), if_neg (by decide), if_pos trivial, if_pos hs]
  simp only [xi_lt hx hy]
  congr 4
  by_cases h : x < y
  · rw [if_pos h, Int.max_eq_right (by omega)]
  · rw [if_neg h, Int.max_eq_left (by omega)]
theorem xr_min {i : Nat} {x y : Int} (hk : xlook z pc = some (pc, .invokestatic i, 3, a, b, v, w)) (ha : a = 1002) (hs : (st.map Value.category).sum ≤ 8) (hx : inR x) (hy : inR y) {n : Nat} (hn : pc + 3 = n) (e : xE X d z n ls (vi (min x y) :: st) F r F') : xE X d z pc ls (vi y :: vi x :: st) F r F' := by
  subst hn
  subst ha
  refine xE_step hk rfl (fun _ => rfl) ?_ e
  simp only [xstep]
  rw [if_neg (by decide), if_neg (by decide), if_neg (by decide), if_pos trivial, if_pos hs]
  simp only [xi_lt hy hx]
  congr 4
  by_cases h : y < x
  · rw [if_pos h, Int.min_eq_right (by omega)]
  · rw [if_neg h, Int.min_eq_left (by omega)]
theorem xr_abs {i : Nat} {x : Int} (hk : xlook z pc = some (pc, .invokestatic i, 3, a, b, v, w)) (ha : a = 1003) (hs : (st.map Value.category).sum ≤ 8) (hx : inR x) {n : Nat} (hn : pc + 3 = n) (e : xE X d z n ls (vi (if 0 ≤ x then x else 0 - x) :: st) F r F') : xE X d z pc ls (vi x :: st) F r F' := by
  subst hn
  subst ha
  refine xE_step hk rfl (fun _ => rfl) ?_ e
  simp only [xstep]
  rw [if_neg (by decide), if_pos trivial, if_pos hs]
  simp only [xi_0, xi_le (show inR 0 by omega) hx]
  by_cases h : 0 ≤ x
  · rw [if_pos h, if_pos h]
  · rw [if_neg h, if_neg h, ← Int32.ofInt_sub]
def xcopy (F : XF) (q : Nat) (sp : Int) (o : Nat) (dp n : Int) : XF := fun p j => if p = o ∧ dp ≤ j ∧ j < dp + n then F q (sp + (j - dp)) else F p j
theorem xr_copy {i o q : Nat} {nn dp sp : Int} (hk : xlook z pc = some (pc, .invokestatic i, 3, a, b, v, w)) (ha : a = 1004) (hs : (st.map Value.category).sum ≤ 8) (ho : o < 146 ∧ xkd0 o = 13) (hq : q < 146 ∧ xkd0 q = 13) (h1 : 0 ≤ sp) (h2 : 0 ≤ dp) (h3 : 0 ≤ nn) (h4 : sp + nn ≤ xln0 q) (h5 : dp + nn ≤ xln0 o) {n : Nat} (hn : pc + 3 = n) (e : xE X d z n ls st (xcopy F q sp o dp nn) r F') : xE X d z pc ls (vi nn :: vi dp :: .ref o :: vi sp :: .ref q :: st) F r F' := by
  subst hn
  subst ha
  refine xE_step hk rfl (fun _ => rfl) ?_ e
  have l1 := xln0_lt ho.1
  have l2 := xln0_lt hq.1
  simp only [xstep]
  rw [if_pos trivial, if_pos ⟨by rw [xhp_len]; exact ho.1, by rw [xhp_len]; exact hq.1, by rw [xkd_hp ho.1]; exact ho.2, by rw [xkd_hp hq.1]; exact hq.2, by rw [xi_to (by omega)]; exact h1, by rw [xi_to (by omega)]; exact h2, by rw [xi_to (by omega)]; exact h3, by rw [xi_to (by omega), xi_to (by omega), xln_hp hq.1]; exact h4, by rw [xi_to (by omega), xi_to (by omega), xln_hp ho.1]; exact h5, hs⟩, xi_cl (by omega), xi_cl (by omega), xi_cl (by omega), xda_hp ho.1, xda_hp hq.1]
  refine congrArg (fun q => some (pc + 3, ls, st, q)) ?_
  rw [show (13 : Nat) = xkd0 o from ho.2.symm]
  refine xset_hp ho.1 ?_ (fun p j hp => by simp [xcopy, hp])
  unfold xcpy
  rw [show (xrow F o (xln0 o)).length = xln0 o by simp [xrow]]
  unfold xrow
  apply List.map_congr_left
  intro k hk
  have hk := List.mem_range.mp hk
  by_cases hc : dp.toNat ≤ k ∧ k < dp.toNat + nn.toNat
  · rw [if_pos hc]
    unfold xcopy
    rw [if_pos ⟨rfl, by omega, by omega⟩, show sp + ((k : Int) - dp) = ((sp.toNat + (k - dp.toNat) : Nat) : Int) by omega]
    exact xrow_at (by omega)
  · rw [if_neg hc]
    unfold xcopy
    rw [if_neg (fun z => hc (by have := z.2; omega))]
    exact xrow_at hk
theorem xr_ireturn {x : Int} (hk : xlook z pc = some (pc, .ireturn, 1, a, b, v, w)) (h : xrt z = some .int) : xE X d z pc ls [vi x] F (some (vi x)) F := by
  refine xE_ret hk rfl ?_
  simp only [xret, h]
  rw [if_pos ⟨rfl, rfl, by decide⟩]
theorem xr_zreturn {x : Int} (hk : xlook z pc = some (pc, .ireturn, 1, a, b, v, w)) (h : xrt z = some .boolean) (hx : x = 0 ∨ x = 1) : xE X d z pc ls [vi x] F (some (vi x)) F := by
  refine xE_ret hk rfl ?_
  simp only [xret, h]
  rw [if_pos ⟨by rcases hx with rfl | rfl <;> decide, rfl, by decide⟩]
theorem xr_lreturn {x : Int} (hk : xlook z pc = some (pc, .lreturn, 1, a, b, v, w)) (h : xrt z = some .long) : xE X d z pc ls [vl x] F (some (vl x)) F := by
  refine xE_ret hk rfl ?_
  simp only [xret, h, if_true]
theorem xr_areturn {x : Nat} {ty : FieldType} (hk : xlook z pc = some (pc, .areturn, 1, a, b, v, w)) (h : xrt z = some ty) (hx : xisR ty = true) : xE X d z pc ls [.ref x] F (some (.ref x)) F := by
  refine xE_ret hk rfl ?_
  simp only [xret, h, hx, if_true]
theorem xr_return (hk : xlook z pc = some (pc, .return_, 1, a, b, v, w)) (h : xrt z = none) : xE X d z pc ls [] F none F := by
  refine xE_ret hk rfl ?_
  simp only [xret, h, if_true]
theorem xr_calls {i dk : Nat} {as : List Value} {F1 : XF} {r1 : Option Value} (hk : xlook z pc = some (pc, .invokestatic i, 3, a, b, v, w)) (ha : a < 228) (hd : dk < d) (hb : b ≤ st.length ∧ ((st.drop b).map Value.category).sum ≤ 8 ∧ (xxp as).length ≤ xmx a ∧ xoc a ≠ 14) (has : (st.take b).reverse = as) (e1 : xM X dk a as F r1 F1) {n : Nat} (hn : pc + 3 = n) (e2 : xE X d z n ls (r1.toList ++ st.drop b) F1 r F') : xE X d z pc ls st F r F' := by
  subst hn
  have hc : xcall (pc, .invokestatic i, 3, a, b, v, w) = 3 := by simp [xcall, ha]
  refine xE_call hk (by rw [hc]; decide) rfl rfl hd ⟨by rw [hc]; decide, hb.1, hb.2.1, hb.2.2.1, ?_⟩ has e1 e2
  rw [hc]
  unfold xrec
  split
  · rw [if_neg hb.2.2.2]
    simp
  · simp
theorem xr_callv {i dk o : Nat} {as : List Value} {F1 : XF} {r1 : Option Value} (hk : xlook z pc = some (pc, .invokevirtual i, 3, a, b, v, w)) (ha : a < 228) (hd : dk < d) (hb : b ≤ st.length ∧ ((st.drop b).map Value.category).sum ≤ 8 ∧ (xxp (.ref o :: as)).length ≤ xmx a) (ho : o < 146 ∧ xkd0 o = xoc a ∧ xoc a < 13) (has : (st.take b).reverse = .ref o :: as) (e1 : xM X dk a (.ref o :: as) F r1 F1) {n : Nat} (hn : pc + 3 = n) (e2 : xE X d z n ls (r1.toList ++ st.drop b) F1 r F') : xE X d z pc ls st F r F' := by
  subst hn
  have hc : xcall (pc, .invokevirtual i, 3, a, b, v, w) = 1 := by simp [xcall, ha]
  refine xE_call hk (by rw [hc]; decide) rfl rfl hd ⟨by rw [hc]; decide, hb.1, hb.2.1, hb.2.2, ?_⟩ has e1 e2
  rw [hc]
  unfold xrec
  dsimp only
  rw [if_neg (by omega), decide_eq_true_eq]
  exact Or.inr (Or.inr ⟨by rw [xhp_len]; exact ho.1, by rw [xkd_hp ho.1]; exact ho.2.1, ho.2.2⟩)
theorem xr_callt {i dk k : Nat} {as : List Value} {F1 : XF} {r1 : Option Value} (hk : xlook z pc = some (pc, .invokevirtual i, 3, a, b, v, w)) (ha : a < 228) (hd : dk < d) (hb : b ≤ st.length ∧ ((st.drop b).map Value.category).sum ≤ 8 ∧ (xxp (.ref (xSB + 2 * k) :: as)).length ≤ xmx a) (ho : xoc a = 14 ∧ k < 19) (has : (st.take b).reverse = .ref (xSB + 2 * k) :: as) (e1 : xM X dk a (.ref (xSB + 2 * k) :: as) F r1 F1) {n : Nat} (hn : pc + 3 = n) (e2 : xE X d z n ls (r1.toList ++ st.drop b) F1 r F') : xE X d z pc ls st F r F' := by
  subst hn
  have hc : xcall (pc, .invokevirtual i, 3, a, b, v, w) = 1 := by simp [xcall, ha]
  refine xE_call hk (by rw [hc]; decide) rfl rfl hd ⟨by rw [hc]; decide, hb.1, hb.2.1, hb.2.2, ?_⟩ has e1 e2
  rw [hc]
  unfold xrec
  dsimp only
  rw [if_pos ho.1, decide_eq_true_eq]
  exact Or.inr ⟨rfl, xsb_ok ho.2⟩
end XRU
