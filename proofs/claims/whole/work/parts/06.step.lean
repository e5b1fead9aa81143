/-! each step of the interpreter is the machine's -/
def xlenS : List Nat := xbyt.map List.length
/-- what is outside: the String constants, two statics of the JDK, the script -/
def xSTR (X : List Int32) (ad : Nat → Nat) (fv : Value) (A : Nat → Prop) (U : State) (H : Heap) : Prop :=
  vk_S 19 xlenS xbyt (fun i => ad (xSB + 2 * i)) (fun i => ad (xSB + 2 * i + 1)) A U H ∧ (∀ (i : Nat) (q : String × Nat × String), xstrs[i]? = some q → vk_R q.1 q.2.1 q.2.2 (ad (xSB + 2 * i)) U) ∧ va_Z "java/lang/String" "COMPACT_STRINGS" "Z" (.int 1) A U H ∧ va_Z "jdk/internal/util/Preconditions" "SIOOBE_FORMATTER" "Ljava/util/function/BiFunction;" fv A U H ∧ (fv = .null ∨ ∃ t, fv = .ref t) ∧ va_X (ad xSC) X.length (fun j => X.getD j 0) U H ∧ ad xSC < H.size ∧ ¬ A (ad xSC)
theorem xSTR.go {X : List Int32} {ad : Nat → Nat} {fv : Value} {A B : Nat → Prop} {s U : State} {H : Heap} (h : xSTR X ad fv A s s.heap) (hW : s.WarmedH U.vm) (hz : s.heap.size ≤ H.size) (hq : ∀ a : Nat, a < s.heap.size → ¬ A a → H[a]? = s.heap[a]?) (hAB : ∀ q, B q → A q) : xSTR X ad fv B U H := by
  obtain ⟨h1, h2, h3, h4, h5, h6, h7, h8⟩ := h
  exact ⟨((h1.kept hq).narrow hAB).moved hW.alike, fun i q hi => (h2 i q hi).warm hW, ((h3.kept hq).narrow hAB).moved hW.alike, ((h4.kept hq).narrow hAB).moved hW.alike, h5, (h6.kept (hq _ h7 h8)).moved hW.alike, Nat.lt_of_lt_of_le h7 hz, fun z => h8 (hAB _ z)⟩
/-- the size of a heap -/
def xsz (h : XHp) : Nat := (h.map (fun q => q.2.length)).sum
/-- where a method stands: the machine, its words, its room; base: where the places begin; h0: the heap as the method began -/
def xC (X : List Int32) (p : Program) (R : Room) (s : State) (m : MethodId) (args : Array Value) (meth : Method) (c : Code) (D : va_G) (tc : XTc) (ad : Nat → Nat) (fv : Value) (base : Nat) (A : Nat → Prop) (d z : Nat) (n0 : Nat) : Prop :=
  p.tables.exec = Jvm.exec ∧ c.code = xbt z ∧ c.maxLocals = xmx z ∧ s.vm.findClass (xow z) = some m.cls ∧ (∀ w ∈ lw_tbl, w.before args s = true) ∧ d + 1 ≤ R.frames ∧ 100 * (d + 1) ≤ R.locals ∧ va_K D vwCl (xtyl tc) s ∧ (∀ q, s.heap.size ≤ q → A q) ∧ xSTR X ad fv A s s.heap ∧ meth.name = (xnm z).name ∧ s.heap.size = base + n0 ∧ (∀ k, k < xSB → ad k = base + k) ∧ (∀ q, A q → base ≤ q)
def xI (s : State) (D : va_G) (tc : XTc) (ad : Nat → Nat) (fv : Value) (A : Nat → Prop) (h : XHp) (ls : List Value) (sl : Array Slot) (H : Heap) (locs : List Loc) : Prop :=
  va_P D vwCl (xwd tc ad h) H ∧ va_D A (xwd tc ad h) ∧ va_S A s.heap H locs ∧ xL ad fv ls sl
theorem xcl_get {a : Nat} (h : a < 13) : vwCl[a]? = some (xclN a, xclT a, xnf a) := by
  unfold xclN xclT xnf
  rw [List.getD_eq_getElem?_getD, List.getElem?_eq_getElem (by exact h)]
  rfl
set_option maxRecDepth 1000000 in
theorem xin_all : (List.range 13).all (fun a => (u_ws (xclN a) (xclT a) (xnf a)).all (fun w => decide (w ∈ lw_tbl))) = true := by decide +kernel
theorem xin_tbl {a : Nat} (h : a < 13) : ∀ w ∈ u_ws (xclN a) (xclT a) (xnf a), w ∈ lw_tbl := by
  intro w hw
  have := List.all_eq_true.mp (List.all_eq_true.mp xin_all a (List.mem_range.mpr h)) w hw
  simpa using this
theorem xty_ok {a : Nat} (h : a < 13) : ∀ k, k < xnf a → parseFieldDescriptor (xclT a k).2.2.1 = some (xty a k) := by
  match a, h with
  | 0, _ => exact tyX0_ok
  | 1, _ => exact tyX1_ok
  | 2, _ => exact tyX2_ok
  | 3, _ => exact tyX3_ok
  | 4, _ => exact tyX4_ok
  | 5, _ => exact tyX5_ok
  | 6, _ => exact tyX6_ok
  | 7, _ => exact tyX7_ok
  | 8, _ => exact tyX8_ok
  | 9, _ => exact tyX9_ok
  | 10, _ => exact tyX10_ok
  | 11, _ => exact tyX11_ok
  | 12, _ => exact tyX12_ok
theorem xnm_ok {a : Nat} (h : a < 13) : ∀ x, x < xnf a → ∀ y, y < xnf a → x ≠ y → (xclT a x).2.1 ≠ (xclT a y).2.1 := by
  match a, h with
  | 0, _ => exact nmX0
  | 1, _ => exact nmX1
  | 2, _ => exact nmX2
  | 3, _ => exact nmX3
  | 4, _ => exact nmX4
  | 5, _ => exact nmX5
  | 6, _ => exact nmX6
  | 7, _ => exact nmX7
  | 8, _ => exact nmX8
  | 9, _ => exact nmX9
  | 10, _ => exact nmX10
  | 11, _ => exact nmX11
  | 12, _ => exact nmX12
theorem xel_obj {tc : XTc} {ad : Nat → Nat} {a : Nat} {xs : List Int32} (h : a < 13) : xel tc ad (a, xs) = .inr (a, xfs ad a xs) := by
  unfold xel
  rw [if_neg (by show ¬ a = 13; omega), if_neg (by show ¬ a = 14; omega), if_neg (by show ¬ a = 15; omega), if_neg (by show ¬ a = 16; omega)]
theorem xel_13 {tc : XTc} {ad : Nat → Nat} {xs : List Int32} : xel tc ad (13, xs) = .inl (tc.1, xs.length, .inl (fun j => xs.getD j 0)) := by simp [xel]
theorem xel_14 {tc : XTc} {ad : Nat → Nat} {xs : List Int32} : xel tc ad (14, xs) = .inl (tc.2.1, xs.length, .inl (fun j => xs.getD j 0)) := by simp [xel]
theorem xel_15 {tc : XTc} {ad : Nat → Nat} {xs : List Int32} : xel tc ad (15, xs) = .inl (tc.2.2.1, xs.length, .inr (.inr (.inr (.inr (fun j => xro ad (xs.getD j 0)))))) := by simp [xel]
theorem xel_16 {tc : XTc} {ad : Nat → Nat} {xs : List Int32} : xel tc ad (16, xs) = .inl (tc.2.2.2, xs.length, .inr (.inr (.inr (.inr (fun j => xro ad (xs.getD j 0)))))) := by simp [xel]
theorem xfs_get {ad : Nat → Nat} {a k : Nat} {xs : List Int32} (h : k < xs.length) : (xfs ad a xs)[k]? = some (xmv ad .null (xsv (xisR (xty a k)) (xs.getD k 0))) := by
  unfold xfs
  rw [List.getElem?_mapIdx, List.getD_eq_getElem?_getD, List.getElem?_eq_getElem h]
  rfl
theorem xfs_set {ad : Nat → Nat} {a k : Nat} {xs : List Int32} {x : Int32} : xfs ad a (xs.set k x) = (xfs ad a xs).set k (xmv ad .null (xsv (xisR (xty a k)) x)) := by
  apply List.ext_getElem?
  intro j
  unfold xfs
  rw [List.getElem?_mapIdx]
  by_cases hk : k = j
  · subst hk
    by_cases hl : k < xs.length
    · rw [List.getElem?_set_self hl, List.getElem?_set_self (by simpa using hl)]
      rfl
    · rw [List.getElem?_eq_none (by simpa using hl), List.getElem?_eq_none (by simpa using hl)]
      rfl
  · rw [List.getElem?_set_ne hk, List.getElem?_set_ne hk, List.getElem?_mapIdx]
theorem xfs_len {ad : Nat → Nat} {a : Nat} {xs : List Int32} : (xfs ad a xs).length = xs.length := by
  unfold xfs
  simp
theorem xmv_sv {ad : Nat → Nat} {fv : Value} (r : Bool) (x : Int32) : xmv ad .null (xsv r x) = xmv ad fv (xsv r x) := by
  unfold xsv
  cases r
  · rfl
  · dsimp only
    split <;> rfl
theorem xro_sv {ad : Nat → Nat} {fv : Value} (x : Int32) : va_rf (xro ad x) = xmv ad fv (xsv true x) := by
  unfold xro xsv
  dsimp only
  split <;> rfl
theorem xof_nat {i : Nat} (h : i < 1000000) : ¬ Int32.ofNat i < 0 ∧ (Int32.ofNat i).toNatClampNeg = i := ⟨nI_pos (by omega), nI_clamp (by omega)⟩
theorem xenc_sv {ty : FieldType} {w : Value} {x : Int32} (h : xenc ty w = some x) : xsv (xisR ty) x = w := by
  unfold xenc at h
  split at h
  next i hr =>
    split at h
    next hi =>
      cases h
      rw [hr]
      unfold xsv
      dsimp only
      rw [if_neg (xof_nat hi).1, (xof_nat hi).2]
    next => cases h
  next hr =>
    cases h
    rw [hr]
    rfl
  next y hr =>
    split at h
    · cases h
      rw [hr]
      rfl
    · cases h
  next => cases h
theorem xenc_fit {ty : FieldType} {w : Value} {x : Int32} {ad : Nat → Nat} {fv : Value} (h : xenc ty w = some x) : narrow ty (xmv ad fv w) = xmv ad fv w ∧ fits ty (xmv ad fv w) = true := by
  unfold xenc at h
  split at h
  next i hr =>
    cases ty <;> simp [xisR] at hr <;> exact ⟨rfl, rfl⟩
  next hr =>
    cases ty <;> simp [xisR] at hr <;> exact ⟨rfl, rfl⟩
  next y hr =>
    split at h
    next q => exact q
    next => cases h
  next => cases h
theorem xin_vp {i : Int32} {n : Nat} (h : xin i n) : vp_in i n := vp_in_iff.mpr h
theorem xupd_set {xs : List Int32} {k : Nat} {x : Int32} (h : k < xs.length) : upd (fun j => xs.getD j 0) k x = fun j => (xs.set k x).getD j 0 := by
  funext j
  unfold upd
  by_cases hj : j = k
  · subst hj
    simp [h]
  · rw [if_neg hj]
    simp [List.getD_eq_getElem?_getD, List.getElem?_set_ne (Ne.symm hj)]
theorem xin_lt {i : Int32} {n : Nat} (h : xin i n) : i.toNatClampNeg < n := by
  have h0 := h.1
  have h1 := h.2
  show i.toInt.toNat < n
  omega
theorem xW_sz {p : Program} {l : Launch} {e : Env} {R : Room} {s : State} {m : MethodId} {args : Array Value} {below : List Frame} {meth : Method} {c : Code} {H : Heap} {locs : List Loc} {cells slots : Nat} {Q : State → Prop} {g : JFrame} (h : H.size ≤ s.heap.size + cells → W p l e R s m args below meth c H locs cells slots Q g) : W p l e R s m args below meth c H locs cells slots Q g := fun T hT X => h (by rw [← hT]; exact X.heapSize) T hT X
theorem xload_0 {i n : Nat} {ls st : List Value} {h : XHp} {r : XSt} (e : xload i n ls st h 0 = some r) : ∃ x, ls[i]? = some (.int x) ∧ r = (n, ls, .int x :: st, h) := by
  unfold xload at e
  split at e
  next x hx => exact ⟨x, hx, by simpa using e.symm⟩
  next => simp at e
  next => simp at e
  next => cases e
theorem xload_1 {i n : Nat} {ls st : List Value} {h : XHp} {r : XSt} (e : xload i n ls st h 1 = some r) : ∃ x, ls[i]? = some (.long x) ∧ r = (n, ls, .long x :: st, h) := by
  unfold xload at e
  split at e
  next => simp at e
  next x hx => exact ⟨x, hx, by simpa using e.symm⟩
  next => simp at e
  next => cases e
theorem xload_2 {i n : Nat} {ls st : List Value} {h : XHp} {r : XSt} (e : xload i n ls st h 2 = some r) : ∃ x, ls[i]? = some (.ref x) ∧ r = (n, ls, .ref x :: st, h) := by
  unfold xload at e
  split at e
  next => simp at e
  next => simp at e
  next x hx => exact ⟨x, hx, by simpa using e.symm⟩
  next => cases e
theorem xstore_0 {i n : Nat} {ls st : List Value} {h : XHp} {r : XSt} (e : xstore i n ls st h 0 = some r) : ∃ x s, st = .int x :: s ∧ i < ls.length ∧ r = (n, xst1 ls i (.int x), s, h) := by
  unfold xstore at e
  split at e
  next x s =>
    split at e
    next q => exact ⟨x, s, rfl, q.2, by simpa using e.symm⟩
    next => cases e
  next => simp at e
  next => simp at e
  next => cases e
theorem xstore_1 {i n : Nat} {ls st : List Value} {h : XHp} {r : XSt} (e : xstore i n ls st h 1 = some r) : ∃ x s, st = .long x :: s ∧ i + 1 < ls.length ∧ r = (n, xst2 ls i (.long x), s, h) := by
  unfold xstore at e
  split at e
  next => simp at e
  next x s =>
    split at e
    next q => exact ⟨x, s, rfl, q.2, by simpa using e.symm⟩
    next => cases e
  next => simp at e
  next => cases e
theorem xstore_2 {i n : Nat} {ls st : List Value} {h : XHp} {r : XSt} (e : xstore i n ls st h 2 = some r) : ∃ x s, st = .ref x :: s ∧ i < ls.length ∧ r = (n, xst1 ls i (.ref x), s, h) := by
  unfold xstore at e
  split at e
  next => simp at e
  next => simp at e
  next x s =>
    split at e
    next q => exact ⟨x, s, rfl, q.2, by simpa using e.symm⟩
    next => cases e
  next => cases e
theorem xbi_inv {f : Int32 → Int32 → Int32} {n : Nat} {ls st : List Value} {h : XHp} {r : XSt} (e : xbi f n ls st h = some r) : ∃ x y s, st = .int y :: .int x :: s ∧ r = (n, ls, .int (f x y) :: s, h) := by
  unfold xbi at e
  split at e
  next y x s => exact ⟨x, y, s, rfl, by simpa using e.symm⟩
  next => cases e
theorem xbl_inv {f : Int64 → Int64 → Int64} {n : Nat} {ls st : List Value} {h : XHp} {r : XSt} (e : xbl f n ls st h = some r) : ∃ x y s, st = .long y :: .long x :: s ∧ r = (n, ls, .long (f x y) :: s, h) := by
  unfold xbl at e
  split at e
  next y x s => exact ⟨x, y, s, rfl, by simpa using e.symm⟩
  next => cases e
