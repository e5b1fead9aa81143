/-! each step of the interpreter is the machine's -/
def xlenS : List Nat := xbyt.map List.length
/-- the words that a call doesn't hand on by itself -/
def xNW (U : State) : Prop := (∀ q ∈ xLM, ¬ q.2.2.2 = 0 → va_Nw (.methodLinkNest (xocN q.1) q.2.1 (xspN q.2.2.1) "ConvoyTown") U) ∧ va_AO "ConvoyTown$Cross" U ∧ va_AO "ConvoyTown$Street" U
/-- the words that it hands on -/
def xtb : List Cond := lw_tbl.filter goodWord
theorem xg {w : Cond} (h : w ∈ lw_tbl) (hg : goodWord w = true) : w ∈ xtb := List.mem_filter.mpr ⟨h, hg⟩
/-- what is outside: the String constants, two statics of the JDK, the script -/
def xSTR (X : List Int32) (ad : Nat → Nat) (fv : Value) (A : Nat → Prop) (U : State) (H : Heap) : Prop :=
  vk_S 19 xlenS xbyt (fun i => ad (xSB + 2 * i)) (fun i => ad (xSB + 2 * i + 1)) A U H ∧ (∀ (i : Nat) (q : String × Nat × String), xstrs[i]? = some q → vk_R q.1 q.2.1 q.2.2 (ad (xSB + 2 * i)) U) ∧ va_Z "java/lang/String" "COMPACT_STRINGS" "Z" (.int 1) A U H ∧ va_Z "jdk/internal/util/Preconditions" "SIOOBE_FORMATTER" "Ljava/util/function/BiFunction;" fv A U H ∧ (fv = .null ∨ ∃ t, fv = .ref t) ∧ va_X (ad xSC) X.length (fun j => X.getD j 0) U H ∧ ad xSC < H.size ∧ ¬ A (ad xSC) ∧ xNW U
theorem xSTR.go {X : List Int32} {ad : Nat → Nat} {fv : Value} {A B : Nat → Prop} {s U : State} {H : Heap} (h : xSTR X ad fv A s s.heap) (hW : s.WarmedH U.vm) (hz : s.heap.size ≤ H.size) (hq : ∀ a : Nat, a < s.heap.size → ¬ A a → H[a]? = s.heap[a]?) (hAB : ∀ q, B q → A q) : xSTR X ad fv B U H := by
  obtain ⟨h1, h2, h3, h4, h5, h6, h7, h8, h9⟩ := h
  exact ⟨((h1.kept hq).narrow hAB).moved hW.alike, fun i q hi => (h2 i q hi).warm hW, ((h3.kept hq).narrow hAB).moved hW.alike, ((h4.kept hq).narrow hAB).moved hW.alike, h5, (h6.kept (hq _ h7 h8)).moved hW.alike, Nat.lt_of_lt_of_le h7 hz, fun z => h8 (hAB _ z), fun q hq hn => (h9.1 q hq hn).warmM hW, h9.2.1.moved hW.alike, h9.2.2.moved hW.alike⟩
/-- the size of a heap -/
def xsz (h : XHp) : Nat := (h.map (fun q => q.2.length)).sum
/-- where a method stands: the machine, its words, its room; base: where the places begin; h0: the heap as the method began -/
def xC (X : List Int32) (p : Program) (R : Room) (s : State) (m : MethodId) (args : Array Value) (meth : Method) (c : Code) (D : va_G) (tc : XTc) (ad : Nat → Nat) (fv : Value) (base : Nat) (A : Nat → Prop) (d z : Nat) (n0 : Nat) : Prop :=
  p.tables.exec = Jvm.exec ∧ c.code = xbt z ∧ c.maxLocals = xmx z ∧ s.vm.findClass (xow z) = some m.cls ∧ (∀ w ∈ xtb, w.before args s = true) ∧ d + 1 ≤ R.frames ∧ 100 * (d + 1) ≤ R.locals ∧ va_K D vwCl (xtyl tc) s ∧ (∀ q, s.heap.size ≤ q → A q) ∧ xSTR X ad fv A s s.heap ∧ (z < 228 → meth.name = (xnm z).name) ∧ s.heap.size = base + n0 ∧ (∀ k, k < xSB → ad k = base + k) ∧ (∀ q, A q → base ≤ q)
def xI (s : State) (D : va_G) (tc : XTc) (ad : Nat → Nat) (fv : Value) (A : Nat → Prop) (h : XHp) (ls : List Value) (sl : Array Slot) (H : Heap) (locs : List Loc) : Prop :=
  va_P D vwCl (xwd tc ad h) H ∧ va_D A (xwd tc ad h) ∧ va_S A s.heap H locs ∧ xL ad fv ls sl
theorem xmt_at {z : Nat} (h : z < 228) : xmt z ∈ xmeths.take 228 := by
  unfold xmt
  rw [List.getD_eq_getElem?_getD, List.getElem?_eq_getElem (by rw [xmeths_len]; omega)]
  exact List.mem_of_getElem? (i := z) (by rw [List.getElem?_take, if_pos h, List.getElem?_eq_getElem (by rw [xmeths_len]; omega)]; rfl)
theorem xmm {z : Nat} (h : z < 228) : xwMM (xmt z) := xMM_ok _ (xmt_at h)
theorem xoc_ok {z : Nat} (h : z < 229) : xocN (xoc z) = xow z := by
  refine xMO_ok (xmt z) ?_
  unfold xmt
  rw [List.getD_eq_getElem?_getD, List.getElem?_eq_getElem (by rw [xmeths_len]; omega)]
  exact List.getElem_mem _
set_option maxRecDepth 100000 in
theorem xocN_cl : ∀ a, a < 13 → xocN a = xclN a := by decide +kernel
set_option maxRecDepth 100000 in
theorem xdecl_all : (List.range 13).all (fun a => (List.range (xnf a)).all (fun b => decide ((xclT a b).1 = xclN a) && (decide (xnfN.getD a 0 = xnf a) && (xisR (xty a b) || (decide (xty a b = .int) || decide (xty a b = .boolean)))))) = true := by decide +kernel
theorem xdecl {a b : Nat} (ha : a < 13) (hb : b < xnf a) : (xclT a b).1 = xclN a ∧ (xisR (xty a b) = true ∨ xty a b = .int ∨ xty a b = .boolean) := by
  have := List.all_eq_true.mp (List.all_eq_true.mp xdecl_all a (List.mem_range.mpr ha)) b (List.mem_range.mpr hb)
  simp only [Bool.and_eq_true, Bool.or_eq_true, decide_eq_true_eq] at this
  exact ⟨this.1, this.2.2⟩
theorem xnfN_ok : ∀ a, a < 13 → xnfN.getD a 0 = xnf a := by decide +kernel
theorem xwF_obj {o i a b : Nat} (h : a < 13) : xwF (o, i, a, b) = .fieldLink (xocN o) i (xclN a) (xclT a b).2.1 (xclT a b).2.2.1 := by
  unfold xwF
  dsimp only
  rw [if_neg (by omega), if_neg (by omega)]
theorem xcl_get {a : Nat} (h : a < 13) : vwCl[a]? = some (xclN a, xclT a, xnf a) := by
  unfold xclN xclT xnf
  rw [List.getD_eq_getElem?_getD, List.getElem?_eq_getElem (by exact h)]
  rfl
set_option maxRecDepth 1000000 in
theorem xin_all : (List.range 13).all (fun a => (u_ws (xclN a) (xclT a) (xnf a)).all (fun w => decide (w ∈ lw_tbl) && goodWord w)) = true := by decide +kernel
theorem xin_tbl {a : Nat} (h : a < 13) : ∀ w ∈ u_ws (xclN a) (xclT a) (xnf a), w ∈ xtb := by
  intro w hw
  have := List.all_eq_true.mp (List.all_eq_true.mp xin_all a (List.mem_range.mpr h)) w hw
  simp only [Bool.and_eq_true, decide_eq_true_eq] at this
  exact xg this.1 this.2
theorem xty_ok {a : Nat} (h : a < 13) : ∀ k, k < xnf a → parseFieldDescriptor (xclT a k).2.2.1 = some (xty a k) := by
  match a, h with
  | 0, _ => exact tyX0_ok
  | 1, _ => exact tyX1_ok
  | 2, _ => exact tyX2_ok
  | 3, _ => exact tyX3_ok
  | 4, _ => exact tyX4_ok
  | 5, _ => exact tyX5_ok
  | 6, _ => exact tyX6_ok
  | 7, _ => exact tyX7_ok
  | 8, _ => exact tyX8_ok
  | 9, _ => exact tyX9_ok
  | 10, _ => exact tyX10_ok
  | 11, _ => exact tyX11_ok
  | 12, _ => exact tyX12_ok
theorem xnm_ok {a : Nat} (h : a < 13) : ∀ x, x < xnf a → ∀ y, y < xnf a → x ≠ y → (xclT a x).2.1 ≠ (xclT a y).2.1 := by
  match a, h with
  | 0, _ => exact nmX0
  | 1, _ => exact nmX1
  | 2, _ => exact nmX2
  | 3, _ => exact nmX3
  | 4, _ => exact nmX4
  | 5, _ => exact nmX5
  | 6, _ => exact nmX6
  | 7, _ => exact nmX7
  | 8, _ => exact nmX8
  | 9, _ => exact nmX9
  | 10, _ => exact nmX10
  | 11, _ => exact nmX11
  | 12, _ => exact nmX12
theorem xel_obj {tc : XTc} {ad : Nat → Nat} {a : Nat} {xs : List Int32} (h : a < 13) : xel tc ad (a, xs) = .inr (a, xfs ad a xs) := by
  unfold xel
  rw [if_neg (by show ¬ a = 13; omega), if_neg (by show ¬ a = 14; omega), if_neg (by show ¬ a = 15; omega), if_neg (by show ¬ a = 16; omega)]
theorem xel_13 {tc : XTc} {ad : Nat → Nat} {xs : List Int32} : xel tc ad (13, xs) = .inl (tc.1, xs.length, .inl (fun j => xs.getD j 0)) := by simp [xel]
theorem xel_14 {tc : XTc} {ad : Nat → Nat} {xs : List Int32} : xel tc ad (14, xs) = .inl (tc.2.1, xs.length, .inl (fun j => xs.getD j 0)) := by simp [xel]
theorem xel_15 {tc : XTc} {ad : Nat → Nat} {xs : List Int32} : xel tc ad (15, xs) = .inl (tc.2.2.1, xs.length, .inr (.inr (.inr (.inr (fun j => xro ad (xs.getD j (-1))))))) := by simp [xel]
theorem xel_16 {tc : XTc} {ad : Nat → Nat} {xs : List Int32} : xel tc ad (16, xs) = .inl (tc.2.2.2, xs.length, .inr (.inr (.inr (.inr (fun j => xro ad (xs.getD j (-1))))))) := by simp [xel]
theorem xfs_get {ad : Nat → Nat} {a k : Nat} {xs : List Int32} (h : k < xs.length) : (xfs ad a xs)[k]? = some (xmv ad .null (xsv (xisR (xty a k)) (xs.getD k 0))) := by
  unfold xfs
  rw [List.getElem?_mapIdx, List.getD_eq_getElem?_getD, List.getElem?_eq_getElem h]
  rfl
theorem xfs_set {ad : Nat → Nat} {a k : Nat} {xs : List Int32} {x : Int32} : xfs ad a (xs.set k x) = (xfs ad a xs).set k (xmv ad .null (xsv (xisR (xty a k)) x)) := by
  apply List.ext_getElem?
  intro j
  unfold xfs
  rw [List.getElem?_mapIdx]
  by_cases hk : k = j
  · subst hk
    by_cases hl : k < xs.length
    · rw [List.getElem?_set_self hl, List.getElem?_set_self (by simpa using hl)]
      rfl
    · rw [List.getElem?_eq_none (by simpa using hl), List.getElem?_eq_none (by simpa using hl)]
      rfl
  · rw [List.getElem?_set_ne hk, List.getElem?_set_ne hk, List.getElem?_mapIdx]
theorem xfs_len {ad : Nat → Nat} {a : Nat} {xs : List Int32} : (xfs ad a xs).length = xs.length := by
  unfold xfs
  simp
theorem xmv_sv {ad : Nat → Nat} {fv : Value} (r : Bool) (x : Int32) : xmv ad .null (xsv r x) = xmv ad fv (xsv r x) := by
  unfold xsv
  cases r
  · rfl
  · dsimp only
    split <;> rfl
theorem xro_sv {ad : Nat → Nat} {fv : Value} (x : Int32) : va_rf (xro ad x) = xmv ad fv (xsv true x) := by
  unfold xro xsv
  dsimp only
  split <;> rfl
theorem xof_nat {i : Nat} (h : i < 1000000) : ¬ Int32.ofNat i < 0 ∧ (Int32.ofNat i).toNatClampNeg = i := ⟨nI_pos (by omega), nI_clamp (by omega)⟩
theorem xenc_sv {ty : FieldType} {w : Value} {x : Int32} (h : xenc ty w = some x) : xsv (xisR ty) x = w := by
  unfold xenc at h
  split at h
  next i hr =>
    split at h
    next hi =>
      cases h
      rw [hr]
      unfold xsv
      dsimp only
      rw [if_neg (xof_nat hi).1, (xof_nat hi).2]
    next => cases h
  next hr =>
    cases h
    rw [hr]
    rfl
  next y hr =>
    split at h
    · cases h
      rw [hr]
      rfl
    · cases h
  next => cases h
theorem xenc_fit {ty : FieldType} {w : Value} {x : Int32} {ad : Nat → Nat} {fv : Value} (h : xenc ty w = some x) : narrow ty (xmv ad fv w) = xmv ad fv w ∧ fits ty (xmv ad fv w) = true := by
  unfold xenc at h
  split at h
  next i hr =>
    cases ty <;> simp [xisR] at hr <;> exact ⟨rfl, rfl⟩
  next hr =>
    cases ty <;> simp [xisR] at hr <;> exact ⟨rfl, rfl⟩
  next y hr =>
    split at h
    next q => exact q
    next => cases h
  next => cases h
theorem xin_vp {i : Int32} {n : Nat} (h : xin i n) : vp_in i n := vp_in_iff.mpr h
theorem xupd_set {xs : List Int32} {k : Nat} {x : Int32} (h : k < xs.length) : upd (fun j => xs.getD j 0) k x = fun j => (xs.set k x).getD j 0 := by
  funext j
  unfold upd
  by_cases hj : j = k
  · subst hj
    simp [h]
  · rw [if_neg hj]
    simp [List.getD_eq_getElem?_getD, List.getElem?_set_ne (Ne.symm hj)]
theorem xin_lt {i : Int32} {n : Nat} (h : xin i n) : i.toNatClampNeg < n := by
  have h0 := h.1
  have h1 := h.2
  show i.toInt.toNat < n
  omega
theorem xW_sz {p : Program} {l : Launch} {e : Env} {R : Room} {s : State} {m : MethodId} {args : Array Value} {below : List Frame} {meth : Method} {c : Code} {H : Heap} {locs : List Loc} {cells slots : Nat} {Q : State → Prop} {g : JFrame} (h : H.size ≤ s.heap.size + cells → W p l e R s m args below meth c H locs cells slots Q g) : W p l e R s m args below meth c H locs cells slots Q g := fun T hT X => h (by rw [← hT]; exact X.heapSize) T hT X
theorem xload_0 {i n : Nat} {ls st : List Value} {h : XHp} {r : XSt} (e : xload i n ls st h 0 = some r) : ∃ x, ls[i]? = some (.int x) ∧ r = (n, ls, .int x :: st, h) := by
  unfold xload at e
  split at e
  next x hx => exact ⟨x, hx, by simpa using e.symm⟩
  next => simp at e
  next => simp at e
  next => cases e
theorem xload_1 {i n : Nat} {ls st : List Value} {h : XHp} {r : XSt} (e : xload i n ls st h 1 = some r) : ∃ x, ls[i]? = some (.long x) ∧ r = (n, ls, .long x :: st, h) := by
  unfold xload at e
  split at e
  next => simp at e
  next x hx => exact ⟨x, hx, by simpa using e.symm⟩
  next => simp at e
  next => cases e
theorem xload_2 {i n : Nat} {ls st : List Value} {h : XHp} {r : XSt} (e : xload i n ls st h 2 = some r) : ∃ x, ls[i]? = some (.ref x) ∧ r = (n, ls, .ref x :: st, h) := by
  unfold xload at e
  split at e
  next => simp at e
  next => simp at e
  next x hx => exact ⟨x, hx, by simpa using e.symm⟩
  next => cases e
theorem xstore_0 {i n : Nat} {ls st : List Value} {h : XHp} {r : XSt} (e : xstore i n ls st h 0 = some r) : ∃ x s, st = .int x :: s ∧ i < ls.length ∧ r = (n, xst1 ls i (.int x), s, h) := by
  unfold xstore at e
  split at e
  next x s =>
    split at e
    next q => exact ⟨x, s, rfl, q.2, by simpa using e.symm⟩
    next => cases e
  next => simp at e
  next => simp at e
  next => cases e
theorem xstore_1 {i n : Nat} {ls st : List Value} {h : XHp} {r : XSt} (e : xstore i n ls st h 1 = some r) : ∃ x s, st = .long x :: s ∧ i + 1 < ls.length ∧ r = (n, xst2 ls i (.long x), s, h) := by
  unfold xstore at e
  split at e
  next => simp at e
  next x s =>
    split at e
    next q => exact ⟨x, s, rfl, q.2, by simpa using e.symm⟩
    next => cases e
  next => simp at e
  next => cases e
theorem xstore_2 {i n : Nat} {ls st : List Value} {h : XHp} {r : XSt} (e : xstore i n ls st h 2 = some r) : ∃ x s, st = .ref x :: s ∧ i < ls.length ∧ r = (n, xst1 ls i (.ref x), s, h) := by
  unfold xstore at e
  split at e
  next => simp at e
  next => simp at e
  next x s =>
    split at e
    next q => exact ⟨x, s, rfl, q.2, by simpa using e.symm⟩
    next => cases e
  next => cases e
theorem xbi_inv {f : Int32 → Int32 → Int32} {n : Nat} {ls st : List Value} {h : XHp} {r : XSt} (e : xbi f n ls st h = some r) : ∃ x y s, st = .int y :: .int x :: s ∧ r = (n, ls, .int (f x y) :: s, h) := by
  unfold xbi at e
  split at e
  next y x s => exact ⟨x, y, s, rfl, by simpa using e.symm⟩
  next => cases e
theorem xbl_inv {f : Int64 → Int64 → Int64} {n : Nat} {ls st : List Value} {h : XHp} {r : XSt} (e : xbl f n ls st h = some r) : ∃ x y s, st = .long y :: .long x :: s ∧ r = (n, ls, .long (f x y) :: s, h) := by
  unfold xbl at e
  split at e
  next y x s => exact ⟨x, y, s, rfl, by simpa using e.symm⟩
  next => cases e
theorem xmv_nofv {ty : FieldType} {w : Value} {x : Int32} {ad : Nat → Nat} {fv : Value} (h : xenc ty w = some x) : xmv ad .null w = xmv ad fv w := by
  rw [← xenc_sv h]
  exact xmv_sv _ _
theorem xwr_len {h : XHp} {o k : Nat} {x : Int32} : (xwr h o k x).length = h.length := by
  unfold xwr
  simp
theorem xsz_set {q : Nat × List Int32} : ∀ {h : XHp} {o : Nat}, q.2.length = (xda h o).length → xsz (h.set o q) = xsz h
  | [], _, _ => by simp
  | c :: h, 0, hq => by
    simp only [xda, List.getD_cons_zero] at hq
    simp [xsz, hq]
  | c :: h, o + 1, hq => by
    simp only [xda, List.getD_cons_succ] at hq
    have := xsz_set (h := h) (o := o) hq
    simp only [xsz, List.set_cons_succ, List.map_cons, List.sum_cons] at this ⊢
    omega
theorem xwr_sz {h : XHp} {o k : Nat} {x : Int32} : xsz (xwr h o k x) = xsz h := xsz_set (by simp)
theorem xst1_len {ls : List Value} {i : Nat} {v : Value} : (xst1 ls i v).length = ls.length := by
  unfold xst1
  rw [List.length_set, xclr_len]
theorem xst2_len {ls : List Value} {i : Nat} {v : Value} : (xst2 ls i v).length = ls.length := by
  unfold xst2
  rw [List.length_set, List.length_set, xclr_len]
theorem xstrN_ok : xstrs.length = 19 ∧ xstrN.length = 19 ∧ ∀ i, i < 19 → (xstrs.getD i ("", 0, "")).1 = xocN (xstrN.getD i (0, 0)).1 ∧ (xstrs.getD i ("", 0, "")).2.1 = (xstrN.getD i (0, 0)).2 := by decide +kernel
theorem xstr_at {a o i : Nat} (h : xstrN[a]? = some (o, i)) : ∃ tx, xstrs[a]? = some (xocN o, i, tx) := by
  obtain ⟨h1, h2, h3⟩ := xstrN_ok
  have ha : a < 19 := by rw [← h2]; exact (List.getElem?_eq_some_iff.mp h).1
  obtain ⟨q1, q2⟩ := h3 a ha
  rw [List.getD_eq_getElem?_getD, List.getD_eq_getElem?_getD, h, List.getElem?_eq_getElem (by omega)] at q1 q2
  simp only [Option.getD_some] at q1 q2
  refine ⟨(xstrs[a]'(by omega)).2.2, ?_⟩
  rw [List.getElem?_eq_getElem (by omega), ← q1, ← q2]
theorem xlenS_at (j : Nat) : xlenS.getD j 0 = (xbyt.getD j []).length := by
  unfold xlenS
  simp only [List.getD_eq_getElem?_getD, List.getElem?_map]
  cases xbyt[j]? <;> rfl
theorem xup_set {ad : Nat → Nat} {xs : List Int32} {k u : Nat} (h : k < xs.length) (hu : u < 1000000) : va_up (fun j => xro ad (xs.getD j (-1))) k (some (ad u)) = fun j => xro ad ((xs.set k (Int32.ofNat u)).getD j (-1)) := by
  funext j
  unfold va_up
  by_cases hj : j = k
  · subst hj
    rw [if_pos rfl]
    simp only [List.getD_eq_getElem?_getD, List.getElem?_set_self h, Option.getD_some]
    unfold xro
    rw [if_neg (xof_nat hu).1, (xof_nat hu).2]
  · rw [if_neg hj]
    simp [List.getD_eq_getElem?_getD, List.getElem?_set_ne (Ne.symm hj)]
theorem xsz_push {h : XHp} {q : Nat × List Int32} : xsz (h ++ [q]) = xsz h + q.2.length := by
  unfold xsz
  simp
theorem xrep_0 {n : Nat} : (fun j => (List.replicate n (0 : Int32)).getD j 0) = fun _ => 0 := by
  funext j
  simp only [List.getD_eq_getElem?_getD, List.getElem?_replicate]
  split <;> rfl
theorem xrep_1 {ad : Nat → Nat} {n : Nat} : (fun j => xro ad ((List.replicate n (-1 : Int32)).getD j (-1))) = (fun _ => none) := by
  funext j
  simp only [List.getD_eq_getElem?_getD, List.getElem?_replicate]
  split <;> rfl
theorem xgd {xs : List Int32} {i : Nat} (h : i < xs.length) : xs.getD i (-1) = xs.getD i 0 := by
  simp only [List.getD_eq_getElem?_getD, List.getElem?_eq_getElem h, Option.getD_some]
theorem xwC_obj {o i a : Nat} (h : a < 13) : xwC (o, i, a) = .classLink (xocN o) i (xclN a) := by
  unfold xwC
  dsimp only
  rw [if_neg (by omega), if_neg (by omega)]
set_option maxRecDepth 100000 in
theorem xinst_all : (List.range 13).all (fun a => decide (Cond.instantiable (xclN a) (xnf a) ∈ tables_1) && decide (Cond.initialized (xclN a) ∈ tables_1)) = true := by decide +kernel
theorem xinst_ok {a : Nat} (h : a < 13) : Cond.instantiable (xclN a) (xnf a) ∈ lw_tbl ∧ Cond.initialized (xclN a) ∈ lw_tbl := by
  have := List.all_eq_true.mp xinst_all a (List.mem_range.mpr h)
  simp only [Bool.and_eq_true, decide_eq_true_eq] at this
  exact ⟨List.mem_append_right _ this.1, List.mem_append_right _ this.2⟩
theorem xdef_ok {ad : Nat → Nat} {a : Nat} (h : a < 13) : ∀ j, j < xnf a → defaultValue (xty a j) = vp_V (xfs ad a (xdef a)) j := by
  intro j hj
  have hl : j < (xdef a).length := by simpa [xdef] using hj
  unfold vp_V
  rw [List.getD_eq_getElem?_getD, xfs_get hl]
  simp only [Option.getD_some, xdef, List.getD_eq_getElem?_getD, List.getElem?_map, List.getElem?_range hj, Option.map_some]
  rcases (xdecl h hj).2 with q | q | q
  · rw [q]
    cases ht : xty a j <;> rw [ht] at q <;> simp [xisR] at q <;> rfl
  · rw [q]
    rfl
  · rw [q]
    rfl
theorem xcat_map {ad : Nat → Nat} {fv : Value} (hf : fv = .null ∨ ∃ t, fv = .ref t) (t : List Value) : ((t.map (xmv ad fv)).map fun v => v.category).sum = (t.map Value.category).sum := by
  rw [List.map_map]
  congr 1
  apply List.map_congr_left
  intro v _
  exact xmv_cat hf v
theorem xcpy_len {f g : List Int32} {sp dp n : Nat} : (xcpy f g sp dp n).length = g.length := by
  unfold xcpy
  simp
theorem xcpy_fn {f g : List Int32} {sp dp n : Nat} (h : dp + n ≤ g.length) : va_cpy (fun j => f.getD j 0) (fun j => g.getD j 0) sp dp n = fun j => (xcpy f g sp dp n).getD j 0 := by
  funext j
  unfold va_cpy xcpy
  by_cases hj : j < g.length
  · simp only [List.getD_eq_getElem?_getD, List.getElem?_map, List.getElem?_range hj, Option.map_some, Option.getD_some]
  · rw [if_neg (by omega)]
    simp only [List.getD_eq_getElem?_getD, List.getElem?_eq_none (Nat.not_lt.mp hj), List.getElem?_map]
    rw [List.getElem?_eq_none (by simpa using hj)]
    rfl
theorem xarr_int : Cond.arrayClass .int ∈ lw_tbl := xw_mem (w := 1077) rfl
theorem xarr_byte : Cond.arrayClass .byte ∈ lw_tbl := xw_mem (w := 4014) rfl
theorem xover_cross : Cond.arrayOver (.object "ConvoyTown$Cross") ∈ lw_tbl := xw_mem (w := 1035) rfl
theorem xover_street : Cond.arrayOver (.object "ConvoyTown$Street") ∈ lw_tbl := xw_mem (w := 2055) rfl
theorem xobj_inst : Cond.instanceMethod Lib.objectInit ∈ lw_tbl := xw_mem (w := 1026) rfl
theorem xobj_code : Cond.code Lib.objectInit ⟨#[0xb1]⟩ 1 none ∈ lw_tbl := xw_mem (w := 1027) rfl
theorem xcopy_nat : Cond.native arraycopyName ∈ lw_tbl := xw_mem (w := 5045) rfl
theorem xcopy_stat : Cond.static arraycopyName ∈ lw_tbl := xw_mem (w := 5044) rfl
theorem xcopy_ini : Cond.initialized "java/lang/System" ∈ lw_tbl := xw_mem (w := 1019) rfl
theorem xmath_ini : Cond.initialized "java/lang/Math" ∈ lw_tbl := xw_mem (w := 1009) rfl
theorem xmax_stat : Cond.static Lib.Math.max.name ∈ lw_tbl := xw_mem (w := 2063) rfl
theorem xmin_stat : Cond.static Lib.Math.min.name ∈ lw_tbl := xw_mem (w := 3095) rfl
theorem xabs_stat : Cond.static Lib.Math.abs.name ∈ lw_tbl := xw_mem (w := 5140) rfl
theorem xmax_code : Cond.code Lib.Math.max.name Lib.Math.max.code 2 (some .int) ∈ lw_tbl := xw_mem (w := 2064) rfl
theorem xmin_code : Cond.code Lib.Math.min.name Lib.Math.min.code 2 (some .int) ∈ lw_tbl := xw_mem (w := 3096) rfl
theorem xabs_code : Cond.code Lib.Math.abs.name Lib.Math.abs.code 1 (some .int) ∈ lw_tbl := xw_mem (w := 5141) rfl
set_option maxHeartbeats 4000000 in
theorem xstep_mono {X : List Int32} {k : XRow} {ls ls' st st' : List Value} {h h' : XHp} {pc' : Nat} (hs : xstep X k ls st h = some (pc', ls', st', h')) : ls'.length = ls.length ∧ h.length ≤ h'.length ∧ xsz h ≤ xsz h' ∧ (h.length ≤ 900000 → h'.length ≤ 900000) := by
  obtain ⟨pc, ins, len, a, b, v, w⟩ := k
  cases ins <;> simp only [xstep, xload, xstore, xbi, xbl, reduceCtorEq] at hs <;> (repeat' split at hs) <;> (first | cases hs | (simp only [Option.some.injEq, Prod.mk.injEq] at hs; obtain ⟨-, rfl, -, rfl⟩ := hs)) <;> (first | exact ⟨rfl, Nat.le_refl _, Nat.le_refl _, id⟩ | exact ⟨xst1_len, Nat.le_refl _, Nat.le_refl _, id⟩ | exact ⟨xst2_len, Nat.le_refl _, Nat.le_refl _, id⟩ | exact ⟨rfl, Nat.le_of_eq xwr_len.symm, Nat.le_of_eq xwr_sz.symm, fun q => by rw [xwr_len]; exact q⟩ | exact ⟨rfl, by simp, by rw [xsz_push]; omega, fun q => by rw [List.length_append, List.length_singleton]; omega⟩ | exact ⟨rfl, by simp, Nat.le_of_eq (xsz_set (by rw [xcpy_len])).symm, fun q => by rw [List.length_set]; exact q⟩)
