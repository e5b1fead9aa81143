/-! the plain heap and the machine's: the k-th cell stands at ad k -/
set_option maxRecDepth 100000 in
theorem xcodes_len : xcodes.length = 229 := by decide +kernel
set_option maxRecDepth 100000 in
theorem xmeths_len : xmeths.length = 229 := by decide +kernel
theorem xlook_ok {z pc : Nat} {k : XRow} (h : xlook z pc = some k) : k.1 = pc ∧ z < 229 ∧ decode (xbt z) pc = .ok (k.2.1, k.2.2.1) ∧ xlen k.2.1 k.2.2.1 = true ∧ xokW z k = true := by
  have hz : z < 229 := by
    rcases Nat.lt_or_ge z 229 with q | q
    · exact q
    · unfold xlook at h
      rw [List.getD_eq_getElem?_getD, List.getElem?_eq_none (by rw [xcodes_len]; exact q)] at h
      simp at h
  have h1 : k.1 = pc := by
    have := List.find?_some h
    simpa using this
  have h2 := List.all_eq_true.mp (xokC_all hz) k (List.mem_of_find?_eq_some h)
  unfold xokR at h2
  simp only [Bool.and_eq_true, decide_eq_true_eq] at h2
  rw [h1] at h2
  exact ⟨h1, hz, h2.1, h2.2.1, h2.2.2⟩
/-- a value of the interpreter as the machine has it -/
def xmv (ad : Nat → Nat) (fv : Value) (v : Value) : Value := match v with
  | .ref i => .ref (ad i)
  | .retAddr 7 => fv
  | v => v
def xro (ad : Nat → Nat) (x : Int32) : Option Nat := if x < 0 then none else some (ad x.toNatClampNeg)
abbrev XTc : Type := ClassId × ClassId × ClassId × ClassId
def xtyl (tc : XTc) : List (ClassId × FieldType) := [(tc.1, .int), (tc.2.1, .byte), (tc.2.2.1, .object "ConvoyTown$Cross"), (tc.2.2.2, .object "ConvoyTown$Street")]
def xfs (ad : Nat → Nat) (ci : Nat) (xs : List Int32) : List Value := xs.mapIdx (fun k x => xmv ad .null (xsv (xisR (xty ci k)) x))
def xel (tc : XTc) (ad : Nat → Nat) (c : Nat × List Int32) : va_E :=
  if c.1 = 13 then .inl (tc.1, c.2.length, .inl (fun j => c.2.getD j 0))
  else if c.1 = 14 then .inl (tc.2.1, c.2.length, .inl (fun j => c.2.getD j 0))
  else if c.1 = 15 then .inl (tc.2.2.1, c.2.length, .inr (.inr (.inr (.inr (fun j => xro ad (c.2.getD j (-1)))))))
  else if c.1 = 16 then .inl (tc.2.2.2, c.2.length, .inr (.inr (.inr (.inr (fun j => xro ad (c.2.getD j (-1)))))))
  else .inr (c.1, xfs ad c.1 c.2)
def xwd (tc : XTc) (ad : Nat → Nat) (h : XHp) : va_W := h.mapIdx (fun k c => (ad k, xel tc ad c))
theorem xwd_get {tc : XTc} {ad : Nat → Nat} {h : XHp} (k : Nat) : (xwd tc ad h)[k]? = h[k]?.map (fun c => (ad k, xel tc ad c)) := by
  unfold xwd
  rw [List.getElem?_mapIdx]
theorem xh_get {h : XHp} {o : Nat} (ho : o < h.length) : h[o]? = some (xkd h o, xda h o) := by
  unfold xkd xda
  rw [List.getD_eq_getElem?_getD, List.getElem?_eq_getElem ho]
  rfl
theorem xwd_at {tc : XTc} {ad : Nat → Nat} {h : XHp} {o : Nat} (ho : o < h.length) : (xwd tc ad h)[o]? = some (ad o, xel tc ad (xkd h o, xda h o)) := by
  rw [xwd_get, xh_get ho]
  rfl
theorem xwd_set {tc : XTc} {ad : Nat → Nat} {h : XHp} {o : Nat} {q : Nat × List Int32} : xwd tc ad (h.set o q) = (xwd tc ad h).set o (ad o, xel tc ad q) := by
  apply List.ext_getElem?
  intro k
  rw [xwd_get]
  by_cases hk : o = k
  · subst hk
    by_cases hl : o < h.length
    · rw [List.getElem?_set_self hl, List.getElem?_set_self (by unfold xwd; simpa using hl)]
      rfl
    · rw [List.getElem?_eq_none (by simpa using hl), List.getElem?_eq_none (by unfold xwd; simpa using hl)]
      rfl
  · rw [List.getElem?_set_ne hk, List.getElem?_set_ne hk, xwd_get]
theorem xwd_push {tc : XTc} {ad : Nat → Nat} {h : XHp} {q : Nat × List Int32} : xwd tc ad (h ++ [q]) = xwd tc ad h ++ [(ad h.length, xel tc ad q)] := by
  unfold xwd
  rw [List.mapIdx_append]
  simp
theorem xwd_len {tc : XTc} {ad : Nat → Nat} {h : XHp} : (xwd tc ad h).length = h.length := by
  unfold xwd
  simp
theorem xmv_cat {ad : Nat → Nat} {fv : Value} (hf : fv = .null ∨ ∃ t, fv = .ref t) (v : Value) : (xmv ad fv v).category = v.category := by
  unfold xmv
  split
  · rfl
  · rcases hf with h | ⟨t, h⟩ <;> rw [h] <;> rfl
  · rfl
/-- the locals -/
def xL (ad : Nat → Nat) (fv : Value) (ls : List Value) (sl : Array Slot) : Prop := sl.size = ls.length ∧ lv_wf sl ∧ ∀ (i : Nat) (v : Value), ls[i]? = some v → v ≠ xU0 → sl[i]? = some (.val (xmv ad fv v))
def xent (ad : Nat → Nat) (fv : Value) (ls : List Value) : List (Nat × Value) := ls.zipIdx.filterMap (fun q => if q.1 = xU0 then none else some (q.2, xmv ad fv q.1))
theorem xent_mem {ad : Nat → Nat} {fv : Value} {ls : List Value} {q : Nat × Value} : q ∈ xent ad fv ls ↔ ∃ v, ls[q.1]? = some v ∧ v ≠ xU0 ∧ q.2 = xmv ad fv v := by
  unfold xent
  rw [List.mem_filterMap]
  constructor
  · rintro ⟨⟨v, i⟩, h1, h2⟩
    rw [List.mem_zipIdx_iff_getElem?] at h1
    by_cases hv : v = xU0
    · simp [hv] at h2
    · simp only [hv, if_false, Option.some.injEq] at h2
      subst h2
      exact ⟨v, h1, hv, rfl⟩
  · rintro ⟨v, h1, h2, h3⟩
    refine ⟨(v, q.1), List.mem_zipIdx_iff_getElem?.mpr h1, ?_⟩
    simp only [h2, if_false]
    rw [← h3]
theorem xL.has {ad : Nat → Nat} {fv : Value} {ls : List Value} {sl : Array Slot} (h : xL ad fv ls sl) : lv_has sl ls.length (xent ad fv ls) := by
  refine ⟨h.1, h.2.1, fun q hq => ?_⟩
  obtain ⟨v, h1, h2, h3⟩ := xent_mem.mp hq
  rw [h3]
  exact h.2.2 _ v h1 h2
theorem xclr_len (ls : List Value) (i : Nat) : (xclr ls i).length = ls.length := by
  unfold xclr
  split
  · rfl
  · split
    · split
      · simp
      · rfl
    · rfl
theorem xclr_get {ls : List Value} {i j : Nat} {u : Value} (h : (xclr ls i)[j]? = some u) (hu : u ≠ xU0) : ls[j]? = some u ∧ ¬ (j + 1 = i ∧ u.category = 2) := by
  unfold xclr at h
  split at h
  · exact ⟨h, by omega⟩
  next k =>
    cases hk : ls[k]? with
    | none =>
      rw [hk] at h
      refine ⟨h, fun z => ?_⟩
      have : j = k := by omega
      subst this
      rw [hk] at h
      cases h
    | some w =>
      rw [hk] at h
      dsimp only at h
      by_cases hc : w.category = 2
      · rw [if_pos hc] at h
        by_cases hjk : k = j
        · subst hjk
          have hl : k < ls.length := (List.getElem?_eq_some_iff.mp hk).1
          rw [List.getElem?_set_self hl] at h
          cases h
          exact absurd rfl hu
        · rw [List.getElem?_set_ne hjk] at h
          exact ⟨h, fun z => hjk (by omega)⟩
      · rw [if_neg hc] at h
        refine ⟨h, fun z => ?_⟩
        have : j = k := by omega
        subst this
        rw [hk] at h
        cases h
        exact hc z.2
theorem xL_st1 {ad : Nat → Nat} {fv : Value} (hf : fv = .null ∨ ∃ t, fv = .ref t) {ls : List Value} {sl : Array Slot} {i : Nat} {v : Value} (h : lv_has sl ls.length ((i, xmv ad fv v) :: (xent ad fv ls).filter (fun q => !(q.1 == i) && !(q.1 + 1 == i && q.2.category == 2)))) : xL ad fv (xst1 ls i v) sl := by
  refine ⟨by rw [h.1]; unfold xst1; rw [List.length_set, xclr_len], h.2.1, fun j u hj hu => ?_⟩
  unfold xst1 at hj
  by_cases hij : i = j
  · subst hij
    have hl : i < (xclr ls i).length := by
      have := (List.getElem?_eq_some_iff.mp hj).1
      simpa using this
    rw [List.getElem?_set_self hl] at hj
    cases hj
    exact h.2.2 _ List.mem_cons_self
  · rw [List.getElem?_set_ne hij] at hj
    obtain ⟨h1, h2⟩ := xclr_get hj hu
    refine h.2.2 (j, xmv ad fv u) (List.mem_cons_of_mem _ (List.mem_filter.mpr ⟨xent_mem.mpr ⟨u, h1, hu, rfl⟩, ?_⟩))
    simp only [xmv_cat hf, Bool.and_eq_true, Bool.not_eq_true', beq_eq_false_iff_ne, ne_eq, Bool.and_eq_false_iff]
    refine ⟨fun z => hij z.symm, ?_⟩
    by_cases hz : j + 1 = i
    · exact Or.inr (fun z => h2 ⟨hz, z⟩)
    · exact Or.inl hz
theorem xL_st2 {ad : Nat → Nat} {fv : Value} (hf : fv = .null ∨ ∃ t, fv = .ref t) {ls : List Value} {sl : Array Slot} {i : Nat} {v : Value} (h : lv_has sl ls.length ((i, xmv ad fv v) :: (xent ad fv ls).filter (fun q => !(q.1 == i) && (!(q.1 == i + 1) && !(q.1 + 1 == i && q.2.category == 2))))) : xL ad fv (xst2 ls i v) sl := by
  refine ⟨by rw [h.1]; unfold xst2; rw [List.length_set, List.length_set, xclr_len], h.2.1, fun j u hj hu => ?_⟩
  unfold xst2 at hj
  by_cases hij1 : i + 1 = j
  · subst hij1
    have hl := (List.getElem?_eq_some_iff.mp hj).1
    rw [List.getElem?_set_self (by simpa using hl)] at hj
    cases hj
    exact absurd rfl hu
  rw [List.getElem?_set_ne hij1] at hj
  by_cases hij : i = j
  · subst hij
    have hl : i < (xclr ls i).length := by
      have := (List.getElem?_eq_some_iff.mp hj).1
      simpa using this
    rw [List.getElem?_set_self hl] at hj
    cases hj
    exact h.2.2 _ List.mem_cons_self
  · rw [List.getElem?_set_ne hij] at hj
    obtain ⟨h1, h2⟩ := xclr_get hj hu
    refine h.2.2 (j, xmv ad fv u) (List.mem_cons_of_mem _ (List.mem_filter.mpr ⟨xent_mem.mpr ⟨u, h1, hu, rfl⟩, ?_⟩))
    simp only [xmv_cat hf, Bool.and_eq_true, Bool.not_eq_true', beq_eq_false_iff_ne, ne_eq, Bool.and_eq_false_iff]
    refine ⟨fun z => hij z.symm, fun z => hij1 z.symm, ?_⟩
    by_cases hz : j + 1 = i
    · exact Or.inr (fun z => h2 ⟨hz, z⟩)
    · exact Or.inl hz
/-- the locals as a method begins -/
theorem xL_args {ad : Nat → Nat} {fv : Value} (hf : fv = .null ∨ ∃ t, fv = .ref t) : ∀ (as : List Value) (i j : Nat) (v : Value), (xxp as)[j]? = some v → v ≠ xU0 → (i + j, xmv ad fv v) ∈ lv_args i (as.map (xmv ad fv))
  | [], i, j, v, h, _ => by simp [xxp] at h
  | a :: as, i, j, v, h, hv => by
    unfold xxp at h
    simp only [List.map_cons, lv_args, xmv_cat hf]
    by_cases hc : a.category = 2
    · rw [if_pos hc] at h
      rw [if_pos hc]
      match j, h with
      | 0, h =>
        simp at h
        subst h
        exact List.mem_cons_self
      | 1, h =>
        simp at h
        exact absurd h.symm hv
      | j + 2, h =>
        simp at h
        have := xL_args (ad := ad) hf as (i + 2) j v h hv
        rw [show i + (j + 2) = i + 2 + j by omega]
        exact List.mem_cons_of_mem _ this
    · rw [if_neg hc] at h
      rw [if_neg hc]
      match j, h with
      | 0, h =>
        simp at h
        subst h
        exact List.mem_cons_self
      | j + 1, h =>
        simp at h
        have := xL_args (ad := ad) hf as (i + 1) j v h hv
        rw [show i + (j + 1) = i + 1 + j by omega]
        exact List.mem_cons_of_mem _ this
theorem xxp_len {ad : Nat → Nat} {fv : Value} (hf : fv = .null ∨ ∃ t, fv = .ref t) : ∀ (as : List Value), (lg_sl (as.map (xmv ad fv))).length = (xxp as).length
  | [] => by simp [xxp, lg_sl]
  | a :: as => by
    have ih := xxp_len (ad := ad) hf as
    unfold xxp
    have e : lg_sl (List.map (xmv ad fv) (a :: as)) = (if a.category = 2 then [.val (xmv ad fv a), .second] else [.val (xmv ad fv a)]) ++ lg_sl (as.map (xmv ad fv)) := by
      unfold lg_sl
      simp only [List.map_cons, List.flatMap_cons, xmv_cat hf]
    rw [e, List.length_append, ih]
    by_cases hc : a.category = 2
    · simp [hc]
      omega
    · simp [hc]
      omega
theorem xL_entry {ad : Nat → Nat} {fv : Value} (hf : fv = .null ∨ ∃ t, fv = .ref t) {z : Nat} {as : List Value} (h : (xxp as).length ≤ xmx z) : xL ad fv (xloc z as) ((lg_sl (as.map (xmv ad fv)) ++ List.replicate (xmx z - (lg_sl (as.map (xmv ad fv))).length) Slot.unset).toArray) := by
  have hl := lv_entry (as.map (xmv ad fv)) (n := xmx z) (by rw [xxp_len hf]; exact h)
  refine ⟨?_, hl.2.1, fun j u hj hu => ?_⟩
  · rw [hl.1]
    unfold xloc
    simp
    omega
  · unfold xloc at hj
    by_cases hq : j < (xxp as).length
    · rw [List.getElem?_append_left hq] at hj
      have := xL_args (ad := ad) hf as 0 j u hj hu
      rw [Nat.zero_add] at this
      exact hl.2.2 _ this
    · rw [List.getElem?_append_right (by omega), List.getElem?_replicate] at hj
      split at hj
      · cases hj
        exact absurd rfl hu
      · cases hj
