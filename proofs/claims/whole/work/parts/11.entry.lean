/-! the start: what the Statement gives of the constants -/
def xFL : List Cond := flatC (Jvm.Cond.and given_1 narrow_1)
def xtm (i : Nat) : Term := .string (xstrs.getD i ("", 0, "")).1 (xstrs.getD i ("", 0, "")).2.1
def xtv (i : Nat) : Term := .field (xtm i) "java/lang/String" "value" "[B"
set_option maxRecDepth 1000000
theorem xs_ex : ∀ i, i < 19 → Cond.exactly (xtm i) "java/lang/String" ∈ xFL := by decide +kernel
theorem xs_co : ∀ i, i < 19 → Cond.eq (.field (xtm i) "java/lang/String" "coder" "B") (.int 0) ∈ xFL := by decide +kernel
theorem xs_ar : ∀ i, i < 19 → Cond.arrayOf (xtv i) .byte ∈ xFL := by decide +kernel
theorem xs_le : ∀ i, i < 19 → Cond.eq (.length (xtv i)) (.int (Int32.ofNat (xlenS.getD i 0))) ∈ xFL := by decide +kernel
def xP1 : Cond → Option (Term × Int32 × Int32)
  | .eq (.elem t (.int j)) (.int v) => some (t, j, v)
  | _ => none
def xP2 : Cond → Option (Term × Term)
  | .not (.eq (.string a i) (.string b j)) => some (.string a i, .string b j)
  | _ => none
theorem xP1_inv {c : Cond} {t : Term} {j v : Int32} (h : xP1 c = some (t, j, v)) : c = .eq (.elem t (.int j)) (.int v) := by
  unfold xP1 at h
  split at h
  · cases h
    rfl
  · cases h
theorem xP2_inv {c : Cond} {t u : Term} (h : xP2 c = some (t, u)) : c = .not (.eq t u) := by
  unfold xP2 at h
  split at h
  · cases h
    rfl
  · cases h
theorem xs_e1 : xFL.filterMap xP1 = (List.range 19).flatMap (fun i => (List.range (xlenS.getD i 0)).map (fun j => (xtv i, Int32.ofNat j, (xbyt.getD i []).getD j 0))) := by decide +kernel
theorem xs_e2 : xFL.filterMap xP2 = (List.range 19).flatMap (fun i => (List.range i).map (fun j => (xtm j, xtm i))) := by decide +kernel
theorem xs_el {i j : Nat} (hi : i < 19) (hj : j < xlenS.getD i 0) : Cond.eq (.elem (xtv i) (.int (Int32.ofNat j))) (.int ((xbyt.getD i []).getD j 0)) ∈ xFL := by
  have h : (xtv i, Int32.ofNat j, (xbyt.getD i []).getD j 0) ∈ xFL.filterMap xP1 := by
    rw [xs_e1]
    exact List.mem_flatMap.mpr ⟨i, List.mem_range.mpr hi, List.mem_map.mpr ⟨j, List.mem_range.mpr hj, rfl⟩⟩
  obtain ⟨c, h1, h2⟩ := List.mem_filterMap.mp h
  rw [← xP1_inv h2]
  exact h1
theorem xs_ne {i j : Nat} (hi : i < 19) (hj : j < i) : Cond.not (Cond.eq (xtm j) (xtm i)) ∈ xFL := by
  have h : (xtm j, xtm i) ∈ xFL.filterMap xP2 := by
    rw [xs_e2]
    exact List.mem_flatMap.mpr ⟨i, List.mem_range.mpr hi, List.mem_map.mpr ⟨j, List.mem_range.mpr hj, rfl⟩⟩
  obtain ⟨c, h1, h2⟩ := List.mem_filterMap.mp h
  rw [← xP2_inv h2]
  exact h1
theorem xs_cs : Cond.eq (.static "java/lang/String" "COMPACT_STRINGS" "Z") (.int 1) ∈ xFL := by decide +kernel
theorem xs_fm : Cond.isRef (.static "jdk/internal/util/Preconditions" "SIOOBE_FORMATTER" "Ljava/util/function/BiFunction;") ∈ xFL := by decide +kernel
theorem xs_sr : ∀ i, i < 19 → Cond.stringRef (xstrs.getD i ("", 0, "")).1 (xstrs.getD i ("", 0, "")).2.1 (xstrs.getD i ("", 0, "")).2.2 ∈ tables_1 := by decide +kernel
theorem xs_l1 : Cond.laysStatic "java/lang/String" "COMPACT_STRINGS" "Z" ∈ tables_1 := by decide +kernel
theorem xs_l2 : Cond.laysStatic "jdk/internal/util/Preconditions" "SIOOBE_FORMATTER" "Ljava/util/function/BiFunction;" ∈ tables_1 := by decide +kernel
theorem xs_i1 : Cond.initialized "java/lang/String" ∈ tables_1 := by decide +kernel
theorem xs_i2 : Cond.initialized "jdk/internal/util/Preconditions" ∈ tables_1 := by decide +kernel
theorem xs_ln : ∀ i, i < 19 → xlenS.getD i 0 < 2 ^ 31 := by decide +kernel
