/-! the heap as a memory of whole numbers: what stands at the i-th place of the o-th cell is F o i -/
abbrev XF : Type := Nat → Int → Int
/-- the cells behind the two constructors: their kinds, how many places each has -/
def xS0 : List (Nat × Nat) := [(11, 8), (9, 15), (15, 10), (13, 30), (13, 4), (13, 7), (13, 7), (13, 7), (1, 7), (1, 7), (1, 7), (1, 7), (1, 7), (1, 7), (1, 7), (1, 7), (1, 7), (1, 7), (5, 12), (13, 600), (9, 15), (15, 10), (13, 30), (13, 4), (13, 7), (13, 7), (13, 7), (1, 7), (1, 7), (1, 7), (1, 7), (1, 7), (1, 7), (1, 7), (1, 7), (1, 7), (1, 7), (0, 5), (13, 10), (13, 10), (13, 10), (13, 10), (6, 13), (7, 6), (13, 30), (13, 30), (13, 30), (13, 30), (13, 300), (13, 30), (13, 30), (13, 30), (13, 30), (13, 10), (16, 10), (2, 5), (13, 200), (13, 200), (13, 200), (13, 200), (8, 7), (8, 7), (8, 7), (8, 7), (8, 7), (8, 7), (8, 7), (8, 7), (8, 7), (8, 7), (6, 13), (7, 6), (13, 30), (13, 30), (13, 30), (13, 30), (13, 300), (13, 30), (13, 30), (13, 30), (13, 30), (13, 10), (16, 10), (2, 5), (13, 0), (13, 0), (13, 0), (13, 0), (8, 7), (8, 7), (8, 7), (8, 7), (8, 7), (8, 7), (8, 7), (8, 7), (8, 7), (8, 7), (3, 10), (13, 210), (13, 10), (13, 10), (13, 10), (13, 10), (10, 8), (9, 15), (15, 10), (13, 30), (13, 4), (13, 7), (13, 7), (13, 7), (1, 7), (1, 7), (1, 7), (1, 7), (1, 7), (1, 7), (1, 7), (1, 7), (1, 7), (1, 7), (13, 3), (13, 3), (13, 3), (13, 61), (13, 61), (13, 51), (4, 3), (13, 10), (13, 10), (12, 28), (13, 163), (13, 163), (14, 600), (13, 1630), (13, 30), (13, 30), (13, 30), (13, 30), (13, 264), (13, 800), (13, 163), (13, 10), (13, 10), (13, 10)]
def xkd0 (o : Nat) : Nat := (xS0.getD o (99, 0)).1
def xln0 (o : Nat) : Nat := (xS0.getD o (99, 0)).2
def xrow (F : XF) (o n : Nat) : List Int32 := (List.range n).map (fun (i : Nat) => Int32.ofInt (F o (i : Int)))
def xhp (F : XF) : XHp := xS0.mapIdx (fun o q => (q.1, xrow F o q.2))
def xup (F : XF) (o : Nat) (i v : Int) : XF := fun p j => if p = o ∧ j = i then v else F p j
abbrev vi (z : Int) : Value := .int (Int32.ofInt z)
abbrev vl (z : Int) : Value := .long (Int64.ofInt z)
abbrev inR (z : Int) : Prop := -2147483648 ≤ z ∧ z ≤ 2147483647
abbrev inL (z : Int) : Prop := -9223372036854775808 ≤ z ∧ z ≤ 9223372036854775807
theorem xup_s {F : XF} {o : Nat} {i v : Int} : xup F o i v o i = v := by simp [xup]
theorem xup_o {F : XF} {o p : Nat} {i j v : Int} (h : ¬ p = o) : xup F o i v p j = F p j := by simp [xup, h]
theorem xup_i {F : XF} {o p : Nat} {i j v : Int} (h : ¬ j = i) : xup F o i v p j = F p j := by simp [xup, h]
theorem xi_to {z : Int} (h : inR z) : (Int32.ofInt z).toInt = z := Int32.toInt_ofInt_of_le (by omega) (by omega)
theorem xl_to {z : Int} (h : inL z) : (Int64.ofInt z).toInt = z := Int64.toInt_ofInt_of_le (by omega) (by omega)
theorem xi_inj {x y : Int} (hx : inR x) (hy : inR y) : Int32.ofInt x = Int32.ofInt y ↔ x = y := by
  rw [← Int32.toInt_inj, xi_to hx, xi_to hy]
theorem xi_lt {x y : Int} (hx : inR x) (hy : inR y) : Int32.ofInt x < Int32.ofInt y ↔ x < y := by
  rw [Int32.lt_iff_toInt_lt, xi_to hx, xi_to hy]
theorem xi_le {x y : Int} (hx : inR x) (hy : inR y) : Int32.ofInt x ≤ Int32.ofInt y ↔ x ≤ y := by
  rw [Int32.le_iff_toInt_le, xi_to hx, xi_to hy]
theorem xi_0 : (0 : Int32) = Int32.ofInt 0 := rfl
theorem xi_cl {z : Int} (h : inR z) : (Int32.ofInt z).toNatClampNeg = z.toNat := by
  show (Int32.ofInt z).toInt.toNat = z.toNat
  rw [xi_to h]
theorem xS0_len : xS0.length = 146 := by decide +kernel
theorem xhp_len {F : XF} : (xhp F).length = 146 := by
  unfold xhp
  rw [List.length_mapIdx, xS0_len]
theorem xhp_get {F : XF} {o : Nat} (h : o < 146) : (xhp F)[o]? = some (xkd0 o, xrow F o (xln0 o)) := by
  unfold xhp xkd0 xln0
  rw [List.getElem?_mapIdx, List.getD_eq_getElem?_getD, List.getElem?_eq_getElem (by rw [xS0_len]; exact h)]
  rfl
theorem xkd_hp {F : XF} {o : Nat} (h : o < 146) : xkd (xhp F) o = xkd0 o := by
  unfold xkd
  rw [List.getD_eq_getElem?_getD, xhp_get h]
  rfl
theorem xda_hp {F : XF} {o : Nat} (h : o < 146) : xda (xhp F) o = xrow F o (xln0 o) := by
  unfold xda
  rw [List.getD_eq_getElem?_getD, xhp_get h]
  rfl
theorem xln_hp {F : XF} {o : Nat} (h : o < 146) : xln (xhp F) o = xln0 o := by
  unfold xln
  rw [xda_hp h]
  simp [xrow]
theorem xrow_at {F : XF} {o n i : Nat} (h : i < n) : (xrow F o n).getD i 0 = Int32.ofInt (F o i) := by
  unfold xrow
  simp [List.getD_eq_getElem?_getD, h]
theorem xrd_hp {F : XF} {o i : Nat} (h : o < 146) (hi : i < xln0 o) : xrd (xhp F) o i = Int32.ofInt (F o i) := by
  unfold xrd
  rw [xda_hp h, xrow_at hi]
theorem xset_hp {F G : XF} {o : Nat} {xs : List Int32} (h : o < 146) (hx : xs = xrow G o (xln0 o)) (hG : ∀ (p : Nat) (i : Int), ¬ p = o → G p i = F p i) : (xhp F).set o (xkd0 o, xs) = xhp G := by
  apply List.ext_getElem?
  intro p
  by_cases hp : o = p
  · subst hp
    rw [List.getElem?_set_self (by rw [xhp_len]; exact h), xhp_get h, hx]
  · rw [List.getElem?_set_ne hp]
    by_cases hl : p < 146
    · rw [xhp_get hl, xhp_get hl]
      congr 2
      unfold xrow
      apply List.map_congr_left
      intro i _
      rw [hG p i (fun z => hp z.symm)]
    · rw [List.getElem?_eq_none (by rw [xhp_len]; omega), List.getElem?_eq_none (by rw [xhp_len]; omega)]
theorem xwr_hp {F : XF} {o i : Nat} {v : Int} (h : o < 146) (hi : i < xln0 o) : xwr (xhp F) o i (Int32.ofInt v) = xhp (xup F o i v) := by
  unfold xwr
  rw [xkd_hp h, xda_hp h]
  refine xset_hp h ?_ (fun p j hp => xup_o hp)
  apply List.ext_getElem?
  intro j
  by_cases hj : i = j
  · subst hj
    rw [List.getElem?_set_self (by simpa [xrow] using hi)]
    simp [xrow, hi, xup]
  · rw [List.getElem?_set_ne hj]
    simp only [xrow, List.getElem?_map]
    cases hr : (List.range (xln0 o))[j]? with
    | none => rfl
    | some k =>
      have hk : j = k := by
        have := List.getElem?_eq_some_iff.mp hr
        obtain ⟨h1, h2⟩ := this
        simpa using h2
      subst hk
      simp only [Option.map_some]
      rw [xup_i (i := (i : Int)) (j := (j : Int)) (fun z => hj (Int.ofNat.inj z).symm)]
