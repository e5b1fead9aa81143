/-- a row of the tables, looked up -/
def xlkB (z pc : Nat) (k : XRow) : Bool := match xlook z pc with
  | some q => decide (q.1 = k.1) && (decide (q.2.1 = k.2.1) && (decide (q.2.2.1 = k.2.2.1) && (decide (q.2.2.2.1 = k.2.2.2.1) && (decide (q.2.2.2.2.1 = k.2.2.2.2.1) && (decide (q.2.2.2.2.2.1 = k.2.2.2.2.2.1) && decide (q.2.2.2.2.2.2 = k.2.2.2.2.2.2))))))
  | none => false
theorem xlk {z pc : Nat} {k : XRow} (h : xlkB z pc k = true) : xlook z pc = some k := by
  unfold xlkB at h
  split at h
  next q hq =>
    simp only [Bool.and_eq_true, decide_eq_true_eq] at h
    obtain ⟨h1, h2, h3, h4, h5, h6, h7⟩ := h
    obtain ⟨a1, a2, a3, a4, a5, a6, a7⟩ := q
    obtain ⟨b1, b2, b3, b4, b5, b6, b7⟩ := k
    dsimp only at h1 h2 h3 h4 h5 h6 h7
    subst h1 h2 h3 h4 h5 h6 h7
    exact hq
  next => cases h
/-! the pointers that never change: each is its cell's place and so many more -/
def xpt : Nat → List (Nat × Nat)
  | 0 => [(1, 1), (2, 2), (3, 3), (4, 4)]
  | 1 => []
  | 2 => [(1, 1), (2, 2), (3, 3), (4, 4)]
  | 3 => [(5, 1), (6, 2), (7, 3), (8, 4), (9, 5)]
  | 4 => [(0, 1), (1, 2)]
  | 5 => [(4, 1)]
  | 6 => [(1, 1), (6, 7), (7, 8), (8, 9), (9, 10), (10, 11), (11, 12), (12, 13)]
  | 7 => [(1, 1), (2, 2), (3, 3), (4, 4), (5, 5)]
  | 8 => []
  | 9 => [(5, 1), (7, 2), (10, 3), (12, 4), (13, 5), (14, 6)]
  | 10 => [(0, 1), (2, 18), (3, 19), (4, 20), (5, 21), (6, 22), (7, 23)]
  | 11 => [(1, 18), (2, 37), (3, 42), (4, 70), (5, 98), (6, 104), (7, 128)]
  | 12 => [(1, 1), (2, 2), (3, 3), (11, 4), (13, 5), (14, 6), (15, 7), (16, 8), (18, 9), (19, 10), (23, 11), (24, 12), (25, 13), (26, 14)]
  | _ => []
def xPT (F : XF) : Prop := ∀ o, o < 146 → (∀ q ∈ xpt (xkd0 o), F o (q.1 : Int) = ((o + q.2 : Nat) : Int)) ∧ ((xkd0 o = 15 ∨ xkd0 o = 16) → ∀ i : Nat, i < 10 → F o i = ((o + 6 + i : Nat) : Int))
abbrev xob (c o : Nat) : Prop := o < 146 ∧ xkd0 o = c
theorem xln0_obj : ∀ o, o < 146 → xkd0 o < 13 → xln0 o = xnfN.getD (xkd0 o) 0 := by decide +kernel
theorem xobf {c o b : Nat} (h : xob c o) (hc : c < 13) (hb : b < xnfN.getD c 0) : o < 146 ∧ xkd0 o = c ∧ b < xln0 o := by
  refine ⟨h.1, h.2, ?_⟩
  rw [xln0_obj o h.1 (by rw [h.2]; exact hc), h.2]
  exact hb
theorem xPT_get {F : XF} {c o k f : Nat} (hP : xPT F) (h : xob c o) (hk : (k, f) ∈ xpt c) : F o (k : Int) = ((o + f : Nat) : Int) := (hP o h.1).1 (k, f) (by rw [h.2]; exact hk)
theorem xPT_el {F : XF} {o : Nat} {i : Int} (hP : xPT F) (h : xob 15 o ∨ xob 16 o) (h0 : 0 ≤ i) (h1 : i < 10) : F o i = ((o + 6 + i.toNat : Nat) : Int) := by
  rw [show F o i = F o ((i.toNat : Nat) : Int) by rw [Int.toNat_of_nonneg h0]]
  rcases h with h | h
  · exact (hP o h.1).2 (Or.inl h.2) i.toNat (by omega)
  · exact (hP o h.1).2 (Or.inr h.2) i.toNat (by omega)
theorem xPT_arr {F : XF} {o : Nat} {i v : Int} (hP : xPT F) (h : xkd0 o = 13 ∨ xkd0 o = 14) : xPT (xup F o i v) := by
  intro p hp
  by_cases hpo : p = o
  · subst hpo
    refine ⟨fun q hq => ?_, fun hk => ?_⟩
    · rcases h with h | h <;> rw [h] at hq <;> simp [xpt] at hq
    · omega
  · refine ⟨fun q hq => ?_, fun hk j hj => ?_⟩
    · rw [xup_o hpo]
      exact (hP p hp).1 q hq
    · rw [xup_o hpo]
      exact (hP p hp).2 hk j hj
theorem xPT_fld {F : XF} {c o k : Nat} {v : Int} (hP : xPT F) (h : xob c o) (hc : c < 13) (hk : ∀ q ∈ xpt c, ¬ k = q.1) : xPT (xup F o (k : Int) v) := by
  intro p hp
  by_cases hpo : p = o
  · subst hpo
    refine ⟨fun q hq => ?_, fun hk => ?_⟩
    · rw [xup_i (i := (k : Int)) (j := (q.1 : Int)) (fun z => hk q (by rw [← h.2]; exact hq) (Int.ofNat.inj z).symm)]
      exact (hP p hp).1 q hq
    · have := h.2
      omega
  · refine ⟨fun q hq => ?_, fun hk j hj => ?_⟩
    · rw [xup_o hpo]
      exact (hP p hp).1 q hq
    · rw [xup_o hpo]
      exact (hP p hp).2 hk j hj
theorem xPT_cpy {F : XF} {q o : Nat} {sp dp n : Int} (hP : xPT F) (h : xkd0 o = 13) : xPT (xcopy F q sp o dp n) := by
  intro p hp
  by_cases hpo : p = o
  · subst hpo
    refine ⟨fun q hq => ?_, fun hk => ?_⟩
    · rw [h] at hq
      simp [xpt] at hq
    · omega
  · have e : ∀ j, xcopy F q sp o dp n p j = F p j := fun j => by simp [xcopy, hpo]
    refine ⟨fun q hq => ?_, fun hk j hj => ?_⟩
    · rw [e]
      exact (hP p hp).1 q hq
    · rw [e]
      exact (hP p hp).2 hk j hj
theorem xel15 : ∀ o, o < 146 → xkd0 o = 15 → ∀ i, i < 10 → o + 6 + i < 146 ∧ xkd0 (o + 6 + i) = 1 := by decide +kernel
theorem xel16 : ∀ o, o < 146 → xkd0 o = 16 → ∀ i, i < 10 → o + 6 + i < 146 ∧ xkd0 (o + 6 + i) = 8 := by decide +kernel
theorem xidx10 {i : Int} (q : 0 ≤ i ∧ i < 10) : i.toNat < 10 := by omega
theorem xln15 : ∀ o, o < 146 → (xkd0 o = 15 ∨ xkd0 o = 16) → xln0 o = 10 := by decide +kernel
theorem xtg_0_1 : ∀ o, o < 146 → xkd0 o = 0 → xob 13 (o + 1) ∧ xln0 (o + 1) = 10 := by decide +kernel
theorem xtg_0_2 : ∀ o, o < 146 → xkd0 o = 0 → xob 13 (o + 2) ∧ xln0 (o + 2) = 10 := by decide +kernel
theorem xtg_0_3 : ∀ o, o < 146 → xkd0 o = 0 → xob 13 (o + 3) ∧ xln0 (o + 3) = 10 := by decide +kernel
theorem xtg_0_4 : ∀ o, o < 146 → xkd0 o = 0 → xob 13 (o + 4) ∧ xln0 (o + 4) = 10 := by decide +kernel
theorem xtg_2_1 : ∀ o, o < 146 → xkd0 o = 2 → xob 13 (o + 1) := by decide +kernel
theorem xtg_2_2 : ∀ o, o < 146 → xkd0 o = 2 → xob 13 (o + 2) := by decide +kernel
theorem xtg_2_3 : ∀ o, o < 146 → xkd0 o = 2 → xob 13 (o + 3) := by decide +kernel
theorem xtg_2_4 : ∀ o, o < 146 → xkd0 o = 2 → xob 13 (o + 4) := by decide +kernel
theorem xtg_3_5 : ∀ o, o < 146 → xkd0 o = 3 → xob 13 (o + 1) ∧ xln0 (o + 1) = 210 := by decide +kernel
theorem xtg_3_6 : ∀ o, o < 146 → xkd0 o = 3 → xob 13 (o + 2) ∧ xln0 (o + 2) = 10 := by decide +kernel
theorem xtg_3_7 : ∀ o, o < 146 → xkd0 o = 3 → xob 13 (o + 3) ∧ xln0 (o + 3) = 10 := by decide +kernel
theorem xtg_3_8 : ∀ o, o < 146 → xkd0 o = 3 → xob 13 (o + 4) ∧ xln0 (o + 4) = 10 := by decide +kernel
theorem xtg_3_9 : ∀ o, o < 146 → xkd0 o = 3 → xob 13 (o + 5) ∧ xln0 (o + 5) = 10 := by decide +kernel
theorem xtg_4_0 : ∀ o, o < 146 → xkd0 o = 4 → xob 13 (o + 1) ∧ xln0 (o + 1) = 10 := by decide +kernel
theorem xtg_4_1 : ∀ o, o < 146 → xkd0 o = 4 → xob 13 (o + 2) ∧ xln0 (o + 2) = 10 := by decide +kernel
theorem xtg_5_4 : ∀ o, o < 146 → xkd0 o = 5 → xob 13 (o + 1) ∧ xln0 (o + 1) = 600 := by decide +kernel
theorem xtg_6_1 : ∀ o, o < 146 → xkd0 o = 6 → xob 7 (o + 1) := by decide +kernel
theorem xtg_6_6 : ∀ o, o < 146 → xkd0 o = 6 → xob 13 (o + 7) ∧ xln0 (o + 7) = 30 := by decide +kernel
theorem xtg_6_7 : ∀ o, o < 146 → xkd0 o = 6 → xob 13 (o + 8) ∧ xln0 (o + 8) = 30 := by decide +kernel
theorem xtg_6_8 : ∀ o, o < 146 → xkd0 o = 6 → xob 13 (o + 9) ∧ xln0 (o + 9) = 30 := by decide +kernel
theorem xtg_6_9 : ∀ o, o < 146 → xkd0 o = 6 → xob 13 (o + 10) ∧ xln0 (o + 10) = 30 := by decide +kernel
theorem xtg_6_10 : ∀ o, o < 146 → xkd0 o = 6 → xob 13 (o + 11) ∧ xln0 (o + 11) = 10 := by decide +kernel
theorem xtg_6_11 : ∀ o, o < 146 → xkd0 o = 6 → xob 16 (o + 12) ∧ xln0 (o + 12) = 10 := by decide +kernel
theorem xtg_6_12 : ∀ o, o < 146 → xkd0 o = 6 → xob 2 (o + 13) := by decide +kernel
theorem xtg_7_1 : ∀ o, o < 146 → xkd0 o = 7 → xob 13 (o + 1) ∧ xln0 (o + 1) = 30 := by decide +kernel
theorem xtg_7_2 : ∀ o, o < 146 → xkd0 o = 7 → xob 13 (o + 2) ∧ xln0 (o + 2) = 30 := by decide +kernel
theorem xtg_7_3 : ∀ o, o < 146 → xkd0 o = 7 → xob 13 (o + 3) ∧ xln0 (o + 3) = 30 := by decide +kernel
theorem xtg_7_4 : ∀ o, o < 146 → xkd0 o = 7 → xob 13 (o + 4) ∧ xln0 (o + 4) = 30 := by decide +kernel
theorem xtg_7_5 : ∀ o, o < 146 → xkd0 o = 7 → xob 13 (o + 5) ∧ xln0 (o + 5) = 300 := by decide +kernel
theorem xtg_9_5 : ∀ o, o < 146 → xkd0 o = 9 → xob 15 (o + 1) ∧ xln0 (o + 1) = 10 := by decide +kernel
theorem xtg_9_7 : ∀ o, o < 146 → xkd0 o = 9 → xob 13 (o + 2) ∧ xln0 (o + 2) = 30 := by decide +kernel
theorem xtg_9_10 : ∀ o, o < 146 → xkd0 o = 9 → xob 13 (o + 3) ∧ xln0 (o + 3) = 4 := by decide +kernel
theorem xtg_9_12 : ∀ o, o < 146 → xkd0 o = 9 → xob 13 (o + 4) ∧ xln0 (o + 4) = 7 := by decide +kernel
theorem xtg_9_13 : ∀ o, o < 146 → xkd0 o = 9 → xob 13 (o + 5) ∧ xln0 (o + 5) = 7 := by decide +kernel
theorem xtg_9_14 : ∀ o, o < 146 → xkd0 o = 9 → xob 13 (o + 6) ∧ xln0 (o + 6) = 7 := by decide +kernel
theorem xtg_10_0 : ∀ o, o < 146 → xkd0 o = 10 → xob 9 (o + 1) := by decide +kernel
theorem xtg_10_2 : ∀ o, o < 146 → xkd0 o = 10 → xob 13 (o + 18) ∧ xln0 (o + 18) = 3 := by decide +kernel
theorem xtg_10_3 : ∀ o, o < 146 → xkd0 o = 10 → xob 13 (o + 19) ∧ xln0 (o + 19) = 3 := by decide +kernel
theorem xtg_10_4 : ∀ o, o < 146 → xkd0 o = 10 → xob 13 (o + 20) ∧ xln0 (o + 20) = 3 := by decide +kernel
theorem xtg_10_5 : ∀ o, o < 146 → xkd0 o = 10 → xob 13 (o + 21) ∧ xln0 (o + 21) = 61 := by decide +kernel
theorem xtg_10_6 : ∀ o, o < 146 → xkd0 o = 10 → xob 13 (o + 22) ∧ xln0 (o + 22) = 61 := by decide +kernel
theorem xtg_10_7 : ∀ o, o < 146 → xkd0 o = 10 → xob 13 (o + 23) ∧ xln0 (o + 23) = 51 := by decide +kernel
theorem xtg_11_1 : ∀ o, o < 146 → xkd0 o = 11 → xob 5 (o + 18) := by decide +kernel
theorem xtg_11_2 : ∀ o, o < 146 → xkd0 o = 11 → xob 0 (o + 37) := by decide +kernel
theorem xtg_11_3 : ∀ o, o < 146 → xkd0 o = 11 → xob 6 (o + 42) := by decide +kernel
theorem xtg_11_4 : ∀ o, o < 146 → xkd0 o = 11 → xob 6 (o + 70) := by decide +kernel
theorem xtg_11_5 : ∀ o, o < 146 → xkd0 o = 11 → xob 3 (o + 98) := by decide +kernel
theorem xtg_11_6 : ∀ o, o < 146 → xkd0 o = 11 → xob 10 (o + 104) := by decide +kernel
theorem xtg_11_7 : ∀ o, o < 146 → xkd0 o = 11 → xob 4 (o + 128) := by decide +kernel
theorem xtg_12_1 : ∀ o, o < 146 → xkd0 o = 12 → xob 13 (o + 1) ∧ xln0 (o + 1) = 163 := by decide +kernel
theorem xtg_12_2 : ∀ o, o < 146 → xkd0 o = 12 → xob 13 (o + 2) ∧ xln0 (o + 2) = 163 := by decide +kernel
theorem xtg_12_3 : ∀ o, o < 146 → xkd0 o = 12 → xob 14 (o + 3) ∧ xln0 (o + 3) = 600 := by decide +kernel
theorem xtg_12_11 : ∀ o, o < 146 → xkd0 o = 12 → xob 13 (o + 4) ∧ xln0 (o + 4) = 1630 := by decide +kernel
theorem xtg_12_13 : ∀ o, o < 146 → xkd0 o = 12 → xob 13 (o + 5) ∧ xln0 (o + 5) = 30 := by decide +kernel
theorem xtg_12_14 : ∀ o, o < 146 → xkd0 o = 12 → xob 13 (o + 6) ∧ xln0 (o + 6) = 30 := by decide +kernel
theorem xtg_12_15 : ∀ o, o < 146 → xkd0 o = 12 → xob 13 (o + 7) ∧ xln0 (o + 7) = 30 := by decide +kernel
theorem xtg_12_16 : ∀ o, o < 146 → xkd0 o = 12 → xob 13 (o + 8) ∧ xln0 (o + 8) = 30 := by decide +kernel
theorem xtg_12_18 : ∀ o, o < 146 → xkd0 o = 12 → xob 13 (o + 9) ∧ xln0 (o + 9) = 264 := by decide +kernel
theorem xtg_12_19 : ∀ o, o < 146 → xkd0 o = 12 → xob 13 (o + 10) ∧ xln0 (o + 10) = 800 := by decide +kernel
theorem xtg_12_23 : ∀ o, o < 146 → xkd0 o = 12 → xob 13 (o + 11) ∧ xln0 (o + 11) = 163 := by decide +kernel
theorem xtg_12_24 : ∀ o, o < 146 → xkd0 o = 12 → xob 13 (o + 12) ∧ xln0 (o + 12) = 10 := by decide +kernel
theorem xtg_12_25 : ∀ o, o < 146 → xkd0 o = 12 → xob 13 (o + 13) ∧ xln0 (o + 13) = 10 := by decide +kernel
theorem xtg_12_26 : ∀ o, o < 146 → xkd0 o = 12 → xob 13 (o + 14) ∧ xln0 (o + 14) = 10 := by decide +kernel
