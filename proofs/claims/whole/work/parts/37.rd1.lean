section RD1
/-! the text, read: pure -/
abbrev RR (α : Type) : Type := Except (Int × Int) α
def rB {α β : Type} (x : RR α) (f : α → RR β) : RR β := match x with
  | .ok a => f a
  | .error z => .error z
/-- on from p, while c says so -/
def rGo (c : Int → Bool) (n : Int) : Nat → Int → Int
  | 0, p => p
  | f + 1, p => if p < n ∧ c p = true then rGo c n f (p + 1) else p
def rE (c : Int → Bool) (n p : Int) : Int := rGo c n (n - p).toNat p
theorem rE_1 {c : Int → Bool} {n p : Int} (h : p < n ∧ c p = true) : rE c n p = rE c n (p + 1) := by
  unfold rE
  rw [show (n - p).toNat = (n - (p + 1)).toNat + 1 by omega, rGo, if_pos h]
theorem rE_0 {c : Int → Bool} {n p : Int} (h : ¬ (p < n ∧ c p = true)) : rE c n p = p := by
  unfold rE
  cases hq : (n - p).toNat with
  | zero => rfl
  | succ k => rw [rGo, if_neg h]
theorem rGo_p {c : Int → Bool} {n : Int} : ∀ (f : Nat) (p : Int), f = (n - p).toNat → p ≤ rGo c n f p ∧ (p ≤ n → rGo c n f p ≤ n) ∧ (∀ i, p ≤ i → i < rGo c n f p → c i = true) ∧ ¬ (rGo c n f p < n ∧ c (rGo c n f p) = true)
  | 0, p, h => by
    unfold rGo
    exact ⟨by omega, by omega, fun i a b => by omega, by omega⟩
  | f + 1, p, h => by
    unfold rGo
    by_cases q : p < n ∧ c p = true
    · rw [if_pos q]
      obtain ⟨a, b, e, g⟩ := rGo_p (c := c) (n := n) f (p + 1) (by omega)
      refine ⟨by omega, fun _ => b (by omega), fun i x y => ?_, g⟩
      by_cases hi : i = p
      · rw [hi]; exact q.2
      · exact e i (by omega) y
    · rw [if_neg q]
      exact ⟨by omega, fun h => h, fun i a b => by omega, q⟩
theorem rE_p {c : Int → Bool} {n p : Int} : p ≤ rE c n p ∧ (p ≤ n → rE c n p ≤ n) ∧ (∀ i, p ≤ i → i < rE c n p → c i = true) ∧ ¬ (rE c n p < n ∧ c (rE c n p) = true) := rGo_p _ p rfl
def cBl (U : Int → Int) : Int → Bool := fun p => decide (U p = 32)
def cLe (U : Int → Int) : Int → Bool := fun p => decide (97 ≤ U p ∧ U p ≤ 122)
def cDi (U : Int → Int) : Int → Bool := fun p => decide (48 ≤ U p ∧ U p ≤ 57)
/-- the number whose first m digits stand from k on (of more than four the first four) -/
def rV (U : Int → Int) (k : Int) : Nat → Int
  | 0 => 0
  | m + 1 => if m < 4 then 10 * rV U k m + U (k + m) - 48 else rV U k m
/-- the word from k to e is the s-th -/
def rIs (U : Int → Int) (k e : Int) (s : Nat) : Prop := (strL s : Int) = e - k ∧ ∀ i : Nat, i < strL s → strB s i = U (k + i)
noncomputable def rNum (U : Int → Int) (n lo hi p : Int) : RR (Int × Int) :=
  if rE (cBl U) n p < n ∧ cDi U (rE (cBl U) n p) = true then
    (if 4 < rE (cDi U) n (rE (cBl U) n p) - rE (cBl U) n p ∨ ¬ (lo ≤ rV U (rE (cBl U) n p) (rE (cDi U) n (rE (cBl U) n p) - rE (cBl U) n p).toNat ∧ rV U (rE (cBl U) n p) (rE (cDi U) n (rE (cBl U) n p) - rE (cBl U) n p).toNat ≤ hi) then .error (2, rE (cBl U) n p)
     else .ok (rV U (rE (cBl U) n p) (rE (cDi U) n (rE (cBl U) n p) - rE (cBl U) n p).toNat, rE (cDi U) n (rE (cBl U) n p)))
  else .error (1, rE (cBl U) n p)
noncomputable def rWrd (U : Int → Int) (n : Int) (s : Nat) (p : Int) : RR Int :=
  if mV (rIs U (rE (cBl U) n p) (rE (cLe U) n (rE (cBl U) n p)) s) = 1 then .ok (rE (cLe U) n (rE (cBl U) n p)) else .error (1, rE (cBl U) n p)
noncomputable def rSemi (U : Int → Int) (n p : Int) : RR Int := if rE (cBl U) n p < n ∧ U (rE (cBl U) n p) = 59 then .ok (rE (cBl U) n p + 1) else .error (1, rE (cBl U) n p)
theorem rV_b {U : Int → Int} {k : Int} {m : Nat} (h : ∀ i : Nat, i < m → 48 ≤ U (k + i) ∧ U (k + i) ≤ 57) : 0 ≤ rV U k m ∧ rV U k m ≤ 9999 := by
  have key : ∀ j : Nat, j ≤ m → 0 ≤ rV U k j ∧ rV U k j ≤ 9999 ∧ (j = 0 → rV U k j ≤ 0) ∧ (j = 1 → rV U k j ≤ 9) ∧ (j = 2 → rV U k j ≤ 99) ∧ (j = 3 → rV U k j ≤ 999) := by
    intro j
    induction j with
    | zero => intro _; unfold rV; omega
    | succ j ih =>
      intro hj
      have a := ih (by omega)
      have b := h j (by omega)
      unfold rV
      split
      · refine ⟨by omega, ?_, by omega, by omega, by omega, by omega⟩
        rcases (show j = 0 ∨ j = 1 ∨ j = 2 ∨ j = 3 by omega) with q | q | q | q <;> omega
      · omega
  have := key m (Nat.le_refl _)
  omega
theorem rNum_p {U : Int → Int} {n lo hi p v e : Int} (hp : p ≤ n) (h : rNum U n lo hi p = .ok (v, e)) : lo ≤ v ∧ v ≤ hi ∧ p < e ∧ e ≤ n ∧ 0 ≤ v ∧ v ≤ 9999 := by
  unfold rNum at h
  have b := rE_p (c := cBl U) (n := n) (p := p)
  have g := rE_p (c := cDi U) (n := n) (p := rE (cBl U) n p)
  by_cases q : rE (cBl U) n p < n ∧ cDi U (rE (cBl U) n p) = true
  · rw [if_pos q] at h
    by_cases q2 : 4 < rE (cDi U) n (rE (cBl U) n p) - rE (cBl U) n p ∨ ¬ (lo ≤ rV U (rE (cBl U) n p) (rE (cDi U) n (rE (cBl U) n p) - rE (cBl U) n p).toNat ∧ rV U (rE (cBl U) n p) (rE (cDi U) n (rE (cBl U) n p) - rE (cBl U) n p).toNat ≤ hi)
    · rw [if_pos q2] at h; cases h
    · rw [if_neg q2] at h
      have gt : rE (cBl U) n p < rE (cDi U) n (rE (cBl U) n p) := by
        rw [rE_1 q]
        have := (rE_p (c := cDi U) (n := n) (p := rE (cBl U) n p + 1)).1
        omega
      have vb := rV_b (U := U) (k := rE (cBl U) n p) (m := (rE (cDi U) n (rE (cBl U) n p) - rE (cBl U) n p).toNat) (fun i hi => by
        have := g.2.2.1 (rE (cBl U) n p + i) (by omega) (by omega)
        unfold cDi at this
        simpa using this)
      have e1 := congrArg (fun x : RR (Int × Int) => match x with | .ok a => a.1 | .error _ => 0) h
      have e2 := congrArg (fun x : RR (Int × Int) => match x with | .ok a => a.2 | .error _ => 0) h
      dsimp only at e1 e2
      omega
  · rw [if_neg q] at h; cases h
theorem rWrd_p {U : Int → Int} {n p e : Int} {s : Nat} (hp : p ≤ n) (h : rWrd U n s p = .ok e) : p ≤ e ∧ e ≤ n := by
  unfold rWrd at h
  have b := rE_p (c := cBl U) (n := n) (p := p)
  have g := rE_p (c := cLe U) (n := n) (p := rE (cBl U) n p)
  by_cases q : mV (rIs U (rE (cBl U) n p) (rE (cLe U) n (rE (cBl U) n p)) s) = 1
  · rw [if_pos q] at h
    have e2 := congrArg (fun x : RR Int => match x with | .ok a => a | .error _ => 0) h
    dsimp only at e2
    omega
  · rw [if_neg q] at h; cases h
/-! lines -/
noncomputable def rCross (U : Int → Int) (n : Int) (T : Int → Int) (k p : Int) : RR ((Int → Int) × Int) :=
  if T 4 = 10 then .error (3, k) else
  rB (rNum U n (if T 4 = 0 then 0 else T (8 + 7 * T 4 - 7) + T (8 + 7 * T 4 - 6)) (T 0 - 1) p) fun a0 =>
  rB (rWrd U n 5 a0.2) fun p1 => rB (rNum U n 1 (if T 0 - a0.1 < 50 then T 0 - a0.1 else 50) p1) fun a1 =>
  rB (rWrd U n 6 a1.2) fun p2 => rB (rNum U n 1 200 p2) fun a2 =>
  rB (rWrd U n 7 a2.2) fun p3 => rB (rNum U n 0 (a2.1 - 1) p3) fun a3 =>
  rB (rWrd U n 8 a3.2) fun p4 => rB (rNum U n (a3.1 + 1) a2.1 p4) fun a4 =>
  rB (rWrd U n 9 a4.2) fun p5 => rB (rNum U n 0 99 p5) fun a5 =>
  rB (rWrd U n 10 a5.2) fun p6 => rB (rNum U n 1 20 p6) fun a6 =>
  .ok (mSet (mSet (mSet (mSet (mSet (mSet (mSet (mSet T (8 + 7 * T 4) a0.1) (8 + 7 * T 4 + 1) a1.1) (8 + 7 * T 4 + 2) a2.1) (8 + 7 * T 4 + 3) a3.1) (8 + 7 * T 4 + 4) a4.1) (8 + 7 * T 4 + 5) a5.1) (8 + 7 * T 4 + 6) a6.1) 4 (T 4 + 1), a6.2)
/-- m more cars, each so long -/
def rLong (T : Int → Int) (m l : Int) : Int → Int := fun i => if i = 5 then T 5 + m else if 78 + T 5 ≤ i ∧ i < 78 + T 5 + m then l else T i
noncomputable def rColumn (U : Int → Int) (n : Int) (T : Int → Int) (p : Int) : RR ((Int → Int) × Int) :=
  rB (rNum U n 1 30 p) fun a0 => rB (rWrd U n 12 a0.2) fun p1 => rB (rNum U n 1 30 p1) fun a1 =>
  if 30 < T 5 + a0.1 then .error (3, rE (cBl U) n p) else .ok (rLong T a0.1 a1.1, a1.2)
noncomputable def rSplit (U : Int → Int) (n : Int) (T : Int → Int) (p : Int) : RR ((Int → Int) × Int) :=
  rB (rNum U n 0 (T 5 - 1) p) fun a0 => if T (108 + a0.1) = 1 then .error (3, rE (cBl U) n p) else .ok (mSet T (108 + a0.1) 1, a0.2)
noncomputable def rGather (U : Int → Int) (n : Int) (T : Int → Int) (k p : Int) : RR ((Int → Int) × Int) :=
  if T 6 = 4 then .error (3, k) else
  rB (rNum U n (if T 6 = 0 then 1 else T (138 + T 6 - 1) + 1) (T 0) p) fun a0 => .ok (mSet (mSet T (138 + T 6) a0.1) 6 (T 6 + 1), a0.2)
noncomputable def rBroken (U : Int → Int) (n : Int) (T : Int → Int) (k p : Int) : RR ((Int → Int) × Int) :=
  if T 7 = 6 then .error (3, k) else
  rB (rNum U n 0 (T 5 - 1) p) fun a0 => rB (rWrd U n 16 a0.2) fun p1 => rB (rNum U n 0 1999 p1) fun a1 =>
  rB (rWrd U n 17 a1.2) fun p2 => rB (rNum U n 1 500 p2) fun a2 => .ok (mBrT T a0.1 a1.1 a2.1, a2.2)
noncomputable def rOne (U : Int → Int) (n : Int) (T : Int → Int) (i lo hi p : Int) : RR ((Int → Int) × Int) := rB (rNum U n lo hi p) fun a => .ok (mSet T i a.1, a.2)
/-- the words in their order in the reference: their numbers as strings -/
def rKy : List Nat := [0, 1, 2, 3, 4, 11, 13, 14, 15, 5, 6, 7, 8, 9, 10, 12, 16, 17]
noncomputable def rKey (U : Int → Int) (k e : Int) : Int := mFsf 18 (fun j => rIs U k e (rKy.getD j.toNat 0))
/-- what has stood: road, speed, gap, start; others -/
noncomputable def rHead (U : Int → Int) (n : Int) (T : Int → Int) (sn : Int → Int) (p : Int) : RR ((Int → Int) × Int) :=
  let k := rE (cBl U) n p
  let e := rE (cLe U) n k
  let w := rKey U k e
  if w < 0 ∨ 8 < w ∨ (w ≤ 3 ∧ sn w = 1) ∨ (w = 0 ∧ sn 4 = 1) then .error (1, k)
  else if w = 0 then rOne U n T 0 10 1000 e
  else if w = 1 then rOne U n T 1 1 50 e
  else if w = 2 then rOne U n T 2 0 50 e
  else if w = 3 then rOne U n T 3 0 999 e
  else if w = 4 then rCross U n T k e
  else if w = 5 then rColumn U n T e
  else if w = 6 then rSplit U n T e
  else if w = 7 then rGather U n T k e
  else rBroken U n T k e
noncomputable def rSeen (U : Int → Int) (n : Int) (sn : Int → Int) (p : Int) : Int → Int :=
  let w := rKey U (rE (cBl U) n p) (rE (cLe U) n (rE (cBl U) n p))
  if w ≤ 3 then mSet sn w 1 else mSet sn 4 1
noncomputable def rLine (U : Int → Int) (n : Int) (T : Int → Int) (sn : Int → Int) (p : Int) : RR ((Int → Int) × (Int → Int) × Int) :=
  rB (rHead U n T sn p) fun a => rB (rSemi U n a.2) fun e => .ok (a.1, rSeen U n sn p, e)
/-- all lines: what is told, how many lines -/
noncomputable def rText (U : Int → Int) (n : Int) : Nat → (Int → Int) → (Int → Int) → Int → Int → RR ((Int → Int) × Int)
  | 0, T, _, _, l => .ok (T, l)
  | f + 1, T, sn, p, l => if rE (cBl U) n p < n then rB (rLine U n T sn p) fun a => rText U n f a.1 a.2.1 a.2.2 (l + 1) else .ok (T, l)
end RD1
