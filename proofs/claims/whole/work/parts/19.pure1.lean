section PURE1
variable {X : List Int32} {d : Nat} {F : XF}
theorem xup_n {F : XF} {o p : Nat} {i j v : Int} (h : ¬ (p = o ∧ j = i)) : xup F o i v p j = F p j := if_neg h
/-- the run at r, as a row -/
def mRow (F : XF) (r : Int) : Int → Int := fun i => if 0 ≤ i ∧ i < 132 then F 140 (r + i) else 0
theorem mRow_at {F : XF} {r i : Int} (h : 0 ≤ i ∧ i < 132) : mRow F r i = F 140 (r + i) := if_pos h
def mSet (R : Int → Int) (i v : Int) : Int → Int := fun j => if j = i then v else R j
theorem mSet_s {R : Int → Int} {i v : Int} : mSet R i v i = v := if_pos rfl
theorem mSet_n {R : Int → Int} {i j v : Int} (h : ¬ j = i) : mSet R i v j = R j := if_neg h
theorem mRow_up {F : XF} {r i v : Int} (h : 0 ≤ i ∧ i < 132) : mRow (xup F 140 (r + i) v) r = mSet (mRow F r) i v := by
  funext j
  unfold mRow mSet
  by_cases hj : 0 ≤ j ∧ j < 132
  · rw [if_pos hj]
    by_cases e : j = i
    · rw [if_pos e, e, xup_s]
    · rw [if_neg e, xup_n (by omega)]
      exact (if_pos hj).symm
  · rw [if_neg hj, if_neg (by omega)]
    exact (if_neg hj).symm
theorem mRow_of {F G : XF} {r : Int} (h : ∀ i, 0 ≤ i → i < 132 → G 140 (r + i) = F 140 (r + i)) : mRow G r = mRow F r := by
  funext j
  unfold mRow
  by_cases hj : 0 ≤ j ∧ j < 132
  · rw [if_pos hj, if_pos hj, h j hj.1 hj.2]
  · rw [if_neg hj, if_neg hj]
theorem mRow_eq {F : XF} {r : Int} {R : Int → Int} (h : ∀ i, 0 ≤ i → i < 132 → F 140 (r + i) = R i) (h0 : ∀ i, ¬ (0 ≤ i ∧ i < 132) → R i = 0) : mRow F r = R := by
  funext j
  unfold mRow
  by_cases hj : 0 ≤ j ∧ j < 132
  · rw [if_pos hj, h j hj.1 hj.2]
  · rw [if_neg hj, h0 j hj]
/-- a row has its 132 places -/
def mZ (R : Int → Int) : Prop := ∀ i, ¬ (0 ≤ i ∧ i < 132) → R i = 0
theorem mZ_row {F : XF} {r : Int} : mZ (mRow F r) := fun i h => if_neg h
theorem mZ_beg {T : Int → Int} (hT : mT T) : mZ (mBeg T) := by
  have h5 := hT.2.2.2.2.2.1
  intro i h
  unfold mBeg mBg
  rw [if_neg (by omega), if_neg (by omega)]
theorem mZ_set {R : Int → Int} {i v : Int} (h : mZ R) (hi : 0 ≤ i ∧ i < 132) : mZ (mSet R i v) := fun j hj => by rw [mSet_n (by omega)]; exact h j hj
theorem mZ_rw {T R : Int → Int} {c : Int} {a : Int × Int} (h : mZ R) (hc : 0 ≤ c ∧ c < 30) : mZ (mRw T R c a) := fun j hj => by
  unfold mRw
  rw [if_neg (by omega), if_neg (by omega), if_neg (by omega)]
  exact h j hj
theorem mZ_sts {T : Int → Int} {S : Nat → Int → Int} {n t : Int} {R : Int → Int} (h : mZ R) (hn : n ≤ 10) : mZ (mSts T S n t R) := fun j hj => by
  unfold mSts
  rw [if_neg (by omega)]
  exact h j hj
/-! how far -/
def mAc (V w : Int) (a : Int × Int) : Prop := 0 ≤ a.1 ∧ a.1 ≤ V ∧ 3 ≤ a.2 ∧ a.2 ≤ w
theorem mG_c {T : Int → Int} {f V : Int} : ∀ (n : Nat) (k : Int) (a : Int × Int), mAc V 4 a → mAc V 4 (mG T f n k a) := by
  intro n
  induction n with
  | zero => intro k a h; exact h
  | succ n ih =>
    intro k a h
    unfold mG
    refine ih (k + 1) _ ?_
    split
    · unfold mBd mAc at *
      split
      · dsimp only; omega
      · exact h
    · exact h
theorem mC_c {T : Int → Int} {e t f V : Int} : ∀ (n : Nat) (k : Int) (a : Int × Int), mAc V 5 a → mAc V 5 (mC T e t f n k a) := by
  intro n
  induction n with
  | zero => intro k a h; exact h
  | succ n ih =>
    intro k a h
    unfold mC
    refine ih (k + 1) _ ?_
    split
    · unfold mAc at *; dsimp only; omega
    · exact h
theorem mGo2_c {T : Int → Int} {S : Nat → Int → Int} {f t cl c : Int} (hT : mT T) : mAc (T 1) 5 (mGo2 T S f t cl c) := by
  have h1 := hT.2.1
  have a0 : mAc (T 1) 4 (T 1, 3) := by unfold mAc; dsimp only; omega
  have a1 : mAc (T 1) 5 (if c = 0 ∧ cl = 0 then mG T f (T 6).toNat 0 (T 1, 3) else (T 1, 3)) := by
    have : mAc (T 1) 4 (if c = 0 ∧ cl = 0 then mG T f (T 6).toNat 0 (T 1, 3) else (T 1, 3)) := by
      split
      · exact mG_c _ _ _ a0
      · exact a0
    unfold mAc at *; omega
  unfold mGo2
  split
  · exact mC_c _ _ _ a1
  · exact a1
theorem mGo_c {T : Int → Int} {S : Nat → Int → Int} {R : Int → Int} {t cl c : Int} (hT : mT T) (hch : 0 < c → R (c - 1) - T (78 + (c - 1)) < T 0 → R c ≤ R (c - 1) - T (78 + (c - 1)) - T 2) : mAc (T 1) 6 (mGo T S R t cl c) ∧ (0 < c → R (c - 1) - T (78 + (c - 1)) < T 0 → (mGo T S R t cl c).1 ≤ R (c - 1) - T (78 + (c - 1)) - T 2 - R c) := by
  have h := mGo2_c (S := S) (f := R c) (t := t) (cl := cl) (c := c) hT
  unfold mGo
  by_cases hq : 0 < c ∧ R (c - 1) - T (78 + (c - 1)) < T 0
  · have := hch hq.1 hq.2
    rw [if_pos hq]
    unfold mBd mAc at *
    split
    · dsimp only; omega
    · omega
  · rw [if_neg hq]
    unfold mAc at *
    refine ⟨by omega, fun a b => absurd ⟨a, b⟩ hq⟩
/-! a car's tick; the first k cars' -/
noncomputable def mCar (T : Int → Int) (S : Nat → Int → Int) (t cl c : Int) (R : Int → Int) : Int → Int :=
  if T 0 ≤ R c - T (78 + c) then mSet R (30 + c) 0 else if t < T 3 then mSet R (30 + c) 1 else if mV (mBrk T c t) = 1 then mSet R (30 + c) 2 else mRw T R c (mGo T S R t cl c)
noncomputable def mCarE (T : Int → Int) (S : Nat → Int → Int) (t cl c : Int) (R E : Int → Int) : Int → Int :=
  if T 0 ≤ R c - T (78 + c) then E else if t < T 3 then E else if mV (mBrk T c t) = 1 then E else mTell T S (R c + (mGo T S R t cl c).1) c (R c) t E
noncomputable def mK (T : Int → Int) (S : Nat → Int → Int) (t cl : Int) (R : Int → Int) : Nat → Int → Int
  | 0 => R
  | k + 1 => mCar T S t cl k (mK T S t cl R k)
noncomputable def mKE (T : Int → Int) (S : Nat → Int → Int) (t cl : Int) (R E : Int → Int) : Nat → Int → Int
  | 0 => E
  | k + 1 => mCarE T S t cl k (mK T S t cl R k) (mKE T S t cl R E k)
/-- a tick -/
noncomputable def mTk (T : Int → Int) (S : Nat → Int → Int) (R : Int → Int) : Int → Int := mSet (mK T S (R 130) (mV (mClo T R)) (mSts T S (T 4) (R 130) R) (T 5).toNat) 130 (R 130 + 1)
noncomputable def mTkE (T : Int → Int) (S : Nat → Int → Int) (R E : Int → Int) : Int → Int := mKE T S (R 130) (mV (mClo T R)) (mSts T S (T 4) (R 130) R) E (T 5).toNat
/-- the fronts, and how many are out -/
def mJ (T R : Int → Int) : Prop := (∀ c, 0 ≤ c → c < T 5 → -3000 ≤ R c ∧ R c ≤ T 0 + T (78 + c) + 50) ∧ (∀ c, 1 ≤ c → c < T 5 → T 0 ≤ R (c - 1) - T (78 + (c - 1)) ∨ R c ≤ R (c - 1) - T (78 + (c - 1)) - T 2) ∧ (0 ≤ R 131 ∧ R 131 ≤ T 5) ∧ (∀ c, 0 ≤ c → c < T 5 → (T 0 ≤ R c - T (78 + c) ↔ c < R 131))
theorem mJ.of {T R R' : Int → Int} (hT : mT T) (h : mJ T R) (e : ∀ i, 0 ≤ i → i < 30 → R' i = R i) (e2 : R' 131 = R 131) : mJ T R' := by
  have h5 := hT.2.2.2.2.2.1
  obtain ⟨h1, h2, h3, h4⟩ := h
  refine ⟨fun c a b => ?_, fun c a b => ?_, by rw [e2]; exact h3, fun c a b => ?_⟩
  · rw [e c a (by omega)]; exact h1 c a b
  · rw [e c (by omega) (by omega), e (c - 1) (by omega) (by omega)]; exact h2 c a b
  · rw [e c a (by omega), e2]; exact h4 c a b
theorem mJ.fr {T R : Int → Int} (hT : mT T) (h : mJ T R) : mFr T R := by
  obtain ⟨h0, _, _, _, _, h5, _, _, _, _, hl, _⟩ := hT
  intro c a b
  have := h.1 c a b
  have := hl c a b
  omega
theorem mJ.ch {T R : Int → Int} (h : mJ T R) {c : Int} (hc : c < T 5) : 0 < c → R (c - 1) - T (78 + (c - 1)) < T 0 → R c ≤ R (c - 1) - T (78 + (c - 1)) - T 2 := fun a b => by
  have := h.2.1 c (by omega) hc
  omega
/-- what a car's tick does to its front -/
theorem mCar_r {T : Int → Int} {S : Nat → Int → Int} {t cl c : Int} {R : Int → Int} (hT : mT T) (hJ : mJ T R) (hc : 0 ≤ c ∧ c < T 5) : (∀ i, ¬ i = c → ¬ i = 30 + c → ¬ i = 131 → mCar T S t cl c R i = R i) ∧ R c ≤ mCar T S t cl c R c ∧ mCar T S t cl c R c ≤ R c + T 1 ∧ (t < T 3 → mCar T S t cl c R c = R c) ∧ (T 0 ≤ R c - T (78 + c) → mCar T S t cl c R c = R c) := by
  have h5 := hT.2.2.2.2.2.1
  have h1 := hT.2.1
  have g := mGo_c (S := S) (t := t) (cl := cl) hT (hJ.ch hc.2)
  unfold mCar
  by_cases q1 : T 0 ≤ R c - T (78 + c)
  · rw [if_pos q1]
    refine ⟨fun i a b d => mSet_n b, ?_⟩
    rw [mSet_n (by omega)]; omega
  rw [if_neg q1]
  by_cases q2 : t < T 3
  · rw [if_pos q2]
    refine ⟨fun i a b d => mSet_n b, ?_⟩
    rw [mSet_n (by omega)]; omega
  rw [if_neg q2]
  by_cases q3 : mV (mBrk T c t) = 1
  · rw [if_pos q3]
    refine ⟨fun i a b d => mSet_n b, ?_⟩
    rw [mSet_n (by omega)]; omega
  rw [if_neg q3]
  unfold mRw
  refine ⟨fun i a b d => by rw [if_neg d, if_neg a, if_neg b], ?_⟩
  rw [if_neg (by omega), if_pos rfl]
  unfold mAc at g
  refine ⟨by omega, by omega, fun h => absurd h q2, fun h => absurd h q1⟩
theorem mJ_car {T : Int → Int} {S : Nat → Int → Int} {t cl c : Int} {R : Int → Int} (hT : mT T) (hJ : mJ T R) (hc : 0 ≤ c ∧ c < T 5) : mJ T (mCar T S t cl c R) := by
  have hT' := hT
  obtain ⟨h0, h1, h2, _, _, h5, _, _, _, _, hl, _⟩ := hT'
  have g := mGo_c (S := S) (t := t) (cl := cl) hT (hJ.ch hc.2)
  unfold mCar
  by_cases q1 : T 0 ≤ R c - T (78 + c)
  · rw [if_pos q1]
    exact hJ.of hT (fun i a b => mSet_n (by omega)) (mSet_n (by omega))
  rw [if_neg q1]
  by_cases q2 : t < T 3
  · rw [if_pos q2]
    exact hJ.of hT (fun i a b => mSet_n (by omega)) (mSet_n (by omega))
  rw [if_neg q2]
  by_cases q3 : mV (mBrk T c t) = 1
  · rw [if_pos q3]
    exact hJ.of hT (fun i a b => mSet_n (by omega)) (mSet_n (by omega))
  rw [if_neg q3]
  obtain ⟨⟨g1, g2, _⟩, g3⟩ := g
  generalize mGo T S R t cl c = a at g1 g2 g3
  obtain ⟨j1, j2, j3, j4⟩ := hJ
  have e0 : mRw T R c a c = R c + a.1 := by unfold mRw; rw [if_neg (by omega), if_pos rfl]
  have e1 : ∀ i, 0 ≤ i → i < 30 → ¬ i = c → mRw T R c a i = R i := fun i a b d => by unfold mRw; rw [if_neg (by omega), if_neg d, if_neg (by omega)]
  have e2 : mRw T R c a 131 = R 131 + (if T 0 ≤ R c + a.1 - T (78 + c) then 1 else 0) := by unfold mRw; rw [if_pos rfl]
  have lc := hl c hc.1 hc.2
  have o1 := j4 c hc.1 hc.2
  have j1c := j1 c hc.1 hc.2
  -- it gets out only behind all ahead of it
  have last : T 0 ≤ R c + a.1 - T (78 + c) → R 131 = c := fun h => by
    by_cases hz : c = 0
    · omega
    · have o2 := j4 (c - 1) (by omega) (by omega)
      have := g3 (by omega)
      have := hl (c - 1) (by omega) (by omega)
      omega
  refine ⟨fun x p q => ?_, fun x p q => ?_, ?_, fun x p q => ?_⟩
  · by_cases hx : x = c
    · rw [hx, e0]; omega
    · rw [e1 x p (by omega) hx]; exact j1 x p q
  · have jx := j2 x p q
    by_cases hx : x = c
    · rw [hx, e0, e1 (c - 1) (by omega) (by omega) (by omega)]
      have := g3 (by omega)
      omega
    · rw [e1 x (by omega) (by omega) hx]
      by_cases hy : x - 1 = c
      · rw [hy, e0]
        rw [hy] at jx
        omega
      · rw [e1 (x - 1) (by omega) (by omega) hy]; exact jx
  · rw [e2]
    split
    · next h => have := last h; omega
    · omega
  · have o2 := j4 x p q
    rw [e2]
    by_cases hx : x = c
    · rw [hx, e0]
      split
      · next h => have := last h; omega
      · next h => omega
    · rw [e1 x p (by omega) hx]
      split
      · next h => have := last h; omega
      · omega
theorem mK_J {T : Int → Int} {S : Nat → Int → Int} {t cl : Int} {R : Int → Int} (hT : mT T) (hJ : mJ T R) : ∀ k : Nat, (k : Int) ≤ T 5 → mJ T (mK T S t cl R k)
  | 0, _ => hJ
  | k + 1, hk => mJ_car hT (mK_J hT hJ k (by omega)) (by omega)
theorem mK_r {T : Int → Int} {S : Nat → Int → Int} {t cl : Int} {R : Int → Int} (hT : mT T) (hJ : mJ T R) : ∀ k : Nat, (k : Int) ≤ T 5 → (∀ i, ((k : Int) ≤ i ∧ i < 30 ∨ 30 + (k : Int) ≤ i ∧ i < 131) → mK T S t cl R k i = R i) ∧ (∀ c : Int, 0 ≤ c → c < k → R c ≤ mK T S t cl R k c ∧ mK T S t cl R k c ≤ R c + T 1 ∧ (t < T 3 → mK T S t cl R k c = R c) ∧ (T 0 ≤ R c - T (78 + c) → mK T S t cl R k c = R c))
  | 0, _ => ⟨fun i h => rfl, fun c a b => by omega⟩
  | k + 1, hk => by
    have h5 := hT.2.2.2.2.2.1
    obtain ⟨i1, i2⟩ := mK_r (S := S) (t := t) (cl := cl) hT hJ k (by omega)
    obtain ⟨c1, c2, c3, c4, c5⟩ := mCar_r (S := S) (t := t) (cl := cl) (c := k) hT (mK_J (S := S) (t := t) (cl := cl) hT hJ k (by omega)) (by omega)
    have ek := i1 k (by omega)
    refine ⟨fun i h => ?_, fun c a b => ?_⟩
    · exact (c1 i (by omega) (by omega) (by omega)).trans (i1 i (by omega))
    · show R c ≤ mCar T S t cl k (mK T S t cl R k) c ∧ mCar T S t cl k (mK T S t cl R k) c ≤ R c + T 1 ∧ (t < T 3 → mCar T S t cl k (mK T S t cl R k) c = R c) ∧ (T 0 ≤ R c - T (78 + c) → mCar T S t cl k (mK T S t cl R k) c = R c)
      by_cases hq : c = k
      · subst hq
        rw [ek] at c2 c3 c4 c5
        exact ⟨c2, c3, c4, c5⟩
      · rw [c1 c hq (by omega) (by omega)]
        exact i2 c a (by omega)
end PURE1
