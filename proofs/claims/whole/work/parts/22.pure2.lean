section PURE2
/-- the sections of all cars -/
abbrev mS (T : Int → Int) : Nat → Int → Int := mL T (T 5).toNat
theorem mTk_130 {T : Int → Int} {S : Nat → Int → Int} {R : Int → Int} : mTk T S R 130 = R 130 + 1 := mSet_s
theorem mTk_z {T : Int → Int} {S : Nat → Int → Int} {R : Int → Int} (hT : mT T) (h : mZ R) : mZ (mTk T S R) := by
  have h4 := hT.2.2.2.2.1
  have h5 := hT.2.2.2.2.2.1
  unfold mTk
  refine mZ_set ?_ (by omega)
  have : ∀ k : Nat, (k : Int) ≤ T 5 → mZ (mK T S (R 130) (mV (mClo T R)) (mSts T S (T 4) (R 130) R) k) := by
    intro k
    induction k with
    | zero => intro _; exact mZ_sts h h4.2
    | succ k ih =>
      intro hk
      have := ih (by omega)
      show mZ (mCar _ _ _ _ _ _)
      unfold mCar
      split
      · exact mZ_set this (by omega)
      split
      · exact mZ_set this (by omega)
      split
      · exact mZ_set this (by omega)
      exact mZ_rw this (by omega)
  exact this _ (by omega)
/-- the streets behind a tick -/
theorem mTk_st {T : Int → Int} {S : Nat → Int → Int} {R : Int → Int} (hT : mT T) (hJ : mJ T R) {x k : Int} (hx : 0 ≤ x ∧ x < T 4) (hk : 0 ≤ k ∧ k < 7) : mTk T S R (60 + 7 * x + k) = mSt T x (R 130) (mV (mHeld T S R x)) (mV (mOpn T x (R 130))) R k := by
  have h4 := hT.2.2.2.2.1
  have h5 := hT.2.2.2.2.2.1
  unfold mTk
  rw [mSet_n (by omega), (mK_r hT (mJ_sts hT hJ h4.2) _ (by omega)).1 _ (by omega)]
  unfold mSts
  rw [if_pos (by omega), show (60 + 7 * x + k - 60) / 7 = x by omega, show (60 + 7 * x + k - 60) % 7 = k by omega]
/-- the fronts behind a tick -/
theorem mTk_f {T : Int → Int} {S : Nat → Int → Int} {R : Int → Int} (hT : mT T) {i : Int} (hi : ¬ i = 130) : mTk T S R i = mK T S (R 130) (mV (mClo T R)) (mSts T S (T 4) (R 130) R) (T 5).toNat i := mSet_n hi
theorem mSts_f {T : Int → Int} {S : Nat → Int → Int} {n t : Int} {R : Int → Int} {i : Int} (hn : n ≤ 10) (hi : i < 60 ∨ 130 ≤ i) : mSts T S n t R i = R i := by
  unfold mSts
  rw [if_neg (by omega)]
theorem mTk_J {T : Int → Int} {S : Nat → Int → Int} {R : Int → Int} (hT : mT T) (hJ : mJ T R) : mJ T (mTk T S R) := by
  have h4 := hT.2.2.2.2.1
  have h5 := hT.2.2.2.2.2.1
  have := mK_J (S := S) (t := R 130) (cl := mV (mClo T R)) hT (mJ_sts (S := S) (n := T 4) (t := R 130) hT hJ h4.2) (T 5).toNat (by omega)
  exact this.of hT (fun i a b => mTk_f hT (by omega)) (mTk_f hT (by omega))
/-- more bounds of the streets -/
def mRW (T R : Int → Int) (t : Int) : Prop := ∀ x, 0 ≤ x → x < T 4 → 0 ≤ R (60 + 7 * x + 1) ∧ R (60 + 7 * x + 1) ≤ 10000 * t ∧ 0 ≤ R (60 + 7 * x + 4) ∧ R (60 + 7 * x + 4) ≤ t ∧ 0 ≤ R (60 + 7 * x + 5) ∧ R (60 + 7 * x + 5) ≤ t
theorem mTk_S {T : Int → Int} {S : Nat → Int → Int} {R : Int → Int} (hT : mT T) (hI : mI T R) (hW : mRW T R (R 130)) (ht : R 130 < 9000) : mRS T (mTk T S R) (mTk T S R 130) ∧ mRW T (mTk T S R) (mTk T S R 130) := by
  obtain ⟨hJ, hS, h0⟩ := hI
  have h4 := hT.2.2.2.2.1
  have hX := hT.2.2.2.2.2.2.2.2.1
  rw [mTk_130]
  have e0 : ∀ x, 0 ≤ x → x < T 4 → mTk T S R (60 + 7 * x) = mSt T x (R 130) (mV (mHeld T S R x)) (mV (mOpn T x (R 130))) R 0 := fun x a b => by
    have := mTk_st (S := S) hT hJ (x := x) (k := 0) ⟨a, b⟩ (by omega)
    rw [Int.add_zero] at this
    exact this
  have W : ∀ x, 0 ≤ x → x < T 4 → 0 ≤ mW0 T x (R 130) R ∧ mW0 T x (R 130) R ≤ R 130 + 1 := fun x a b => by
    have := hS x a b
    unfold mW0
    have := mV_01 (C := 0 < T (8 + 7 * x + 5) ∧ R 130 % T (8 + 7 * x + 5) = 0)
    omega
  have V : ∀ x h, (mSv T x (R 130) h R = 0 ∨ mSv T x (R 130) h R = 1) ∧ (mSv T x (R 130) h R = 1 → 0 < mW0 T x (R 130) R) := fun x h => by
    refine ⟨mV_01, fun e => ?_⟩
    unfold mSv at e
    have b := mV_b (C := h = 0 ∧ R 130 % T (8 + 7 * x + 6) = 0 ∧ 0 < mW0 T x (R 130) R)
    exact (b.t (by omega)).2.2
  constructor
  · intro x a b
    have s := hS x a b
    have w := W x a b
    have v := V x (mV (mHeld T S R x))
    have hm : 0 ≤ R (60 + 7 * x + 2) * T (8 + 7 * x + 5) := Int.mul_nonneg (by omega) (by have := hX x a b; unfold mX at this; omega)
    rw [e0 x a b, mTk_st hT hJ ⟨a, b⟩ (by omega), mTk_st hT hJ ⟨a, b⟩ (by omega), mTk_st hT hJ ⟨a, b⟩ (by omega)]
    simp only [mSt]
    rw [if_pos trivial, if_neg (by omega), if_neg (by omega), if_pos trivial, if_neg (by omega), if_neg (by omega), if_neg (by omega), if_pos trivial, if_neg (by omega), if_neg (by omega), if_neg (by omega), if_neg (by omega), if_neg (by omega), if_neg (by omega)]
    generalize R (60 + 7 * x + 2) * T (8 + 7 * x + 5) = m at hm
    generalize mW0 T x (R 130) R = p at w v
    generalize mSv T x (R 130) (mV (mHeld T S R x)) R = u at v
    split <;> omega
  · intro x a b
    have s := hS x a b
    have w := W x a b
    have v := V x (mV (mHeld T S R x))
    have o := hW x a b
    have q1 := mV_01 (C := mHeld T S R x)
    have q2 := mV_01 (C := mV (mHeld T S R x) = 1 ∧ mV (mOpn T x (R 130)) = 0)
    rw [mTk_st hT hJ ⟨a, b⟩ (by omega), mTk_st hT hJ ⟨a, b⟩ (by omega), mTk_st hT hJ ⟨a, b⟩ (by omega)]
    simp only [mSt]
    rw [if_neg (by omega), if_pos trivial, if_neg (by omega), if_neg (by omega), if_neg (by omega), if_neg (by omega), if_pos trivial, if_neg (by omega), if_neg (by omega), if_neg (by omega), if_neg (by omega), if_neg (by omega), if_pos trivial]
    generalize mW0 T x (R 130) R = p at w v
    generalize mSv T x (R 130) (mV (mHeld T S R x)) R = u at v
    omega
/-- the run of what is told: behind n ticks -/
noncomputable def mRun (T : Int → Int) : Nat → Int → Int
  | 0 => mBeg T
  | n + 1 => mTk T (mS T) (mRun T n)
theorem mF0_b {T : Int → Int} (hT : mT T) : ∀ c : Nat, (c : Int) ≤ T 5 → -80 * (c : Int) ≤ mF0 T c ∧ mF0 T c ≤ 0
  | 0, _ => by unfold mF0; omega
  | c + 1, h => by
    have := mF0_b (T := T) hT c (by omega)
    obtain ⟨_, _, h2, _, _, h5, _, _, _, _, hl, _⟩ := hT
    have := hl c (by omega) (by omega)
    unfold mF0
    omega
theorem mBeg_at {T : Int → Int} (hT : mT T) {c : Int} (h : 0 ≤ c ∧ c < T 5) : mBeg T c = mF0 T c.toNat := by
  unfold mBeg mBg
  rw [if_pos h]
theorem mBeg_o {T : Int → Int} (hT : mT T) {c : Int} (h : 60 ≤ c) : mBeg T c = 0 := by
  have h5 := hT.2.2.2.2.2.1
  unfold mBeg mBg
  rw [if_neg (by omega), if_neg (by omega)]
theorem mBeg_I {T : Int → Int} (hT : mT T) : mI T (mBeg T) ∧ mRW T (mBeg T) (mBeg T 130) := by
  have hT' := hT
  obtain ⟨h0, h1, h2, h3, h4, h5, h6, _, hX, _, hl, _⟩ := hT'
  refine ⟨⟨⟨fun c a b => ?_, fun c a b => ?_, ?_, fun c a b => ?_⟩, fun x a b => ?_, ?_⟩, fun x a b => ?_⟩
  · rw [mBeg_at hT ⟨a, b⟩]
    have := mF0_b hT c.toNat (by omega)
    have := hl c a b
    omega
  · rw [mBeg_at hT ⟨by omega, b⟩, mBeg_at hT ⟨by omega, by omega⟩]
    obtain ⟨k, hk⟩ : ∃ k : Nat, c = k + 1 := ⟨(c - 1).toNat, by omega⟩
    subst hk
    rw [show ((k : Int) + 1).toNat = k + 1 by omega, show ((k : Int) + 1 - 1) = k by omega, show ((k : Int)).toNat = k by omega]
    right
    rw [show mF0 T (k + 1) = mF0 T k - T (78 + (k : Int)) - T 2 from rfl]
    omega
  · rw [mBeg_o hT (by omega)]; omega
  · rw [mBeg_at hT ⟨a, b⟩, mBeg_o hT (by omega)]
    have := mF0_b hT c.toNat (by omega)
    have := hl c a b
    omega
  · rw [mBeg_o hT (by omega), mBeg_o hT (by omega), mBeg_o hT (by omega), mBeg_o hT (by omega), mBeg_o hT (by omega)]; omega
  · rw [mBeg_o hT (by omega)]; omega
  · rw [mBeg_o hT (by omega), mBeg_o hT (by omega), mBeg_o hT (by omega), mBeg_o hT (by omega)]; omega
theorem mRun_130 {T : Int → Int} (hT : mT T) : ∀ n : Nat, mRun T n 130 = n
  | 0 => mBeg_o hT (by omega)
  | n + 1 => by
    show mTk T (mS T) (mRun T n) 130 = _
    rw [mTk_130, mRun_130 hT n]
    omega
theorem mRun_I {T : Int → Int} (hT : mT T) : ∀ n : Nat, n ≤ 9000 → mI T (mRun T n) ∧ mRW T (mRun T n) (mRun T n 130)
  | 0, _ => mBeg_I hT
  | n + 1, h => by
    have i := mRun_I hT n (by omega)
    have e := mRun_130 hT n
    have s := mTk_S (S := mS T) hT i.1 i.2 (by omega)
    refine ⟨⟨mTk_J hT i.1.1, s.1, ?_⟩, s.2⟩
    rw [mRun_130 hT (n + 1)]; omega
theorem mRun_z {T : Int → Int} (hT : mT T) : ∀ n : Nat, mZ (mRun T n)
  | 0 => mZ_beg hT
  | n + 1 => mTk_z hT (mRun_z hT n)
/-- fronts go on, by no more than V in a tick, not at all ahead of the start -/
theorem mTk_m {T : Int → Int} {S : Nat → Int → Int} {R : Int → Int} (hT : mT T) (hJ : mJ T R) {c : Int} (hc : 0 ≤ c ∧ c < T 5) : R c ≤ mTk T S R c ∧ mTk T S R c ≤ R c + T 1 ∧ (R 130 < T 3 → mTk T S R c = R c) ∧ (T 0 ≤ R c - T (78 + c) → mTk T S R c = R c) := by
  have h4 := hT.2.2.2.2.1
  have h5 := hT.2.2.2.2.2.1
  have := (mK_r (S := S) (t := R 130) (cl := mV (mClo T R)) hT (mJ_sts (S := S) (n := T 4) (t := R 130) hT hJ h4.2) (T 5).toNat (by omega)).2 c hc.1 (by omega)
  rw [mTk_f hT (by omega)]
  rw [mSts_f h4.2 (by omega)] at this
  exact this
/-- where a whole run stops: all are out, or 2000 ticks -/
noncomputable def mLk (T : Int → Int) : Nat → Nat → Nat
  | 0, n => n
  | f + 1, n => if mRun T n 131 = T 5 then n else mLk T f (n + 1)
noncomputable def mLast (T : Int → Int) : Nat := mLk T 2000 0
noncomputable def mEnd (T : Int → Int) : Int := if mRun T (mLast T) 131 = T 5 then (mLast T : Int) else -1
theorem mLk_p {T : Int → Int} : ∀ f n : Nat, n ≤ mLk T f n ∧ mLk T f n ≤ n + f ∧ (∀ m, n ≤ m → m < mLk T f n → ¬ mRun T m 131 = T 5) ∧ (mLk T f n = n + f ∨ mRun T (mLk T f n) 131 = T 5)
  | 0, n => ⟨Nat.le_refl _, Nat.le_refl _, fun m a b => by unfold mLk at b; omega, Or.inl rfl⟩
  | f + 1, n => by
    unfold mLk
    by_cases h : mRun T n 131 = T 5
    · rw [if_pos h]
      exact ⟨Nat.le_refl _, by omega, fun m a b => by omega, Or.inr h⟩
    · rw [if_neg h]
      obtain ⟨a, b, c, e⟩ := mLk_p (T := T) f (n + 1)
      refine ⟨by omega, by omega, fun m p q => ?_, ?_⟩
      · by_cases hm : m = n
        · rw [hm]; exact h
        · exact c m (by omega) q
      · rcases e with e | e
        · left; omega
        · right; exact e
theorem mLast_p {T : Int → Int} : mLast T ≤ 2000 ∧ (∀ m, m < mLast T → ¬ mRun T m 131 = T 5) ∧ (mLast T = 2000 ∨ mRun T (mLast T) 131 = T 5) := by
  obtain ⟨a, b, c, e⟩ := mLk_p (T := T) 2000 0
  refine ⟨by unfold mLast; omega, fun m h => c m (by omega) h, ?_⟩
  rcases e with e | e
  · left; unfold mLast; omega
  · right; exact e
/-- it stops at the first that is so -/
theorem mLast_u {T : Int → Int} {n : Nat} (h : n ≤ 2000) (h1 : ∀ m, m < n → ¬ mRun T m 131 = T 5) (h2 : n = 2000 ∨ mRun T n 131 = T 5) : mLast T = n := by
  obtain ⟨a, b, c⟩ := mLast_p (T := T)
  rcases Nat.lt_trichotomy (mLast T) n with q | q | q
  · rcases c with c | c
    · omega
    · exact absurd c (h1 _ q)
  · exact q
  · rcases h2 with h2 | h2
    · omega
    · exact absurd h2 (b _ q)
end PURE2
