section PUR4
variable {T R R' E : Int → Int} {S : Nat → Int → Int} {t cl : Int}
theorem mC_dec {e f : Int} : ∀ (n : Nat) (x : Int) (a : Int × Int), (mC T e t f n x a).1 ≤ a.1
  | 0, _, _ => Int.le_refl _
  | n + 1, x, a => by
    unfold mC
    refine Int.le_trans (mC_dec n (x + 1) _) ?_
    split
    · dsimp only; omega
    · exact Int.le_refl _
theorem mC_le {e f : Int} {y : Int} (hf : f ≤ T (8 + 7 * y)) (hm : ¬ mMay T e y t) : ∀ (n : Nat) (x : Int) (a : Int × Int), x ≤ y → y < x + n → (mC T e t f n x a).1 ≤ T (8 + 7 * y) - f
  | 0, x, a, h, h' => by omega
  | n + 1, x, a, h, h' => by
    unfold mC
    by_cases q : x = y
    · subst q
      refine Int.le_trans (mC_dec n (x + 1) _) ?_
      split
      · exact Int.le_refl _
      · rename_i z
        apply Classical.byContradiction
        intro w
        exact z ⟨hf, by omega, mV_f hm⟩
    · exact mC_le hf hm n (x + 1) _ (by omega) (by omega)
theorem mC_or {e f : Int} : ∀ (n : Nat) (x : Int) (a : Int × Int), mC T e t f n x a = a ∨ ∃ y, x ≤ y ∧ y < x + n ∧ f ≤ T (8 + 7 * y) ∧ ¬ mMay T e y t ∧ mC T e t f n x a = (T (8 + 7 * y) - f, 5)
  | 0, _, _ => Or.inl rfl
  | n + 1, x, a => by
    unfold mC
    by_cases q : f ≤ T (8 + 7 * x) ∧ T (8 + 7 * x) - f < a.1 ∧ mV (mMay T e x t) = 0
    · rw [if_pos q]
      refine Or.inr ?_
      rcases mC_or n (x + 1) (T (8 + 7 * x) - f, 5) with h | ⟨y, h1, h2, h3⟩
      · exact ⟨x, by omega, by omega, q.1, mV_b.f q.2.2, h⟩
      · exact ⟨y, by omega, by omega, h3⟩
    · rw [if_neg q]
      rcases mC_or n (x + 1) a with h | ⟨y, h1, h2, h3⟩
      · exact Or.inl h
      · exact Or.inr ⟨y, by omega, by omega, h3⟩
theorem mod_add {a δ c : Int} (hc : 0 < c) (h0 : 0 ≤ δ) (h : a % c + δ < 2 * c) : (a + δ) % c = if a % c + δ < c then a % c + δ else a % c + δ - c := by
  have m := mmod (t := a) (c := c) (by omega)
  have e : (a + δ) % c = (a % c + δ) % c := (Int.emod_add_emod a c δ).symm
  rw [e]
  by_cases q : a % c + δ < c
  · rw [if_pos q, Int.emod_eq_of_lt (by omega) q]
  · rw [if_neg q]
    have : a % c + δ = (a % c + δ - c) + c * 1 := by omega
    rw [this, Int.add_mul_emod_self_left, show a % c + δ - c + c * 1 - c = a % c + δ - c by omega, Int.emod_eq_of_lt (by omega) (by omega)]
/-- up to the next entry it lets none in -/
theorem mNx_no {x n m : Int} (hX : mX T x) (h0 : 0 ≤ t) (h1 : t ≤ m) (h2 : m < mNx T x t n) : ¬ mLet T x m n := by
  unfold mX at hX
  have mm := mmod (t := t) (c := T (8 + 7 * x + 2)) (by omega)
  have mn := mmod (t := m) (c := T (8 + 7 * x + 2)) (by omega)
  unfold mNx at h2
  by_cases q : mLet T x t n
  · rw [mV_t q, if_pos rfl] at h2; omega
  rw [mV_f q, if_neg (by decide)] at h2
  have na : ¬ mAlw T x := fun z => q (Or.inl z)
  have nl : ¬ (T (8 + 7 * x + 3) ≤ t % T (8 + 7 * x + 2) ∧ t % T (8 + 7 * x + 2) + n ≤ T (8 + 7 * x + 4)) := fun z => q (Or.inr z)
  rintro (z | z)
  · exact na z
  by_cases q2 : mEvl T x n
  · rw [mV_t q2, if_pos rfl] at h2
    have em : m = t + (m - t) := by omega
    by_cases q3 : t % T (8 + 7 * x + 2) < T (8 + 7 * x + 3)
    · rw [if_pos q3] at h2
      have := mod_add (a := t) (δ := m - t) (c := T (8 + 7 * x + 2)) (by omega) (by omega) (by omega)
      rw [← em, if_pos (by omega)] at this
      omega
    · rw [if_neg q3] at h2
      have := mod_add (a := t) (δ := m - t) (c := T (8 + 7 * x + 2)) (by omega) (by omega) (by omega)
      rw [← em] at this
      by_cases q4 : t % T (8 + 7 * x + 2) + (m - t) < T (8 + 7 * x + 2)
      · rw [if_pos q4] at this; omega
      · rw [if_neg q4] at this; omega
  · exact q2 (Or.inr (by omega))
theorem mMay_ev {e x : Int} (h : mMay T e x t) : mEvl T x (mNeed T e x) := by
  rcases h with h | h
  · exact Or.inl h
  · refine Or.inr ?_
    have := h.1.1
    have := h.2
    omega
theorem mJ_131 (hT : mT T) (h : mJ T R) (h' : mJ T R') (e : ∀ c, 0 ≤ c → c < T 5 → R' c = R c) : R' 131 = R 131 := by
  have h5 := hT.2.2.2.2.2.1
  have a := h.2.2.1
  have b := h'.2.2.1
  apply Classical.byContradiction
  intro z
  by_cases q : R 131 < R' 131
  · have x := h.2.2.2 (R 131) (by omega) (by omega)
    have y := h'.2.2.2 (R 131) (by omega) (by omega)
    rw [e _ (by omega) (by omega)] at y
    omega
  · have x := h.2.2.2 (R' 131) (by omega) (by omega)
    have y := h'.2.2.2 (R' 131) (by omega) (by omega)
    rw [e _ (by omega) (by omega)] at y
    omega
/-- nothing can move in tick t -/
def mSti (T : Int → Int) (S : Nat → Int → Int) (R : Int → Int) (t cl : Int) : Prop := ∀ c, 0 ≤ c → c < T 5 → T 0 ≤ R c - T (78 + c) ∨ t < T 3 ∨ mBrk T c t ∨ (mGo T S R t cl c).1 = 0
theorem mSti_f (hT : mT T) (hJ : mJ T R) (h : mSti T S R t cl) : ∀ k : Nat, (k : Int) ≤ T 5 → ∀ i, (0 ≤ i ∧ i < 30) ∨ i = 131 → mK T S t cl R k i = R i
  | 0, _, _, _ => rfl
  | k + 1, hk, i, hi => by
    have h5 := hT.2.2.2.2.2.1
    have a := mSti_f hT hJ h k (by omega)
    have hc := h k (by omega) (by omega)
    show mCar T S t cl k (mK T S t cl R k) i = R i
    have g := mGo_e (T := T) (S := S) (t := t) (cl := cl) (c := k) a (by omega)
    have e := a k (by omega)
    unfold mCar
    rw [e, g]
    by_cases q1 : T 0 ≤ R k - T (78 + (k : Int))
    · rw [if_pos q1, mSet_n (by omega)]; exact a i hi
    rw [if_neg q1]
    by_cases q2 : t < T 3
    · rw [if_pos q2, mSet_n (by omega)]; exact a i hi
    rw [if_neg q2]
    by_cases q3 : mBrk T k t
    · rw [if_pos (mV_t q3), mSet_n (by omega)]; exact a i hi
    rw [if_neg (by rw [mV_f q3]; decide)]
    have g0 : (mGo T S R t cl k).1 = 0 := by
      rcases hc with z | z | z | z
      · exact absurd z q1
      · exact absurd z q2
      · exact absurd z q3
      · exact z
    unfold mRw
    rw [g0, e]
    by_cases z1 : i = 131
    · rw [if_pos z1, if_neg (by omega), a 131 (by omega), z1]; omega
    rw [if_neg z1]
    by_cases z2 : i = k
    · rw [if_pos z2, z2]; omega
    rw [if_neg z2, if_neg (by omega)]
    exact a i hi
theorem mK_fix (hT : mT T) (hJ : mJ T R) {k : Nat} : ∀ n : Nat, ((k + n : Nat) : Int) ≤ T 5 → ∀ i, ((0 ≤ i ∧ i < (k : Int)) ∨ (30 ≤ i ∧ i < 30 + (k : Int))) → mK T S t cl R (k + n) i = mK T S t cl R k i
  | 0, _, _, _ => rfl
  | n + 1, hk, i, hi => by
    have h5 := hT.2.2.2.2.2.1
    rw [← mK_fix hT hJ n (by omega) i hi]
    have := mCar_r (S := S) (t := t) (cl := cl) (c := ((k + n : Nat) : Int)) hT (mK_J (S := S) (t := t) (cl := cl) hT hJ (k + n) (by omega)) (by omega)
    exact this.1 i (by omega) (by omega) (by omega)
/-- a car's why; and nothing could move, if nothing did -/
theorem mSti_b (hT : mT T) (hJ : mJ T R) (hst : T 3 ≤ t) (h : ∀ c, 0 ≤ c → c < T 5 → mK T S t cl R (T 5).toNat c = R c) : mSti T S R t cl ∧ ∀ c, 0 ≤ c → c < T 5 → ¬ T 0 ≤ R c - T (78 + c) → ¬ mBrk T c t → mK T S t cl R (T 5).toNat (30 + c) = (mGo T S R t cl c).2 := by
  have h5 := hT.2.2.2.2.2.1
  have key : ∀ k : Nat, (k : Int) < T 5 → ¬ T 0 ≤ R k - T (78 + (k : Int)) → ¬ mBrk T k t → (mGo T S R t cl k).1 = 0 ∧ mK T S t cl R (T 5).toNat (30 + k) = (mGo T S R t cl k).2 := fun k hk q1 q3 => by
    have J := mK_J (S := S) (t := t) (cl := cl) hT hJ k (by omega)
    have r := mK_r (S := S) (t := t) (cl := cl) hT hJ k (by omega)
    have fr : ∀ i, 0 ≤ i → i < 30 → mK T S t cl R k i = R i := fun i a b => by
      by_cases z : i < (k : Int)
      · have := mK_fix (S := S) (t := t) (cl := cl) hT hJ (k := k) ((T 5).toNat - k) (by omega) i (by omega)
        rw [show k + ((T 5).toNat - k) = (T 5).toNat by omega, h i a (by omega)] at this
        exact this.symm
      · exact r.1 i (by omega)
    have o := mJ_131 hT hJ J fun c a b => fr c a (by omega)
    have a : ∀ i, (0 ≤ i ∧ i < 30) ∨ i = 131 → mK T S t cl R k i = R i := fun i hi => by
      rcases hi with hi | hi
      · exact fr i hi.1 hi.2
      · rw [hi]; exact o
    have g := mGo_e (T := T) (S := S) (t := t) (cl := cl) (c := k) a (by omega)
    have e := a k (by omega)
    have st : mK T S t cl R (k + 1) = mRw T (mK T S t cl R k) k (mGo T S R t cl k) := by
      show mCar T S t cl k (mK T S t cl R k) = _
      unfold mCar
      rw [e, g, if_neg q1, if_neg (by omega), if_neg (by rw [mV_f q3]; decide)]
    have f := fun i hi => mK_fix (S := S) (t := t) (cl := cl) hT hJ (k := k + 1) ((T 5).toNat - (k + 1)) (by omega) i hi
    rw [show k + 1 + ((T 5).toNat - (k + 1)) = (T 5).toNat by omega, st] at f
    constructor
    · have := f k (by omega)
      rw [h k (by omega) (by omega)] at this
      unfold mRw at this
      rw [if_neg (by omega), if_pos rfl, e] at this
      omega
    · rw [f (30 + k) (by omega)]
      unfold mRw
      rw [if_neg (by omega), if_neg (by omega), if_pos rfl]
  constructor
  · intro c a b
    by_cases q1 : T 0 ≤ R c - T (78 + c)
    · exact Or.inl q1
    by_cases q3 : mBrk T c t
    · exact Or.inr (Or.inr (Or.inl q3))
    have := key c.toNat (by omega)
    rw [show ((c.toNat : Nat) : Int) = c by omega] at this
    exact Or.inr (Or.inr (Or.inr (this q1 q3).1))
  · intro c a b q1 q3
    have := key c.toNat (by omega)
    rw [show ((c.toNat : Nat) : Int) = c by omega] at this
    exact (this q1 q3).2
/-- up to the next stir nothing moves -/
theorem mSti_n (hT : mT T) (hJ : mJ T R) (hst : T 3 ≤ t) (h0 : 0 ≤ t) (hS : mSti T (mS T) R t cl) {W : Int → Int} (hW : ∀ c, 0 ≤ c → c < T 5 → ¬ T 0 ≤ R c - T (78 + c) → ¬ mBrk T c t → W c = (mGo T (mS T) R t cl c).2) {N : Int} (hb : ∀ k, 0 ≤ k → k < T 7 → t + 1 ≤ T (142 + 3 * k + 1) + T (142 + 3 * k + 2) → N ≤ T (142 + 3 * k + 1) + T (142 + 3 * k + 2)) (hn : ∀ e, 0 ≤ e → e < mS T 0 0 → ∀ x, mNe T (R (mS T 2 e)) x → R 131 ≤ mS T 2 e → W (mS T 2 e) = 5 → x < T 4 → N ≤ mNx T x (t + 1) (mNeed T (mS T 4 e) x)) {m : Int} (hm : t < m) (hN : m < N) : mSti T (mS T) R m cl := by
  have hT' := hT
  obtain ⟨h00, h1, h2, h3, h4, h5, h6, h7, hX, hO, hL, _⟩ := hT'
  have sb := mS_b hT
  intro c a b
  by_cases q1 : T 0 ≤ R c - T (78 + c)
  · exact Or.inl q1
  by_cases q3 : mBrk T c t
  · obtain ⟨k, k1, k2, k3, k4, k5⟩ := q3
    have := hb k k1 k2 (by omega)
    exact Or.inr (Or.inr (Or.inl ⟨k, k1, k2, k3, by omega, by omega⟩))
  refine Or.inr (Or.inr (Or.inr ?_))
  have g0 : (mGo T (mS T) R t cl c).1 = 0 := by
    rcases hS c a b with z | z | z | z
    · exact absurd z q1
    · omega
    · exact absurd z q3
    · exact z
  have w := hW c a b q1 q3
  have gm := (mGo_c (S := mS T) (t := m) (cl := cl) hT (hJ.ch b)).1
  have s1 := sb.2.2.1 c a b
  have s2 := sb.2.2.2 (mS T 1 c) s1.1 s1.2
  -- the ways in which it stands
  have go2 : ∀ u, (mGo T (mS T) R u cl c).1 ≤ (mGo2 T (mS T) (R c) u cl c).1 := fun u => by
    unfold mGo
    split
    · unfold mBd
      split
      · dsimp only; omega
      · exact Int.le_refl _
    · exact Int.le_refl _
  have up : (mGo T (mS T) R m cl c).1 ≤ 0 → (mGo T (mS T) R m cl c).1 = 0 := fun z => by
    unfold mAc at gm; omega
  apply up
  by_cases ah : 0 < c ∧ R (c - 1) - T (78 + (c - 1)) < T 0 ∧ R (c - 1) - T (78 + (c - 1)) - T 2 - R c ≤ 0
  · unfold mGo
    rw [if_pos ⟨ah.1, ah.2.1⟩]
    unfold mBd
    split
    · dsimp only; exact ah.2.2
    · omega
  · -- so what holds it is ahead of the car ahead
    have same : mGo2 T (mS T) (R c) t cl c = mGo T (mS T) R t cl c := by
      have g0' := g0
      unfold mGo at g0' ⊢
      by_cases z : 0 < c ∧ R (c - 1) - T (78 + (c - 1)) < T 0
      · rw [if_pos z] at g0' ⊢
        unfold mBd at g0' ⊢
        split
        · rename_i y
          rw [if_pos y] at g0'
          dsimp only at g0'
          exact absurd ⟨z.1, z.2, by omega⟩ ah
        · rfl
      · rw [if_neg z]
    refine Int.le_trans (go2 m) ?_
    rw [← same] at g0 w
    obtain ⟨B, hB⟩ : ∃ B, B = (if c = 0 ∧ cl = 0 then mG T (R c) (T 6).toNat 0 (T 1, 3) else (T 1, 3)) := ⟨_, rfl⟩
    unfold mGo2 at g0 w ⊢
    rw [← hB] at g0 w ⊢
    by_cases ld : mS T 2 (mS T 1 c) = c
    · rw [if_pos ld] at g0 w ⊢
      rcases mC_or (T := T) (t := t) (e := mS T 4 (mS T 1 c)) (f := R c) (T 4).toNat 0 B with z | ⟨y, y1, y2, y3, y4, y5⟩
      · rw [z] at g0
        exact Int.le_trans (mC_dec _ _ _) (by omega)
      · rw [y5] at g0 w
        dsimp only at g0 w
        obtain ⟨x, hx⟩ := mNe_x hT (R c)
        have xy : x = y := by
          apply Classical.byContradiction
          intro z
          by_cases z2 : x < y
          · have := hx.2.2 x (by omega) (by omega)
            have := hO x y hx.1.1 z2 (by omega)
            have := hX x hx.1.1 (by omega)
            unfold mX at this
            omega
          · have := hx.2.1 y y1 (by omega)
            omega
        subst xy
        have no := hn (mS T 1 c) s1.1 s1.2 x (by rw [ld]; exact hx) (by
          rw [ld]
          apply Classical.byContradiction
          intro z
          exact q1 ((hJ.2.2.2 c a b).mpr (by omega))) (by rw [ld]; exact w) (by omega)
        have xx := hX x y1 (by omega)
        have xx' := xx
        unfold mX at xx'
        have n1 := mNeed_1 (T := T) (e := mS T 4 (mS T 1 c)) (x := x) h1.1 (by omega)
        have nm := mNx_no (T := T) (t := t + 1) (n := mNeed T (mS T 4 (mS T 1 c)) x) (m := m) xx (by omega) (by omega) (by omega)
        refine Int.le_trans (mC_le (y := x) y3 (fun z => nm ((mLet_m n1).mpr z)) (T 4).toNat 0 B y1 (by omega)) (by omega)
    · rw [if_neg ld] at g0 ⊢
      omega
end PUR4
