section CL10
variable {X : List Int32} {d : Nat} {F : XF}
section PU
variable {T : Int → Int}
theorem mRun_K (hT : mT T) (n : Nat) : ∀ i, ((0 ≤ i ∧ i < 30) ∨ i = 131 ∨ (30 ≤ i ∧ i < 30 + T 5)) → mRun T (n + 1) i = mK T (mS T) (n : Int) (mV (mClo T (mRun T n))) (mRun T n) (T 5).toNat i := fun i hi => by
  have h4 := hT.2.2.2.2.1
  have h5 := hT.2.2.2.2.2.1
  have e130 := mRun_130 hT n
  have ke := mK_e (T := T) (S := mS T) (t := mRun T n 130) (cl := mV (mClo T (mRun T n))) (E := fun _ => 0) (R := mRun T n) (R' := mSts T (mS T) (T 4) (mRun T n 130) (mRun T n)) h5.2 (fun i hi => mSts_f h4.2 (by omega)) (T 5).toNat (by omega)
  show mTk T (mS T) (mRun T n) i = _
  rw [mTk_f hT (by omega)]
  have := ke.1 i (by omega)
  rw [e130] at this
  rw [e130]
  exact this
theorem mClo_e {R R' : Int → Int} (hT : mT T) (h : ∀ i, (0 ≤ i ∧ i < 30) ∨ i = 131 → R' i = R i) : mClo T R' = mClo T R := by
  have h5 := hT.2.2.2.2.2.1
  unfold mClo
  apply propext
  constructor
  · intro a c p q
    rw [← h c (by omega), ← h (c - 1) (by omega)]
    exact a c p q
  · intro a c p q
    rw [h c (by omega), h (c - 1) (by omega)]
    exact a c p q
/-- ticks in which nothing can move -/
theorem mRun_s (hT : mT T) {n : Nat} : ∀ k : Nat, n + k ≤ 9000 → (∀ j : Nat, n ≤ j → j < n + k → mSti T (mS T) (mRun T n) (j : Int) (mV (mClo T (mRun T n)))) → ∀ i, (0 ≤ i ∧ i < 30) ∨ i = 131 → mRun T (n + k) i = mRun T n i
  | 0, _, _, _, _ => rfl
  | k + 1, hk, h, i, hi => by
    have h5 := hT.2.2.2.2.2.1
    have a := mRun_s hT k (by omega) (fun j p q => h j p (by omega))
    have J := (mRun_I hT n (by omega)).1.1
    rw [show n + (k + 1) = (n + k) + 1 by omega, mRun_K hT (n + k) i (by omega), mClo_e hT a]
    have ke := mK_e (T := T) (S := mS T) (t := ((n + k : Nat) : Int)) (cl := mV (mClo T (mRun T n))) (E := fun _ => 0) (R := mRun T n) (R' := mRun T (n + k)) h5.2 a (T 5).toNat (by omega)
    rw [ke.1 i (by omega)]
    exact mSti_f hT J (h (n + k) (by omega) (by omega)) (T 5).toNat (by omega) i hi
theorem mGo_le {R : Int → Int} {S : Nat → Int → Int} {u cl c : Int} : (mGo T S R u cl c).1 ≤ (mGo2 T S (R c) u cl c).1 := by
  unfold mGo
  split
  · unfold mBd
    split
    · dsimp only; omega
    · exact Int.le_refl _
  · exact Int.le_refl _
/-- a section that some crossing never lets in -/
def mHop (T : Int → Int) : Prop := ∃ e x, 0 ≤ e ∧ e < mS T 0 0 ∧ 0 ≤ x ∧ x < T 4 ∧ ¬ mEvl T x (mNeed T (mS T 4 e) x)
theorem mHop_n (hT : mT T) (h : mHop T) {m : Nat} (hm : m ≤ 9000) : ¬ mRun T m 131 = T 5 := by
  obtain ⟨e, x, e0, e1, x0, x1, ne⟩ := h
  have hT' := hT
  obtain ⟨h00, h1, h2, h3, h4, h5, h6, h7, hX, hO, hL, _⟩ := hT'
  have sb := mS_b hT
  have se := sb.2.2.2 e e0 e1
  have sc := (mS_c hT).2 e e0 e1
  have xx := hX x x0 x1
  unfold mX at xx
  have key : ∀ m : Nat, m ≤ 9000 → mRun T m (mS T 2 e) ≤ T (8 + 7 * x) := by
    intro m
    induction m with
    | zero =>
      intro _
      have := mBeg_le hT (c := mS T 2 e) (by omega)
      show mBeg T (mS T 2 e) ≤ _
      omega
    | succ m ih =>
      intro hm
      have im := ih (by omega)
      have J := (mRun_I hT m (by omega)).1.1
      rw [mRun_K hT m _ (by omega)]
      have fx := mK_fix (S := mS T) (t := (m : Int)) (cl := mV (mClo T (mRun T m))) hT J (k := (mS T 2 e).toNat + 1) ((T 5).toNat - ((mS T 2 e).toNat + 1)) (by omega) (mS T 2 e) (by omega)
      rw [show (mS T 2 e).toNat + 1 + ((T 5).toNat - ((mS T 2 e).toNat + 1)) = (T 5).toNat by omega] at fx
      rw [fx]
      have r := (mK_r (S := mS T) (t := (m : Int)) (cl := mV (mClo T (mRun T m))) hT J (mS T 2 e).toNat (by omega)).1 (mS T 2 e) (by omega)
      show mCar T (mS T) m (mV (mClo T (mRun T m))) (((mS T 2 e).toNat : Nat) : Int) (mK T (mS T) m (mV (mClo T (mRun T m))) (mRun T m) (mS T 2 e).toNat) (mS T 2 e) ≤ _
      rw [show (((mS T 2 e).toNat : Nat) : Int) = mS T 2 e by omega]
      unfold mCar
      rw [r]
      split
      · rw [mSet_n (by omega), r]; exact im
      split
      · rw [mSet_n (by omega), r]; exact im
      split
      · rw [mSet_n (by omega), r]; exact im
      unfold mRw
      rw [if_neg (by omega), if_pos rfl, r]
      have g := mGo_le (T := T) (S := mS T) (R := mK T (mS T) m (mV (mClo T (mRun T m))) (mRun T m) (mS T 2 e).toNat) (u := (m : Int)) (cl := mV (mClo T (mRun T m))) (c := mS T 2 e)
      rw [r] at g
      have g2 : (mGo2 T (mS T) (mRun T m (mS T 2 e)) m (mV (mClo T (mRun T m))) (mS T 2 e)).1 ≤ T (8 + 7 * x) - mRun T m (mS T 2 e) := by
        unfold mGo2
        rw [sc.1, if_pos rfl]
        exact mC_le im (fun z => ne (mMay_ev z)) (T 4).toNat 0 _ x0 (by omega)
      omega
  intro z
  have J := (mRun_I hT m hm).1.1
  have o := (J.2.2.2 (mS T 2 e) (by omega) (by omega)).mpr (by omega)
  have := key m hm
  have := hL (mS T 2 e) (by omega) (by omega)
  omega
theorem mul_b {a b : Int} (ha : 0 ≤ a ∧ a ≤ 50) (hb : -3000 ≤ b ∧ b ≤ 3000) : -150000 ≤ a * b ∧ a * b ≤ 150000 := by
  have p := Int.mul_le_mul_of_nonneg_left hb.2 ha.1
  have q := Int.mul_le_mul_of_nonneg_left hb.1 ha.1
  omega
/-- too late for the last car -/
def mTl8 (T : Int → Int) (n : Nat) (limit : Int) : Prop := 0 < T 5 ∧ mRun T n (T 5 - 1) - T (78 + (T 5 - 1)) + T 1 * (limit - max (n : Int) (T 3)) < T 0
theorem mTl8_n (hT : mT T) {n : Nat} {limit : Int} (hl : limit ≤ 9000) (h : mTl8 T n limit) (ho : ¬ mRun T n 131 = T 5) {m : Nat} (h1 : n ≤ m) (h2 : (m : Int) ≤ limit) : ¬ mRun T m 131 = T 5 := by
  have hT' := hT
  obtain ⟨h00, hV, _, h3, h4, h5, h6, h7, hX, hO, hL, _⟩ := hT'
  obtain ⟨p, q⟩ := h
  have key : ∀ k : Nat, n + k ≤ 9000 → mRun T (n + k) (T 5 - 1) ≤ mRun T n (T 5 - 1) + T 1 * (max ((n + k : Nat) : Int) (T 3) - max (n : Int) (T 3)) := by
    intro k
    induction k with
    | zero =>
      intro _
      rw [show max ((n + 0 : Nat) : Int) (T 3) - max (n : Int) (T 3) = 0 by omega, Int.mul_zero]
      show mRun T n (T 5 - 1) ≤ _
      omega
    | succ k ih =>
      intro hk
      have i := ih (by omega)
      have J := (mRun_I hT (n + k) (by omega)).1.1
      have mm := mTk_m (S := mS T) hT J (c := T 5 - 1) (by omega)
      rw [mRun_130 hT] at mm
      have e : mRun T (n + (k + 1)) (T 5 - 1) = mTk T (mS T) (mRun T (n + k)) (T 5 - 1) := rfl
      rw [e]
      by_cases z : ((n + k : Nat) : Int) < T 3
      · rw [mm.2.2.1 z, show max ((n + (k + 1) : Nat) : Int) (T 3) = max ((n + k : Nat) : Int) (T 3) by omega]
        exact i
      · rw [show max ((n + (k + 1) : Nat) : Int) (T 3) - max (n : Int) (T 3) = (max ((n + k : Nat) : Int) (T 3) - max (n : Int) (T 3)) + 1 by omega, Int.mul_add, Int.mul_one]
        have := mm.2.1
        omega
  have km := key (m - n) (by omega)
  rw [show n + (m - n) = m by omega] at km
  have Jn := ((mRun_I hT n (by omega)).1.1.2.2)
  have Jm := ((mRun_I hT m (by omega)).1.1.2.2)
  have n1 := Jn.2 (T 5 - 1) (by omega) (by omega)
  have m1 := Jm.2 (T 5 - 1) (by omega) (by omega)
  have b1 := Jn.1
  have b2 := Jm.1
  intro z
  have tm := m1.mpr (by omega)
  by_cases c : max (n : Int) (T 3) ≤ limit
  · have := Int.mul_le_mul_of_nonneg_left (show max (m : Int) (T 3) - max (n : Int) (T 3) ≤ limit - max (n : Int) (T 3) by omega) (show 0 ≤ T 1 by omega)
    omega
  · rw [show max (m : Int) (T 3) - max (n : Int) (T 3) = 0 by omega, Int.mul_zero] at km
    have := n1.mp (by omega)
    omega
/-- the end, if it is by the limit -/
noncomputable def mEl (T : Int → Int) (limit : Int) : Int := if mEnd T ≤ limit then mEnd T else -1
theorem mEl_y {n : Nat} {limit : Int} (hl : limit ≤ 2000) (hn : (n : Int) ≤ limit) (h : ∀ m, m < n → ¬ mRun T m 131 = T 5) (he : mRun T n 131 = T 5) : mEl T limit = n := by
  have e : mLast T = n := mLast_u (by omega) h (Or.inr he)
  unfold mEl mEnd
  rw [e, if_pos he, if_pos hn]
theorem mEl_n {limit : Int} (hl : limit ≤ 2000) (h : ∀ m : Nat, (m : Int) ≤ limit → ¬ mRun T m 131 = T 5) : mEl T limit = -1 := by
  have p := mLast_p (T := T)
  unfold mEl mEnd
  by_cases e : mRun T (mLast T) 131 = T 5
  · rw [if_pos e, if_neg]
    intro z
    exact h (mLast T) z e
  · rw [if_neg e]
    split <;> rfl
theorem mNx_b {x u n : Int} (hX : mX T x) (hu : 0 ≤ u ∧ u ≤ 100000) : 0 ≤ mNx T x u n ∧ mNx T x u n ≤ 100000 := by
  unfold mX at hX
  have mm := mmod (t := u) (c := T (8 + 7 * x + 2)) (by omega)
  unfold mNx
  split
  · omega
  split
  · split <;> omega
  · omega
theorem mNe_u {f e e' : Int} (a : mNe T f e) (b : mNe T f e') : e = e' := by
  have := mNe_m a b (Int.le_refl _)
  have := mNe_m b a (Int.le_refl _)
  omega
end PU
section QU
variable {T R : Int → Int} {r t n : Nat} {limit : Int}
theorem k56 {u : Int} {Q : Int → XF → Prop} (hP : xPT F) (hd : 2 < d) (hr : xob 6 r) (ht : xob 9 t) (hT : mT T) (hw : cTw F t T) (h : cCo F r t T R) (hJ : mJ T R) (h2 : F r 2 = u) (hu : 0 ≤ u ∧ u ≤ 100000) (hW : ∀ c, 0 ≤ c → c < T 5 → inR (F (r + 8) c)) (q : ∀ N, (0 ≤ N ∧ N ≤ 2000) → (u ≤ T 3 → N = T 3) → (T 3 < u → (∀ k, 0 ≤ k → k < T 7 → u ≤ T (142 + 3 * k + 1) + T (142 + 3 * k + 2) → N ≤ T (142 + 3 * k + 1) + T (142 + 3 * k + 2)) ∧ (∀ e, 0 ≤ e → e < mS T 0 0 → ∀ x, mNe T (R (mS T 2 e)) x → R 131 ≤ mS T 2 e → F (r + 8) (mS T 2 e) = 5 → x < T 4 → N ≤ mNx T x u (mNeed T (mS T 4 e) x))) → Q N F) : xMI X d 56 [.ref r] F Q := by
  have hT' := hT
  obtain ⟨h00, hV, _, h3, h4, h5, h6, h7, hX, hO, hL, _, _, hb⟩ := hT'
  have sb := mS_b hT
  have cr := h.cars hT
  have j3 := hJ.2.2.1
  have e3 := hw.1.2.2.2.1
  have e4 := hw.1.2.2.2.2.1
  have e7 := hw.1.2.2.2.2.2.2.2
  refine m56 hP hr ⟨t, h.1, ht, ?_⟩
  rw [h2, e3]
  refine ⟨⟨by omega, by omega⟩, ⟨by omega, by omega⟩, fun st _ => ?_, fun z => ⟨t, h.1, ht, fun _ => by rw [e3]; exact q (T 3) (by omega) (fun _ => rfl) (fun w => by omega)⟩⟩
  have leads : ∀ (m : Nat) (e N : Int) (w3 w4 w5 : Value), 0 ≤ e → e + m = mS T 0 0 → (0 ≤ N ∧ N ≤ 2000) → (∀ k, 0 ≤ k → k < T 7 → u ≤ T (142 + 3 * k + 1) + T (142 + 3 * k + 2) → N ≤ T (142 + 3 * k + 1) + T (142 + 3 * k + 2)) → (∀ e', 0 ≤ e' → e' < e → ∀ x, mNe T (R (mS T 2 e')) x → R 131 ≤ mS T 2 e' → F (r + 8) (mS T 2 e') = 5 → x < T 4 → N ≤ mNx T x u (mNeed T (mS T 4 e') x)) → xW X d 56 81 [.ref r, vi N, vi e, w3, w4, w5] [] F (xqi Q) := by
    intro m
    induction m with
    | zero =>
      intro e N w3 w4 w5 he hm hN hbr hle
      exact s56_81 hP hr ⟨⟨by omega, by omega⟩, by rw [cr.1]; constructor <;> omega, fun _ _ => q N hN (fun w => by omega) (fun _ => ⟨hbr, fun e' a b => hle e' a (by omega)⟩), fun z => absurd (by rw [cr.1]; omega) z⟩
    | succ m ih =>
      intro e N w3 w4 w5 he hm hN hbr hle
      have ce := cr.2.2 e he (by omega)
      have se := sb.2.2.2 e he (by omega)
      have ne := (h.2.2.2.2.2.1 e he (by omega)).1
      have ext : ∀ N', N' ≤ N → (0 ≤ N' ∧ N' ≤ 2000) → (∀ x, mNe T (R (mS T 2 e)) x → R 131 ≤ mS T 2 e → F (r + 8) (mS T 2 e) = 5 → x < T 4 → N' ≤ mNx T x u (mNeed T (mS T 4 e) x)) → ∀ w3 w4 w5, xW X d 56 81 [.ref r, vi N', vi (e + 1), w3, w4, w5] [] F (xqi Q) := fun N' hN' hN2 hx w3 w4 w5 => by
        refine ih (e + 1) N' w3 w4 w5 (by omega) (by omega) hN2 (fun k a b c => by have := hbr k a b c; omega) fun e' a b x y z w v => ?_
        by_cases z' : e' = e
        · rw [z'] at y z w ⊢
          exact hx x y z w v
        · have := hle e' a (by omega) x y z w v
          omega
      refine s56_81 hP hr ⟨⟨by omega, by omega⟩, by rw [cr.1]; constructor <;> omega, fun z => absurd z (by rw [cr.1]; omega), fun _ => ⟨by omega, ?_⟩⟩
      rw [ce.1, h.2.2.2.2.1]
      have hWe := hW (mS T 2 e) (by omega) (by omega)
      obtain ⟨x, ex⟩ : ∃ x, x = F (r + 9) (mS T 2 e) := ⟨_, rfl⟩
      rw [← ex] at ne ⊢
      have nb := ne.1
      refine ⟨by omega, ⟨by omega, by omega⟩, ⟨by omega, by omega⟩, fun z _ => ext N (by omega) hN (fun x' a b => by omega) _ _ _, fun z => ⟨by omega, hWe, fun z1 _ => ext N (by omega) hN (fun x' a b c => absurd c z1) _ _ _, fun z1 => ⟨t, h.1, ht, ⟨by omega, by omega⟩, by rw [e4]; constructor <;> omega, fun z2 _ => ext N (by omega) hN (fun x' a b c e' => by have := mNe_u ne a; omega) _ _ _, fun z2 => ⟨2, hd, k66 hP (xtg_6_1 r hr.1 hr.2) hT h.2.2.1 (by omega) (by omega) ⟨t, h.1, ht, by omega, 2, hd, ?_⟩⟩⟩⟩⟩
      have xx := hX x (by omega) (by omega)
      have xx' := xx
      unfold mX at xx'
      have nd := mNeed_b (T := T) (e := mS T 4 e) (x := x) hV.1 ⟨by omega, by omega⟩ (by omega)
      have nx := mNx_b (n := mNeed T (mS T 4 e) x) xx hu
      rw [h2]
      refine k12 (cX_ob ht (by omega) (by omega)) xx (hw.2.1 x (by omega) (by omega)) hP (by omega) hu (by omega) ⟨⟨by omega, by omega⟩, ⟨by omega, by omega⟩, fun _ => ext (min N (mNx T x u (mNeed T (mS T 4 e) x))) (by omega) (by omega) (fun x' a b c e' => ?_) _ _ _⟩
      rw [← mNe_u ne a]
      omega
  have brs : ∀ (m : Nat) (k N : Int) (w3 w4 w5 : Value), 0 ≤ k → k + m = T 7 → (0 ≤ N ∧ N ≤ 2000) → (∀ k', 0 ≤ k' → k' < k → u ≤ T (142 + 3 * k' + 1) + T (142 + 3 * k' + 2) → N ≤ T (142 + 3 * k' + 1) + T (142 + 3 * k' + 2)) → xW X d 56 28 [.ref r, vi N, vi k, w3, w4, w5] [] F (xqi Q) := by
    intro m
    induction m with
    | zero =>
      intro k N w3 w4 w5 hk hm hN hbr
      refine s56_28 hP hr ⟨t, h.1, ht, ⟨by omega, by omega⟩, by rw [e7]; constructor <;> omega, fun _ _ => leads (mS T 0 0).toNat 0 N _ _ _ (by omega) (by omega) hN (fun k' a b => hbr k' a (by omega)) (fun e' a b => by omega), fun z => absurd (by rw [e7]; omega) z⟩
    | succ m ih =>
      intro k N w3 w4 w5 hk hm hN hbr
      have bk := hb k hk (by omega)
      have wk := hw.2.2.2.2.2 k hk (by omega)
      refine s56_28 hP hr ⟨t, h.1, ht, ⟨by omega, by omega⟩, by rw [e7]; constructor <;> omega, fun z => absurd z (by rw [e7]; omega), fun _ => ⟨t, h.1, ht, by omega, t, h.1, ht, by omega, ?_⟩⟩
      rw [wk.2.1, wk.2.2, h2]
      refine ⟨⟨by omega, by omega⟩, ⟨by omega, by omega⟩, fun z _ => ih (k + 1) N _ _ _ (by omega) (by omega) hN fun k' a b c => ?_, fun z => ⟨⟨by omega, by omega⟩, ⟨by omega, by omega⟩, fun _ => ih (k + 1) _ _ _ _ (by omega) (by omega) (by omega) fun k' a b c => ?_⟩⟩
      · by_cases y : k' = k
        · rw [y] at c; omega
        · exact hbr k' a (by omega) c
      · by_cases y : k' = k
        · rw [y]; omega
        · have := hbr k' a (by omega) c
          omega
  exact brs (T 7).toNat 0 2000 _ _ _ (by omega) (by omega) (by omega) fun k' a b => by omega
end QU
end CL10
