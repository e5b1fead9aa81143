section REF13
variable {X : List Int32} {d : Nat} {F : XF}
/-- in how many of the first n ticks a car's why is w -/
noncomputable def mHw (T : Int → Int) (c w : Int) : Nat → Int
  | 0 => 0
  | n + 1 => mHw T c w n + (if mRun T (n + 1) (30 + c) = w then 1 else 0)
noncomputable def aHeld (T : Int → Int) (c w : Int) : Int := if (0 ≤ c ∧ c < T 5) ∧ (0 ≤ w ∧ w ≤ 6) then mHw T c w (mLast T) else -2
/-- whys are in their bounds -/
theorem mCar_w {T : Int → Int} {S : Nat → Int → Int} {t cl c : Int} {R : Int → Int} (hT : mT T) (hJ : mJ T R) (hc : 0 ≤ c ∧ c < T 5) (h : ∀ i, 0 ≤ i → i < T 5 → -1 ≤ R (30 + i) ∧ R (30 + i) ≤ 6) : (∀ i, 0 ≤ i → i < T 5 → -1 ≤ mCar T S t cl c R (30 + i) ∧ mCar T S t cl c R (30 + i) ≤ 6) ∧ 0 ≤ mCar T S t cl c R (30 + c) := by
  have h5 := hT.2.2.2.2.2.1
  have g := mGo_c (S := S) (t := t) (cl := cl) hT (hJ.ch hc.2)
  unfold mAc at g
  have key : ∀ v, 0 ≤ v → v ≤ 6 → (∀ i, 0 ≤ i → i < T 5 → -1 ≤ mSet R (30 + c) v (30 + i) ∧ mSet R (30 + c) v (30 + i) ≤ 6) ∧ 0 ≤ mSet R (30 + c) v (30 + c) := fun v a b => by
    refine ⟨fun i p q => ?_, by rw [mSet_s]; exact a⟩
    by_cases e : i = c
    · rw [e, mSet_s]; omega
    · rw [mSet_n (by omega)]; exact h i p q
  unfold mCar
  split
  · exact key 0 (by omega) (by omega)
  split
  · exact key 1 (by omega) (by omega)
  split
  · exact key 2 (by omega) (by omega)
  unfold mRw
  refine ⟨fun i p q => ?_, ?_⟩
  · by_cases e : i = c
    · rw [if_neg (by omega), if_neg (by omega), if_pos (by omega)]; omega
    · rw [if_neg (by omega), if_neg (by omega), if_neg (by omega)]; exact h i p q
  · rw [if_neg (by omega), if_neg (by omega), if_pos rfl]; omega
theorem mRun_w {T : Int → Int} (hT : mT T) : ∀ n : Nat, n ≤ 9000 → ∀ i, 0 ≤ i → i < T 5 → -1 ≤ mRun T n (30 + i) ∧ mRun T n (30 + i) ≤ 6
  | 0, _ => fun i a b => by
    have h5 := hT.2.2.2.2.2.1
    show -1 ≤ mBeg T (30 + i) ∧ mBeg T (30 + i) ≤ 6
    unfold mBeg mBg
    rw [if_neg (by omega), if_pos (by omega)]
    omega
  | n + 1, hn => fun i a b => by
    have h4 := hT.2.2.2.2.1
    have h5 := hT.2.2.2.2.2.1
    have ih := mRun_w hT n (by omega)
    have hJ := mJ_sts (S := mS T) (n := T 4) (t := mRun T n 130) hT (mRun_I hT n (by omega)).1.1 h4.2
    have : ∀ k : Nat, (k : Int) ≤ T 5 → ∀ i, 0 ≤ i → i < T 5 → -1 ≤ mK T (mS T) (mRun T n 130) (mV (mClo T (mRun T n))) (mSts T (mS T) (T 4) (mRun T n 130) (mRun T n)) k (30 + i) ∧ mK T (mS T) (mRun T n 130) (mV (mClo T (mRun T n))) (mSts T (mS T) (T 4) (mRun T n 130) (mRun T n)) k (30 + i) ≤ 6 := by
      intro k
      induction k with
      | zero =>
        intro _ i a b
        show -1 ≤ mSts T (mS T) (T 4) (mRun T n 130) (mRun T n) (30 + i) ∧ mSts T (mS T) (T 4) (mRun T n 130) (mRun T n) (30 + i) ≤ 6
        rw [mSts_f h4.2 (by omega)]
        exact ih i a b
      | succ k ih2 =>
        intro hk
        exact (mCar_w hT (mK_J hT hJ k (by omega)) (by omega) (ih2 (by omega))).1
    show -1 ≤ mTk T (mS T) (mRun T n) (30 + i) ∧ mTk T (mS T) (mRun T n) (30 + i) ≤ 6
    rw [mTk_f hT (by omega)]
    exact this _ (by omega) i a b
theorem mHw_b {T : Int → Int} {c w : Int} : ∀ n, 0 ≤ mHw T c w n ∧ mHw T c w n ≤ n
  | 0 => by unfold mHw; omega
  | n + 1 => by
    have := mHw_b (T := T) (c := c) (w := w) n
    unfold mHw
    split <;> omega
theorem l213 {c w : Int} {Q : Int → XF → Prop} (hd : 7 < d) (F0 : XF) (hT : mT (F0 132)) (hc : 0 ≤ c ∧ c < F0 132 5) (hw : 0 ≤ w ∧ w ≤ 6) (q : ∀ G, xPT G → mKp 132 F0 G → mSA (F0 132 5).toNat G → Q (mHw (F0 132) c w (mLast (F0 132))) G) : ∀ (f n : Nat) (F : XF), xPT F → n + f = 2000 → mKp 132 F0 F → mSA (F0 132 5).toNat F → mRow F 132 = mRun (F0 132) n → (∀ m, m < n → ¬ mRun (F0 132) m 131 = F0 132 5) → xW X d 213 37 [.ref 131, vi c, vi w, vi (mHw (F0 132) c w n)] [] F (xqi Q) := by
  have h5 := hT.2.2.2.2.2.1
  intro f
  induction f with
  | zero =>
    intro n F hP hf hF hS hrow hno
    have e := hF.t
    have eu := mLast_u (T := F0 132) (n := n) (by omega) hno (Or.inl (by omega))
    rw [eu] at q
    exact s213_37 hP ⟨7, hd, p196 (n := n) hP (by omega) (by rw [e]; exact hT) (by rw [e]; exact hS) (by omega) (by rw [e]; exact hrow) (fun _ => ⟨⟨by omega, by omega⟩, fun _ _ => q F hP hF hS, fun c => absurd rfl c⟩) (fun _ h => absurd h (by omega))⟩
  | succ f ih =>
    intro n F hP hf hF hS hrow hno
    have e := hF.t
    refine s213_37 hP ⟨7, hd, p196 (n := n) hP (by omega) (by rw [e]; exact hT) (by rw [e]; exact hS) (by omega) (by rw [e]; exact hrow) (fun h => ⟨⟨by omega, by omega⟩, fun _ _ => ?_, fun c => absurd rfl c⟩) (fun h1 _ G hG k1 s1 r1 => ⟨⟨by omega, by omega⟩, fun c => absurd c (by decide), fun _ => ⟨⟨by omega, by omega⟩, ?_⟩⟩)⟩
    · rw [e] at h
      have eu := mLast_u (T := F0 132) (n := n) (by omega) hno h.symm
      rw [eu] at q
      exact q F hP hF hS
    · rw [e] at h1 s1 r1
      have nx := ih (n + 1) G hG (by omega) (hF.trans k1.p) s1 r1 (fun m hm => by
        by_cases hq : m = n
        · rw [hq]; exact h1
        · exact hno m (by omega))
      have ev : G 140 (162 + c) = mRun (F0 132) (n + 1) (30 + c) := by
        rw [← r1, mRow_at (by omega)]; congr 1; omega
      have wb := mRun_w hT (n + 1) (by omega) c hc.1 hc.2
      rw [ev]
      rw [show mHw (F0 132) c w (n + 1) = mHw (F0 132) c w n + (if mRun (F0 132) (n + 1) (30 + c) = w then 1 else 0) from rfl] at nx
      refine ⟨⟨by omega, by omega⟩, ⟨by omega, by omega⟩, fun c1 _ => ?_, fun c1 _ => ?_⟩
      · rw [if_neg c1] at nx; exact nx
      · rw [if_pos (by omega)] at nx; exact nx
theorem p213 {c w : Int} {Q : Int → XF → Prop} (hP : xPT F) (hd : 9 < d) (hT : mT (F 132)) (hS : mSA (F 132 5).toNat F) (hc : inR c) (hw : inR w) (q : mQ F Q (aHeld (F 132) c w)) : xMI X d 213 [.ref 131, vi c, vi w] F Q := by
  have h5 := hT.2.2.2.2.2.1
  unfold aHeld at q
  refine m213 hP ⟨8, by omega, p155 (h0P hP) (by omega) hc (by rw [h0t]; exact h5) fun y hy => ⟨hy.r, fun c1 hG => ?_, fun c1 => ⟨hw, 8, by omega, p132 (h0P hP) ⟨⟨by omega, by omega⟩, ⟨by omega, by omega⟩, ⟨by omega, by omega⟩⟩ fun y2 hy2 => ⟨hy2.r, fun c2 => ?_, fun c2 hG => ?_⟩⟩⟩⟩
  · have g1 := hy.f c1
    rw [h0t] at g1
    rw [if_neg (fun h => g1 h.1)] at q
    exact q.z hS hG
  · have g1 := hy.t c1
    rw [h0t] at g1
    rw [if_pos ⟨g1, hy2.t c2⟩] at q
    refine ⟨8, by omega, p170 (h0P hP) (by omega) (by rw [h0t]; exact hT) (by omega) fun G hG k1 s1 r1 _ _ => ?_⟩
    exact l213 (by omega) (xup F 131 0 0) (by rw [h0t]; exact hT) (by rw [h0t]; exact g1) (hy2.t c2) (fun G hG k s => by rw [h0t]; exact q.p hG k (by rw [h0t] at s; exact s)) 2000 0 G hG (by omega) k1 s1 (mBeg_row (by rw [h0t]; exact hT) r1) (fun m h => absurd h (by omega))
  · rw [if_neg (fun h => hy2.f (by omega) h.2)] at q
    exact q.z hS hG
/-- of a crossing: the most ticks side by side in which it is held, and those now, ahead of tick n -/
noncomputable def mLg (T : Int → Int) (x : Int) : Nat → Int × Int
  | 0 => (0, 0)
  | n + 1 => (max (mLg T x n).1 (if mV (mHeld T (mS T) (mRun T n) x) = 1 then (mLg T x n).2 + 1 else 0), if mV (mHeld T (mS T) (mRun T n) x) = 1 then (mLg T x n).2 + 1 else 0)
noncomputable def aLongest (T : Int → Int) (x : Int) : Int := if 0 ≤ x ∧ x < T 4 then (mLg T x (mLast T)).1 else -2
theorem mLg_b {T : Int → Int} {x : Int} : ∀ n : Nat, 0 ≤ (mLg T x n).1 ∧ (mLg T x n).1 ≤ n ∧ 0 ≤ (mLg T x n).2 ∧ (mLg T x n).2 ≤ n
  | 0 => by unfold mLg; dsimp only; omega
  | n + 1 => by
    have := mLg_b (T := T) (x := x) n
    unfold mLg
    dsimp only
    split <;> omega
theorem p185 {x : Int} {Q : Int → XF → Prop} (hP : xPT F) (hd : 0 < d) (hx : inR x) (h4 : 0 ≤ F 132 4 ∧ F 132 4 ≤ 10) (q : ∀ y, mB y (0 ≤ x ∧ x < F 132 4) → Q y F) : xMI X d 185 [.ref 131, vi x] F Q := by
  exact m185 hP ⟨hx, ⟨by omega, by omega⟩, 0, hd, p132 hP ⟨⟨by omega, by omega⟩, ⟨by omega, by omega⟩, ⟨by omega, by omega⟩⟩ fun y h => ⟨h.z, fun _ => q y (by unfold mB at *; omega)⟩⟩
/-- the crossing's holder, at a run aside -/
theorem p173a {x : Int} {n : Nat} {Q : Int → XF → Prop} (hP : xPT F) (hd : 0 < d) (hT : mT (F 132)) (hS : mSA (F 132 5).toNat F) (hn : n ≤ 2000) (hrow : mRow F 132 = mRun (F 132) n) (hx : 0 ≤ x ∧ x < F 132 4) (q : ∀ y, inR y → mV (¬ y = -1) = mV (mHeld (F 132) (mS (F 132)) (mRun (F 132) n) x) → Q y F) : xMI X d 173 [.ref 131, vi 132, vi x] F Q := by
  have h5 := hT.2.2.2.2.2.1
  have hSb := hS.b hT (by omega)
  have ee : ∀ i, 0 ≤ i → i < 132 → (fun i => F 140 (132 + i)) i = mRun (F 132) n i := fun i a b => by rw [← hrow, mRow_at ⟨a, b⟩]
  refine p173 hP hd hT hSb (by omega) hx ?_ fun y hy => q y ?_ ?_
  · intro c a b
    rw [ee c a (by omega)]
    exact (mRun_I hT n (by omega)).1.1.fr hT c a b
  · rcases hy with ⟨h, _⟩ | ⟨h1, h2, _⟩
    · constructor <;> omega
    · have := hSb.1
      constructor <;> omega
  · refine ((mFst_h hy).v).trans ?_
    rw [← mHeld_c (T := F 132) (x := x) (mL_30 hT) ee]
    congr 1
    apply propext
    unfold mHeld
    rw [hS.1]
    constructor
    · rintro ⟨s, a, b, c⟩
      have s3 := hS.2.2 s a b
      rw [s3.1, s3.2.1] at c
      exact ⟨s, a, b, c⟩
    · rintro ⟨s, a, b, c⟩
      have s3 := hS.2.2 s a b
      refine ⟨s, a, b, ?_⟩
      rw [s3.1, s3.2.1]
      exact c
theorem l215 {x : Int} {Q : Int → XF → Prop} (hd : 7 < d) (F0 : XF) (hT : mT (F0 132)) (hx : 0 ≤ x ∧ x < F0 132 4) (q : ∀ G, xPT G → mKp 132 F0 G → mSA (F0 132 5).toNat G → Q (mLg (F0 132) x (mLast (F0 132))).1 G) : ∀ (f n : Nat) (F : XF), xPT F → n + f = 2000 → mKp 132 F0 F → mSA (F0 132 5).toNat F → mRow F 132 = mRun (F0 132) n → (∀ m, m < n → ¬ mRun (F0 132) m 131 = F0 132 5) → xW X d 215 30 [.ref 131, vi x, vi (mLg (F0 132) x n).1, vi (mLg (F0 132) x n).2, vi 1] [] F (xqi Q) := by
  have h5 := hT.2.2.2.2.2.1
  have stop : ∀ (n : Nat) (F : XF) (u : Int), xPT F → n ≤ 2000 → mKp 132 F0 F → mSA (F0 132 5).toNat F → (∀ m, m < n → ¬ mRun (F0 132) m 131 = F0 132 5) → (mRun (F0 132) n 131 = F0 132 5 ∨ n = 2000) → xW X d 215 30 [.ref 131, vi x, vi (mLg (F0 132) x n).1, vi u, vi 0] [] F (xqi Q) := by
    intro n F u hP hn hF hS hno hh
    have eu := mLast_u (T := F0 132) (n := n) hn hno hh.symm
    rw [eu] at q
    exact s215_30 hP ⟨⟨by omega, by omega⟩, fun _ _ => q F hP hF hS, fun c => absurd rfl c⟩
  intro f
  induction f with
  | zero =>
    intro n F hP hf hF hS hrow hno
    have e := hF.t
    refine s215_30 hP ⟨⟨by omega, by omega⟩, fun c => absurd c (by decide), fun _ => ⟨7, hd, p173a (n := n) hP (by omega) (by rw [e]; exact hT) (by rw [e]; exact hS) (by omega) (by rw [e]; exact hrow) (by rw [e]; exact hx) fun y hy hv => ⟨hy, fun c1 => ⟨7, hd, p196 (n := n) hP (by omega) (by rw [e]; exact hT) (by rw [e]; exact hS) (by omega) (by rw [e]; exact hrow) (fun h => ⟨⟨by omega, by omega⟩, fun _ _ => stop n F _ hP (by omega) hF hS hno (Or.inr (by omega)), fun c => absurd rfl c⟩) (fun _ h => absurd h (by omega))⟩, fun c1 => ⟨7, hd, p196 (n := n) hP (by omega) (by rw [e]; exact hT) (by rw [e]; exact hS) (by omega) (by rw [e]; exact hrow) (fun h => ⟨⟨by omega, by omega⟩, fun _ _ => stop n F _ hP (by omega) hF hS hno (Or.inr (by omega)), fun c => absurd rfl c⟩) (fun _ h => absurd h (by omega))⟩⟩⟩⟩
  | succ f ih =>
    intro n F hP hf hF hS hrow hno
    have e := hF.t
    have b := mLg_b (T := F0 132) (x := x) n
    refine s215_30 hP ⟨⟨by omega, by omega⟩, fun c => absurd c (by decide), fun _ => ⟨7, hd, p173a (n := n) hP (by omega) (by rw [e]; exact hT) (by rw [e]; exact hS) (by omega) (by rw [e]; exact hrow) (by rw [e]; exact hx) fun y hy hv => ?_⟩⟩
    rw [e] at hv
    have nx : ∀ G, xPT G → mKt 132 F G → mSA (F0 132 5).toNat G → mRow G 132 = mRun (F0 132) (n + 1) → ¬ mRun (F0 132) n 131 = F0 132 5 → ∀ a : Int × Int, a = mLg (F0 132) x (n + 1) → xW X d 215 30 [.ref 131, vi x, vi a.1, vi a.2, vi 1] [] G (xqi Q) := fun G hG k1 s1 r1 h1 a ha => by
      subst ha
      refine ih (n + 1) G hG (by omega) (hF.trans k1.p) s1 r1 fun m hm => ?_
      by_cases hq : m = n
      · rw [hq]; exact h1
      · exact hno m (by omega)
    refine ⟨hy, fun c1 => ⟨7, hd, p196 (n := n) hP (by omega) (by rw [e]; exact hT) (by rw [e]; exact hS) (by omega) (by rw [e]; exact hrow) (fun h => ⟨⟨by omega, by omega⟩, fun _ _ => stop n F _ hP (by omega) hF hS hno (by rw [e] at h; exact h), fun c => absurd rfl c⟩) (fun h1 _ G hG k1 s1 r1 => ⟨⟨by omega, by omega⟩, fun c => absurd c (by decide), fun _ => ⟨⟨by omega, by omega⟩, ⟨by omega, by omega⟩, fun c2 _ => ?_, fun c2 _ => ?_⟩⟩)⟩, fun c1 => ⟨7, hd, p196 (n := n) hP (by omega) (by rw [e]; exact hT) (by rw [e]; exact hS) (by omega) (by rw [e]; exact hrow) (fun h => ⟨⟨by omega, by omega⟩, fun _ _ => stop n F _ hP (by omega) hF hS hno (by rw [e] at h; exact h), fun c => absurd rfl c⟩) (fun h1 _ G hG k1 s1 r1 => ⟨⟨by omega, by omega⟩, fun c => absurd c (by decide), fun _ => ⟨⟨by omega, by omega⟩, fun c2 _ => ?_, fun c2 => absurd b.1 c2⟩⟩)⟩⟩
    · rw [e] at h1 s1 r1
      rw [mV_t c1] at hv
      refine nx G hG k1 s1 r1 h1 ((mLg (F0 132) x n).1, (mLg (F0 132) x n).2 + 1) ?_
      show _ = (max (mLg (F0 132) x n).1 _, _)
      rw [if_pos hv.symm, Int.max_eq_left c2]
    · rw [e] at h1 s1 r1
      rw [mV_t c1] at hv
      refine nx G hG k1 s1 r1 h1 (_, _) ?_
      show _ = (max (mLg (F0 132) x n).1 _, _)
      rw [if_pos hv.symm, Int.max_eq_right (by omega)]
    · rw [e] at h1 s1 r1
      rw [mV_f c1] at hv
      refine nx G hG k1 s1 r1 h1 ((mLg (F0 132) x n).1, 0) ?_
      show _ = (max (mLg (F0 132) x n).1 _, _)
      rw [if_neg (by omega), Int.max_eq_left c2]
theorem p215 {x : Int} {Q : Int → XF → Prop} (hP : xPT F) (hd : 9 < d) (hT : mT (F 132)) (hS : mSA (F 132 5).toNat F) (hx : inR x) (q : mQ F Q (aLongest (F 132) x)) : xMI X d 215 [.ref 131, vi x] F Q := by
  have h4 := hT.2.2.2.2.1
  unfold aLongest at q
  refine m215 hP ⟨8, by omega, p185 (h0P hP) (by omega) hx (by rw [h0t]; exact h4) fun y hy => ⟨hy.r, fun c1 => ?_, fun c1 hG => ?_⟩⟩
  · have g1 := hy.t c1
    rw [h0t] at g1
    rw [if_pos g1] at q
    refine ⟨8, by omega, p170 (h0P hP) (by omega) (by rw [h0t]; exact hT) (by omega) fun G hG k1 s1 r1 _ _ => ?_⟩
    exact l215 (by omega) (xup F 131 0 0) (by rw [h0t]; exact hT) (by rw [h0t]; exact g1) (fun G hG k s => by rw [h0t]; exact q.p hG k (by rw [h0t] at s; exact s)) 2000 0 G hG (by omega) k1 s1 (mBeg_row (by rw [h0t]; exact hT) r1) (fun m h => absurd h (by omega))
  · have g1 := hy.f (by omega)
    rw [h0t] at g1
    rw [if_neg g1] at q
    exact q.z hS hG
end REF13
