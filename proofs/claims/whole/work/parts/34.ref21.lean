section REF21
variable {X : List Int32} {d : Nat} {F : XF}
/-! the marshals: a way from i to the first j that can be had; others may go elsewhere for it -/
noncomputable def mFL (rc : Int → Int → Prop) (i : Int) (rec : Int → (Int → Int) → (Int → Int) → Int × (Int → Int) × (Int → Int)) : Nat → Int → (Int → Int) → (Int → Int) → Int × (Int → Int) × (Int → Int)
  | 0, _, a, f => (0, a, f)
  | n + 1, j, a, f =>
    if mV (rc i j) = 1 ∧ a j = 0 then
      (if f j = -1 then (1, mSet a j 1, mSet f j i)
       else if (rec (f j) (mSet a j 1) f).1 = 1 then (1, (rec (f j) (mSet a j 1) f).2.1, mSet (rec (f j) (mSet a j 1) f).2.2 j i)
       else mFL rc i rec n (j + 1) (rec (f j) (mSet a j 1) f).2.1 (rec (f j) (mSet a j 1) f).2.2)
    else mFL rc i rec n (j + 1) a f
noncomputable def mFn (rc : Int → Int → Prop) (N : Nat) : Nat → Int → (Int → Int) → (Int → Int) → Int × (Int → Int) × (Int → Int)
  | 0, _, a, f => (0, a, f)
  | D + 1, i, a, f => mFL rc i (mFn rc N D) N 0 a f
/-- the crossings to come are held ones -/
def mFk (H : Int → Prop) (N : Int) (f : Int → Int) : Prop := ∀ j, 0 ≤ j → j < N → f j = -1 ∨ (0 ≤ f j ∧ f j < N ∧ H (f j))
theorem mFL_p {rc : Int → Int → Prop} {i : Int} {rec : Int → (Int → Int) → (Int → Int) → Int × (Int → Int) × (Int → Int)} {H : Int → Prop} {N : Int} (hi : 0 ≤ i ∧ i < N ∧ H i) (hrec : ∀ i a f, (0 ≤ i ∧ i < N ∧ H i) → mFk H N f → ((rec i a f).1 = 0 ∨ (rec i a f).1 = 1) ∧ mFk H N (rec i a f).2.2 ∧ (∀ j, (rec i a f).2.1 j = 0 → a j = 0)) : ∀ (n : Nat) (j : Int) (a f : Int → Int), 0 ≤ j → j + n ≤ N → mFk H N f → ((mFL rc i rec n j a f).1 = 0 ∨ (mFL rc i rec n j a f).1 = 1) ∧ mFk H N (mFL rc i rec n j a f).2.2 ∧ (∀ k, (mFL rc i rec n j a f).2.1 k = 0 → a k = 0)
  | 0, j, a, f, _, _, hf => ⟨Or.inl rfl, hf, fun k h => h⟩
  | n + 1, j, a, f, h0, h1, hf => by
    have set : ∀ g, mFk H N g → mFk H N (mSet g j i) := fun g hg k p q => by
      by_cases hk : k = j
      · rw [hk, mSet_s]; exact Or.inr hi
      · rw [mSet_n hk]; exact hg k p q
    have aset : ∀ k, mSet a j 1 k = 0 → a k = 0 := fun k h => by
      by_cases hk : k = j
      · rw [hk, mSet_s] at h; omega
      · rw [mSet_n hk] at h; exact h
    unfold mFL
    by_cases q1 : mV (rc i j) = 1 ∧ a j = 0
    · rw [if_pos q1]
      by_cases q2 : f j = -1
      · rw [if_pos q2]
        exact ⟨Or.inr rfl, set f hf, aset⟩
      · rw [if_neg q2]
        have fj := hf j h0 (by omega)
        have r := hrec (f j) (mSet a j 1) f (by rcases fj with h | h; exact absurd h q2; exact h) hf
        by_cases q3 : (rec (f j) (mSet a j 1) f).1 = 1
        · rw [if_pos q3]
          exact ⟨Or.inr rfl, set _ r.2.1, fun k h => aset k (r.2.2 k h)⟩
        · rw [if_neg q3]
          have := mFL_p (rc := rc) hi hrec n (j + 1) (rec (f j) (mSet a j 1) f).2.1 (rec (f j) (mSet a j 1) f).2.2 (by omega) (by omega) r.2.1
          exact ⟨this.1, this.2.1, fun k h => aset k (r.2.2 k (this.2.2 k h))⟩
    · rw [if_neg q1]
      exact mFL_p hi hrec n (j + 1) a f (by omega) (by omega) hf
theorem mFn_p {rc : Int → Int → Prop} {N : Nat} {H : Int → Prop} : ∀ (D : Nat) (i : Int) (a f : Int → Int), (0 ≤ i ∧ i < N ∧ H i) → mFk H N f → ((mFn rc N D i a f).1 = 0 ∨ (mFn rc N D i a f).1 = 1) ∧ mFk H N (mFn rc N D i a f).2.2 ∧ (∀ j, (mFn rc N D i a f).2.1 j = 0 → a j = 0)
  | 0, i, a, f, _, hf => ⟨Or.inl rfl, hf, fun k h => h⟩
  | D + 1, i, a, f, hi, hf => mFL_p hi (fun i a f h1 h2 => mFn_p D i a f h1 h2) N 0 a f (by omega) (by omega) hf
/-- how many aren't asked -/
def mCt (a : Int → Int) : Nat → Nat
  | 0 => 0
  | k + 1 => mCt a k + (if a k = 0 then 1 else 0)
theorem mCt_le {a b : Int → Int} (h : ∀ j, b j = 0 → a j = 0) : ∀ k, mCt b k ≤ mCt a k
  | 0 => Nat.le_refl _
  | k + 1 => by
    have := mCt_le h k
    unfold mCt
    by_cases q : b k = 0
    · rw [if_pos q, if_pos (h _ q)]; omega
    · rw [if_neg q]; omega
theorem mCt_set {a : Int → Int} {j : Int} (h0 : 0 ≤ j) (h : a j = 0) : ∀ k : Nat, j < k → mCt (mSet a j 1) k + 1 ≤ mCt a k
  | 0, hk => by omega
  | k + 1, hk => by
    unfold mCt
    by_cases q : (k : Int) = j
    · have := mCt_le (a := a) (b := mSet a j 1) (fun i hi => by
        by_cases e : i = j
        · rw [e, mSet_s] at hi; omega
        · rw [mSet_n e] at hi; exact hi) k
      rw [q, mSet_s, if_neg (by decide), if_pos h]; omega
    · have := mCt_set h0 h k (by omega)
      rw [mSet_n q]; omega
/-- first and last tick in which a crossing is held, of those ahead of tick n -/
noncomputable def mFi (T : Int → Int) (x : Int) : Nat → Int × Int
  | 0 => (-1, -1)
  | n + 1 => if mV (mHeld T (mS T) (mRun T n) x) = 1 then ((if (mFi T x n).1 = -1 then (n : Int) else (mFi T x n).1), (n : Int)) else mFi T x n
theorem mFi_b {T : Int → Int} {x : Int} : ∀ n : Nat, -1 ≤ (mFi T x n).1 ∧ (mFi T x n).1 ≤ (mFi T x n).2 ∧ (mFi T x n).2 < n ∧ (¬ (mFi T x n).1 = -1 → 0 ≤ (mFi T x n).1 ∧ 0 ≤ (mFi T x n).2)
  | 0 => by unfold mFi; dsimp only; omega
  | n + 1 => by
    have := mFi_b (T := T) (x := x) n
    unfold mFi
    split
    · dsimp only
      split <;> omega
    · omega
noncomputable def mRc (T : Int → Int) (sp i j : Int) : Prop := ¬ (mFi T j (mLast T)).1 = -1 ∧ (if T (8 + 7 * j) < T (8 + 7 * i) then T (8 + 7 * i) - T (8 + 7 * j) else T (8 + 7 * j) - T (8 + 7 * i)) ≤ ((mFi T j (mLast T)).1 - (mFi T i (mLast T)).2 - 1) * sp
def mHd (T : Int → Int) (x : Int) : Prop := ¬ (mFi T x (mLast T)).1 = -1
noncomputable def mMs (T : Int → Int) (sp : Int) : Nat → Int × (Int → Int)
  | 0 => (0, fun _ => -1)
  | x + 1 => if (mFi T x (mLast T)).1 = -1 then mMs T sp x else ((mMs T sp x).1 + (1 - (mFn (mRc T sp) (T 4).toNat 11 x (fun _ => 0) (mMs T sp x).2).1), (mFn (mRc T sp) (T 4).toNat 11 x (fun _ => 0) (mMs T sp x).2).2.2)
noncomputable def aMarshals (T : Int → Int) (sp : Int) : Int := if 1 ≤ sp ∧ sp ≤ 50 then (mMs T sp (T 4).toNat).1 else -3
theorem mMs_p {T : Int → Int} {sp : Int} (hT : mT T) : ∀ x : Nat, (x : Int) ≤ T 4 → 0 ≤ (mMs T sp x).1 ∧ (mMs T sp x).1 ≤ x ∧ mFk (mHd T) (T 4) (mMs T sp x).2
  | 0, _ => ⟨by unfold mMs; dsimp only; omega, by unfold mMs; dsimp only; omega, fun j _ _ => Or.inl rfl⟩
  | x + 1, hx => by
    have h4 := hT.2.2.2.2.1
    obtain ⟨a, b, c⟩ := mMs_p (sp := sp) hT x (by omega)
    have e : (((T 4).toNat : Nat) : Int) = T 4 := by omega
    unfold mMs
    by_cases q : (mFi T x (mLast T)).1 = -1
    · rw [if_pos q]
      exact ⟨a, by omega, c⟩
    · rw [if_neg q]
      have r := mFn_p (rc := mRc T sp) (N := (T 4).toNat) (H := mHd T) 11 x (fun _ => 0) (mMs T sp x).2 ⟨by omega, by omega, q⟩ (by rw [e]; exact c)
      rw [e] at r
      exact ⟨by dsimp only; omega, by dsimp only; omega, r.2.1⟩
/-- asked, after: as the reference has them -/
def mMk (F : XF) (N : Int) (a f : Int → Int) : Prop := (∀ j, 0 ≤ j → j < N → a j = (if mbit (F 131 27) j.toNat then 1 else 0)) ∧ (∀ j, 0 ≤ j → j < N → F 145 j = f j)
def mKm (F G : XF) : Prop := ∀ p i, ¬ p = 145 → ¬ (p = 131 ∧ i = 27) → G p i = F p i
theorem mKm.trans {F G H : XF} (a : mKm F G) (b : mKm G H) : mKm F H := fun p i h1 h2 => (b p i h1 h2).trans (a p i h1 h2)
section FIND
variable (F0 : XF) (T : Int → Int) (sp : Int) (hT : mT T) (hsp : 1 ≤ sp ∧ sp ≤ 50) (e0 : F0 132 = T) (e3 : ∀ j, 0 ≤ j → j < T 4 → F0 143 j = (mFi T j (mLast T)).1) (e4 : ∀ j, 0 ≤ j → j < T 4 → mHd T j → F0 144 j = (mFi T j (mLast T)).2)
theorem l216 (D : Nat) (hd : D < d) (hrec : ∀ {Q : Int → XF → Prop} (i : Int) (a f : Int → Int) (F : XF) (j1 : Nat), D ≤ j1 → xPT F → mKm F0 F → (0 ≤ i ∧ i < T 4 ∧ mHd T i) → mFk (mHd T) (T 4) f → mMk F (T 4) a f → mCt a (T 4).toNat < D → (∀ G, xPT G → mKm F0 G → mMk G (T 4) (mFn (mRc T sp) (T 4).toNat D i a f).2.1 (mFn (mRc T sp) (T 4).toNat D i a f).2.2 → Q (mFn (mRc T sp) (T 4).toNat D i a f).1 G) → xMI X j1 216 [.ref 131, vi i, vi sp] F Q) {i : Int} (hi : 0 ≤ i ∧ i < T 4 ∧ mHd T i) {Q : Int → XF → Prop} (r : Int × (Int → Int) × (Int → Int)) (q : ∀ G, xPT G → mKm F0 G → mMk G (T 4) r.2.1 r.2.2 → Q r.1 G) (hT : mT T) (hsp : 1 ≤ sp ∧ sp ≤ 50) (e0 : F0 132 = T) (e3 : ∀ j, 0 ≤ j → j < T 4 → F0 143 j = (mFi T j (mLast T)).1) (e4 : ∀ j, 0 ≤ j → j < T 4 → mHd T j → F0 144 j = (mFi T j (mLast T)).2) : ∀ (n : Nat) (j : Int) (a f : Int → Int) (F : XF) (w : Value), xPT F → 0 ≤ j → j + n = T 4 → mKm F0 F → mFk (mHd T) (T 4) f → mMk F (T 4) a f → mCt a (T 4).toNat < D + 1 → mFL (mRc T sp) i (mFn (mRc T sp) (T 4).toNat D) n j a f = r → xW X d 216 2 [.ref 131, vi i, vi sp, vi j, w] [] F (xqi Q) := by
  have hT' := hT
  obtain ⟨h0, _, _, _, h4, _, _, _, hX, _⟩ := hT'
  have eN : (((T 4).toNat : Nat) : Int) = T 4 := by omega
  intro n
  induction n with
  | zero =>
    intro j a f F w hP h0 hj hK hf hM hc hr
    have e : F 132 = T := (funext fun i => hK 132 i (by decide) (by omega)).trans e0
    unfold mFL at hr
    subst hr
    exact s216_2 hP ⟨⟨by omega, by omega⟩, by rw [e]; constructor <;> omega, fun _ _ => q F hP hK hM, fun c => absurd (by rw [e]; omega) c⟩
  | succ n ih =>
    intro j a f F w hP h0' hj hK hf hM hc hr
    have e : F 132 = T := (funext fun i => hK 132 i (by decide) (by omega)).trans e0
    have g3 : ∀ j, 0 ≤ j → j < T 4 → F 143 j = (mFi T j (mLast T)).1 := fun j a b => by rw [hK 143 j (by decide) (by omega)]; exact e3 j a b
    have g4 : ∀ j, 0 ≤ j → j < T 4 → mHd T j → F 144 j = (mFi T j (mLast T)).2 := fun j a b c => by rw [hK 144 j (by decide) (by omega)]; exact e4 j a b c
    have b3 := mFi_b (T := T) (x := j) (mLast T)
    have bi := mFi_b (T := T) (x := i) (mLast T)
    have ml := (mLast_p (T := T)).1
    have bi' := bi.2.2.2 hi.2.2
    have hXi := hX i hi.1 hi.2.1
    have hXj := hX j h0' (by omega)
    unfold mX at hXi hXj
    have aj := hM.1 j h0' (by omega)
    have fj := hM.2 j h0' (by omega)
    have fb := hf j h0' (by omega)
    have ra := xbit' (v := F 131 27) (k := j) h0' (by omega)
    unfold mFL at hr
    -- not to be had: on
    have on : ¬ (mV (mRc T sp i j) = 1 ∧ a j = 0) → ∀ w, xW X d 216 2 [.ref 131, vi i, vi sp, vi (j + 1), w] [] F (xqi Q) := fun h w => by
      rw [if_neg h] at hr
      exact ih (j + 1) a f F w hP (by omega) (by omega) hK hf hM hc hr
    -- it can be had
    have seta : ∀ G : XF, (∀ p i, ¬ (p = 131 ∧ i = 27) → G p i = F p i) → G 131 27 = xior (F 131 27) (xshl 1 j) → mMk G (T 4) (mSet a j 1) f := fun G k1 k2 => by
      refine ⟨fun k p q => ?_, fun k p q => by rw [k1 145 k (by omega)]; exact hM.2 k p q⟩
      rw [k2, mbit_or, mbit_shl' h0' (by omega) (by omega)]
      by_cases hk : k = j
      · subst hk
        rw [mSet_s, if_pos (by simp; right; omega)]
      · rw [mSet_n hk, hM.1 k p q]
        have : decide (((k.toNat : Nat) : Int) = j) = false := by simp; omega
        rw [this, Bool.or_false]
    have put : ∀ (G : XF) (a' f' : Int → Int), mMk G (T 4) a' f' → mMk (xup G 145 j i) (T 4) a' (mSet f' j i) := fun G a' f' hm => by
      refine ⟨fun k p q => by rw [xup_o (by decide)]; exact hm.1 k p q, fun k p q => ?_⟩
      by_cases hk : k = j
      · rw [hk, xup_s, mSet_s]
      · rw [xup_i hk, mSet_n hk]; exact hm.2 k p q
    have had : mV (mRc T sp i j) = 1 → a j = 0 → ∀ w, (0 ≤ j ∧ j < 10) ∧ (inR (F 145 j) ∧ (((F 145 j = -1) → ((0 ≤ j ∧ j < 10) ∧ (xPT (xup (xup F 131 27 (xior (F 131 27) (xshl 1 j))) 145 j i) → Q 1 (xup (xup F 131 27 (xior (F 131 27) (xshl 1 j))) 145 j i)))) ∧ (¬ (F 145 j = -1) → ((0 ≤ j ∧ j < 10) ∧ (∃ (j5 : Nat), j5 < d ∧ xMI X j5 216 [.ref 131, vi (F 145 j), vi sp] (xup F 131 27 (xior (F 131 27) (xshl 1 j))) (fun (y5 : Int) (G5 : XF) => (inR y5 ∧ (((y5 = 0) → (xPT G5 → xW X d 216 2 [.ref 131, vi i, vi sp, vi (j + 1), w] [] G5 (xqi Q))) ∧ (¬ (y5 = 0) → ((0 ≤ j ∧ j < 10) ∧ (xPT (xup G5 145 j i) → Q 1 (xup G5 145 j i)))))))))))) := fun h1 h2 w => by
      rw [if_pos ⟨h1, h2⟩] at hr
      rw [fj]
      have hP1 : xPT (xup F 131 27 (xior (F 131 27) (xshl 1 j))) := xPT_fld (k := 27) hP xob_12 (by decide) (by decide)
      have hK1 : mKm F0 (xup F 131 27 (xior (F 131 27) (xshl 1 j))) := hK.trans fun p i p1 p2 => xup_n p2
      have hM1 := seta (xup F 131 27 (xior (F 131 27) (xshl 1 j))) (fun p i h => xup_n h) xup_s
      refine ⟨⟨by omega, by omega⟩, ⟨by omega, by omega⟩, fun c => ⟨⟨by omega, by omega⟩, fun hG => ?_⟩, fun c => ⟨⟨by omega, by omega⟩, D, hd, ?_⟩⟩
      · rw [if_pos c] at hr
        subst hr
        exact q _ hG (hK1.trans fun p i p1 p2 => xup_o p1) (put _ _ _ hM1)
      · rw [if_neg c] at hr
        have hfi : 0 ≤ f j ∧ f j < T 4 ∧ mHd T (f j) := by
          rcases fb with h | h
          · exact absurd h c
          · exact h
        have pp := mFn_p (rc := mRc T sp) (N := (T 4).toNat) (H := mHd T) D (f j) (mSet a j 1) f (by rw [eN]; exact hfi) (by rw [eN]; exact hf)
        rw [eN] at pp
        have hc1 := mCt_set h0' h2 (T 4).toNat (by omega)
        refine hrec (f j) (mSet a j 1) f _ D (Nat.le_refl _) hP1 hK1 hfi hf hM1 (by omega) fun G hG kG mG => ⟨⟨by omega, by omega⟩, fun c2 _ => ?_, fun c2 => ⟨⟨by omega, by omega⟩, fun hH => ?_⟩⟩
        · rw [if_neg (by omega)] at hr
          have := mCt_le pp.2.2 (T 4).toNat
          exact ih (j + 1) _ _ G w hG (by omega) (by omega) kG pp.2.1 mG (by omega) hr
        · rw [if_pos (by omega)] at hr
          subst hr
          exact q _ hH (kG.trans fun p i p1 p2 => xup_o p1) (put _ _ _ mG)
    have hmul : ¬ (mFi T j (mLast T)).1 = -1 → -200000 ≤ ((mFi T j (mLast T)).1 - (mFi T i (mLast T)).2 - 1) * sp ∧ ((mFi T j (mLast T)).1 - (mFi T i (mLast T)).2 - 1) * sp ≤ 200000 := fun h => by
      have h3 := b3.2.2.2 h
      have l1 : -2001 ≤ (mFi T j (mLast T)).1 - (mFi T i (mLast T)).2 - 1 := by omega
      have l2 : (mFi T j (mLast T)).1 - (mFi T i (mLast T)).2 - 1 ≤ 2001 := by omega
      generalize (mFi T j (mLast T)).1 - (mFi T i (mLast T)).2 - 1 = u at l1 l2
      have m1 := Int.mul_le_mul_of_nonneg_right l1 (show 0 ≤ sp by omega)
      have m2 := Int.mul_le_mul_of_nonneg_right l2 (show 0 ≤ sp by omega)
      omega
    have e4i := g4 i hi.1 hi.2.1 hi.2.2
    have e3j := g3 j h0' (by omega)
    refine s216_2 hP ⟨⟨by omega, by omega⟩, by rw [e]; constructor <;> omega, fun c => absurd c (by rw [e]; omega), fun _ => ⟨⟨by omega, by omega⟩, by rw [e3j]; constructor <;> omega, fun c _ => on (fun h => ?_) _, fun c => ⟨xand_r, fun c1 => ⟨D, hd, p164 hP (by omega) ⟨D, hd, p164 hP (by omega) ?_⟩⟩, fun c1 _ => on (fun h => ?_) _⟩⟩⟩
    · have := (mV_b (C := mRc T sp i j)).t (by omega)
      exact this.1 (by rw [← e3j]; exact c)
    · rw [e]
      rw [e3j] at c
      have c1' : a j = 0 := by
        rw [aj, if_neg]
        intro hb
        rw [ra, if_pos hb] at c1
        exact c1 rfl
      have hm := hmul c
      refine ⟨⟨by omega, by omega⟩, ⟨by omega, by omega⟩, fun c2 => ⟨D, hd, p164 hP (by omega) ⟨D, hd, p164 hP (by omega) ?_⟩⟩, fun c2 => ⟨D, hd, p164 hP (by omega) ⟨D, hd, p164 hP (by omega) ?_⟩⟩⟩
      · rw [e, e3j, e4i]
        refine ⟨⟨by omega, by omega⟩, ⟨by omega, by omega⟩, ⟨by omega, by omega⟩, ⟨by omega, by omega⟩, fun c3 => had (mV_t ⟨c, ?_⟩) c1' _, fun c3 _ => on (fun h => ?_) _⟩
        · rw [if_neg (by omega)]; exact c3
        · have := ((mV_b (C := mRc T sp i j)).t (by omega)).2
          rw [if_neg (by omega)] at this
          exact c3 this
      · rw [e, e3j, e4i]
        refine ⟨⟨by omega, by omega⟩, ⟨by omega, by omega⟩, ⟨by omega, by omega⟩, ⟨by omega, by omega⟩, fun c3 => had (mV_t ⟨c, ?_⟩) c1' _, fun c3 _ => on (fun h => ?_) _⟩
        · rw [if_pos (by omega)]; exact c3
        · have := ((mV_b (C := mRc T sp i j)).t (by omega)).2
          rw [if_pos (by omega)] at this
          exact c3 this
    · rw [ra] at c1
      rw [aj] at h
      by_cases hb : mbit (F 131 27) j.toNat = true
      · rw [if_pos hb] at h; exact absurd h.2 (by decide)
      · rw [if_neg hb] at c1; omega
theorem p216 (hT : mT T) (hsp : 1 ≤ sp ∧ sp ≤ 50) (e0 : F0 132 = T) (e3 : ∀ j, 0 ≤ j → j < T 4 → F0 143 j = (mFi T j (mLast T)).1) (e4 : ∀ j, 0 ≤ j → j < T 4 → mHd T j → F0 144 j = (mFi T j (mLast T)).2) : ∀ (D : Nat) {Q : Int → XF → Prop} (i : Int) (a f : Int → Int) (F : XF) (j1 : Nat), D ≤ j1 → xPT F → mKm F0 F → (0 ≤ i ∧ i < T 4 ∧ mHd T i) → mFk (mHd T) (T 4) f → mMk F (T 4) a f → mCt a (T 4).toNat < D → (∀ G, xPT G → mKm F0 G → mMk G (T 4) (mFn (mRc T sp) (T 4).toNat D i a f).2.1 (mFn (mRc T sp) (T 4).toNat D i a f).2.2 → Q (mFn (mRc T sp) (T 4).toNat D i a f).1 G) → xMI X j1 216 [.ref 131, vi i, vi sp] F Q
  | 0, Q, i, a, f, F, j1, _, _, _, _, _, _, hc, _ => absurd hc (by omega)
  | D + 1, Q, i, a, f, F, j1, hj, hP, hK, hi, hf, hM, hc, q => by
    have h4 := hT.2.2.2.2.1
    exact m216 hP fun _ => l216 F0 T sp D (by omega) (fun i a f F j1 h1 h2 h3 h4 h5 h6 h7 h8 => p216 hT hsp e0 e3 e4 D i a f F j1 h1 h2 h3 h4 h5 h6 h7 h8) hi _ q hT hsp e0 e3 e4 (T 4).toNat 0 a f F _ hP (by omega) (by omega) hK hf hM hc rfl
end FIND
end REF21
