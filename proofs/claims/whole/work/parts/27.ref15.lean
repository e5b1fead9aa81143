section REF15
variable {X : List Int32} {d : Nat} {F : XF}
/-! events as far as they are told -/
def mEs (E E' : Int → Int) : Prop := E (-1) = E' (-1) ∧ ∀ i, 0 ≤ i → i < 4 * E (-1) → E i = E' i
theorem mEs.refl {E : Int → Int} : mEs E E := ⟨rfl, fun _ _ _ => rfl⟩
theorem mEs.hap {E E' : Int → Int} {a b c e : Int} (h : mEs E E') (h0 : 0 ≤ E (-1)) : mEs (mHap E a b c e) (mHap E' a b c e) := by
  obtain ⟨h1, h2⟩ := h
  unfold mHap
  by_cases q : E (-1) = 200
  · rw [if_pos q, if_pos (by omega)]
    exact ⟨h1, h2⟩
  · rw [if_neg q, if_neg (by omega)]
    refine ⟨?_, fun i a b => ?_⟩
    · dsimp only
      rw [if_pos rfl, if_pos rfl, h1]
    · dsimp only at b ⊢
      rw [if_pos rfl] at b
      rw [if_neg (by omega), if_neg (show ¬ i = -1 by omega), ← h1]
      by_cases i0 : i = 4 * E (-1)
      · rw [if_pos i0, if_pos i0]
      rw [if_neg i0, if_neg i0]
      by_cases i1 : i = 4 * E (-1) + 1
      · rw [if_pos i1, if_pos i1]
      rw [if_neg i1, if_neg i1]
      by_cases i2 : i = 4 * E (-1) + 2
      · rw [if_pos i2, if_pos i2]
      rw [if_neg i2, if_neg i2]
      by_cases i3 : i = 4 * E (-1) + 3
      · rw [if_pos i3, if_pos i3]
      rw [if_neg i3, if_neg i3]
      exact h2 i a (by omega)
def mEn (E : Int → Int) : Prop := 0 ≤ E (-1) ∧ E (-1) ≤ 200
theorem mEn.hap {E : Int → Int} {a b c e : Int} (h : mEn E) : mEn (mHap E a b c e) := by
  unfold mEn mHap at *
  by_cases q : E (-1) = 200
  · rw [if_pos q]; exact h
  · rw [if_neg q]
    rw [if_pos rfl]
    omega
theorem mTl_e {T : Int → Int} {ld la g c s f t : Int} : ∀ (n : Nat) (x : Int) (E E' : Int → Int), mEn E → mEs E E' → mEn (mTl T ld la g c s f t n x E) ∧ mEs (mTl T ld la g c s f t n x E) (mTl T ld la g c s f t n x E')
  | 0, x, E, E', hn, hs => ⟨hn, hs⟩
  | n + 1, x, E, E', hn, hs => by
    unfold mTl
    have h1 : mEn (if ld = c ∧ f ≤ T (8 + 7 * x) ∧ T (8 + 7 * x) < g then mHap E 0 t x s else E) ∧ mEs (if ld = c ∧ f ≤ T (8 + 7 * x) ∧ T (8 + 7 * x) < g then mHap E 0 t x s else E) (if ld = c ∧ f ≤ T (8 + 7 * x) ∧ T (8 + 7 * x) < g then mHap E' 0 t x s else E') := by
      by_cases q : ld = c ∧ f ≤ T (8 + 7 * x) ∧ T (8 + 7 * x) < g
      · rw [if_pos q, if_pos q]
        exact ⟨hn.hap, hs.hap hn.1⟩
      · rw [if_neg q, if_neg q]
        exact ⟨hn, hs⟩
    generalize (if ld = c ∧ f ≤ T (8 + 7 * x) ∧ T (8 + 7 * x) < g then mHap E 0 t x s else E) = A at h1
    generalize (if ld = c ∧ f ≤ T (8 + 7 * x) ∧ T (8 + 7 * x) < g then mHap E' 0 t x s else E') = B at h1
    by_cases q : la = c ∧ f - T (78 + c) < T (8 + 7 * x) + T (8 + 7 * x + 1) ∧ T (8 + 7 * x) + T (8 + 7 * x + 1) ≤ g - T (78 + c)
    · rw [if_pos q, if_pos q]
      exact mTl_e n (x + 1) _ _ h1.1.hap (h1.2.hap h1.1.1)
    · rw [if_neg q, if_neg q]
      exact mTl_e n (x + 1) _ _ h1.1 h1.2
theorem mTell_e {T : Int → Int} {S : Nat → Int → Int} {g c f t : Int} {E E' : Int → Int} (hn : mEn E) (hs : mEs E E') : mEn (mTell T S g c f t E) ∧ mEs (mTell T S g c f t E) (mTell T S g c f t E') := by
  have h1 := mTl_e (T := T) (ld := S 2 (S 1 c)) (la := S 3 (S 1 c)) (g := g) (c := c) (s := S 1 c) (f := f) (t := t) (T 4).toNat 0 E E' hn hs
  unfold mTell
  split
  · exact ⟨h1.1.hap, h1.2.hap h1.1.1⟩
  · exact h1
theorem mKE_e {T : Int → Int} {S : Nat → Int → Int} {t cl : Int} {R E E' : Int → Int} (hn : mEn E) (hs : mEs E E') : ∀ k : Nat, mEn (mKE T S t cl R E k) ∧ mEs (mKE T S t cl R E k) (mKE T S t cl R E' k)
  | 0 => ⟨hn, hs⟩
  | k + 1 => by
    have h1 := mKE_e (T := T) (S := S) (t := t) (cl := cl) (R := R) hn hs k
    show mEn (mCarE _ _ _ _ _ _ _) ∧ mEs (mCarE _ _ _ _ _ _ _) (mCarE _ _ _ _ _ _ _)
    unfold mCarE
    split
    · exact h1
    split
    · exact h1
    split
    · exact h1
    exact mTell_e h1.1 h1.2
/-- the events of the run behind n ticks -/
noncomputable def mEvs (T : Int → Int) : Nat → Int → Int
  | 0 => fun _ => 0
  | n + 1 => mTkE T (mS T) (mRun T n) (mEvs T n)
def mEF (F : XF) : Int → Int := fun i => if i = -1 then F 131 20 else F 141 i
theorem mEF_eq (h : 0 ≤ F 131 20 ∧ F 131 20 ≤ 200) : mEq F (mEF F) := ⟨by unfold mEF; rw [if_pos rfl], fun i a b => by unfold mEF; rw [if_neg (by omega)], by unfold mEF; rw [if_pos rfl]; exact h.1, by unfold mEF; rw [if_pos rfl]; exact h.2⟩
/-- the run that is told: behind n ticks, with its events -/
def mNow (F : XF) (n : Nat) : Prop := mRow F 0 = mRun (F 132) n ∧ n ≤ 2000 ∧ (0 ≤ F 131 20 ∧ F 131 20 ≤ 200) ∧ mEs (mEF F) (mEvs (F 132) n) ∧ mSA (F 132 5).toNat F
/-- what a tick of the run leaves as it was -/
def mKr (F G : XF) : Prop := (∀ p i, (p < 131 ∨ p = 132 ∨ p = 133 ∨ p = 134 ∨ p = 135 ∨ 141 < p) → G p i = F p i) ∧ (∀ i, ¬ i = 0 → ¬ i = 17 → ¬ i = 20 → ¬ i = 21 → ¬ i = 22 → G 131 i = F 131 i)
theorem mKr.trans {F G H : XF} (a : mKr F G) (b : mKr G H) : mKr F H := ⟨fun p i h => (b.1 p i h).trans (a.1 p i h), fun i h1 h2 h3 h4 h5 => (b.2 i h1 h2 h3 h4 h5).trans (a.2 i h1 h2 h3 h4 h5)⟩
theorem mKr.refl {F : XF} : mKr F F := ⟨fun _ _ _ => rfl, fun _ _ _ _ _ _ => rfl⟩
theorem mKp.kr {r : Int} {F G : XF} (a : mKp r F G) : mKr F G := ⟨fun p i h => a.1 p i (by omega) (by omega) (by omega) (by omega) (by omega) (by omega) (by omega), fun i _ h2 h3 h4 h5 => a.2.1 i h2 h3 h4 h5⟩
theorem mKr.t {F G : XF} (a : mKr F G) : G 132 = F 132 := funext fun i => a.1 132 i (by omega)
theorem mKr.z : mKr F (xup F 131 0 0) := ⟨fun p i h => xup_n (by omega), fun i h1 _ _ _ _ => xup_n (by omega)⟩
theorem mNow_tick {n : Nat} {Q : XF → Prop} (hP : xPT F) (hd : 5 < d) (hT : mT (F 132)) (hn : n < 2000) (h : mNow F n) (q : ∀ G, xPT G → mKr F G → mNow G (n + 1) → Q G) : xMV X d 181 [.ref 131, vi 0] F Q := by
  obtain ⟨hr, _, hc, he, hS⟩ := h
  have hI := (mRun_I hT n (by omega)).1
  have e := mRun_130 hT n
  refine p181 (E := mEF F) hP hd hT hS (by omega) (by rw [hr]; omega) (by rw [hr]; exact hI) (fun _ => mEF_eq hc) fun G hG k1 r1 e1 => q G hG k1.p.kr ⟨?_, by omega, ?_, ?_, ?_⟩
  · rw [r1, hr, k1.t]
    rfl
  · obtain ⟨m1, m2, m3⟩ := e1 rfl
    rw [m1]; exact m3
  · obtain ⟨m1, m2, m3⟩ := e1 rfl
    have hn0 : mEn (mEF F) := by unfold mEn mEF; rw [if_pos rfl]; exact hc
    have k := (mKE_e (T := F 132) (S := mS (F 132)) (t := mRow F 0 130) (cl := mV (mClo (F 132) (mRow F 0))) (R := mSts (F 132) (mS (F 132)) (F 132 4) (mRow F 0 130) (mRow F 0)) hn0 he (F 132 5).toNat).2
    rw [k1.t]
    have k2 : mEs (mEF G) (mTkE (F 132) (mS (F 132)) (mRow F 0) (mEF F)) := by
      refine ⟨by unfold mEF; rw [if_pos rfl]; exact m1, fun i a b => ?_⟩
      have b2 : i < 800 := by
        unfold mEF at b
        rw [if_pos rfl] at b
        omega
      unfold mEF
      rw [if_neg (by omega)]
      exact m2 i a b2
    have k3 : mEs (mTkE (F 132) (mS (F 132)) (mRow F 0) (mEF F)) (mEvs (F 132) (n + 1)) := by
      show mEs _ (mTkE (F 132) (mS (F 132)) (mRun (F 132) n) (mEvs (F 132) n))
      rw [← hr]
      exact k
    refine ⟨k2.1.trans k3.1, fun i a b => ?_⟩
    have b' := b
    rw [k2.1] at b'
    exact (k2.2 i a b).trans (k3.2 i a b')
  · rw [k1.t]
    exact hS.of k1.t k1.s
theorem mNow_z {n : Nat} (h : mNow F n) : mNow (xup F 131 0 0) n := by
  obtain ⟨hr, h1, hc, he, hS⟩ := h
  have e20 : xup F 131 0 0 131 20 = F 131 20 := xup_i (by decide)
  have ee : mEF (xup F 131 0 0) = mEF F := by
    funext i
    unfold mEF
    rw [e20, xup_o (by decide)]
  refine ⟨by rw [h0r, h0t]; exact hr, h1, by rw [e20]; exact hc, by rw [ee, h0t]; exact he, by rw [h0t]; exact h0s hS⟩
theorem mNow_begin {Q : XF → Prop} (hP : xPT F) (hd : 1 < d) (hT : mT (F 132)) (q : ∀ G, xPT G → mKr F G → mNow G 0 → Q G) : xMV X d 170 [.ref 131, vi 0] F Q := by
  refine p170 hP hd hT (by omega) fun G hG k1 s1 r1 e1 => q G hG k1.kr ⟨?_, by omega, by rw [e1 rfl]; omega, ?_, ?_⟩
  · rw [k1.t]; exact mBeg_row hT r1
  · refine ⟨?_, fun i a b => ?_⟩
    · unfold mEF
      rw [if_pos rfl, e1 rfl]
      rfl
    · unfold mEF at b
      rw [if_pos rfl, e1 rfl] at b
      omega
  · rw [k1.t]; exact s1
theorem l182 {N : Int} {Q : Int → XF → Prop} (hd : 6 < d) (F0 : XF) (hT : mT (F0 132)) (hN : 0 ≤ N ∧ N ≤ 2000) (m : Nat) (q : ∀ G, xPT G → mKr F0 G → mNow G m → Q m G) : ∀ (f : Nat) (k : Int) (n : Nat) (F : XF), xPT F → 0 ≤ k → k + f = N → min (n + f) 2000 = m → mKr F0 F → mNow F n → xW X d 182 22 [.ref 131, vi N, vi k] [] F (xqi Q) := by
  have fin : ∀ (n : Nat) (F : XF), xPT F → mKr F0 F → mNow F n → n = m → Q (F 140 130) F := fun n F hP hF hN hm => by
    have e : F 140 130 = n := by
      have := mRun_130 (T := F 132) (by rw [hF.t]; exact hT) n
      rw [← hN.1, mRow_at (by omega), Int.zero_add] at this
      exact this
    subst hm
    rw [e]
    exact q F hP hF hN
  intro f
  induction f with
  | zero =>
    intro k n F hP h0 hk hm hF hNow
    have := hNow.2.1
    refine s182_22 hP ⟨⟨by omega, by omega⟩, ⟨by omega, by omega⟩, fun _ _ => fin n F hP hF hNow (by omega), fun c => absurd (by omega) c⟩
  | succ f ih =>
    intro k n F hP h0 hk hm hF hNow
    have e : F 140 130 = n := by
      have := mRun_130 (T := F 132) (by rw [hF.t]; exact hT) n
      rw [← hNow.1, mRow_at (by omega), Int.zero_add] at this
      exact this
    have := hNow.2.1
    refine s182_22 hP ⟨⟨by omega, by omega⟩, ⟨by omega, by omega⟩, fun c => absurd c (by omega), fun _ => ⟨by rw [e]; constructor <;> omega, fun c _ => fin n F hP hF hNow (by omega), fun c => ⟨6, hd, mNow_tick hP (by omega) (by rw [hF.t]; exact hT) (by omega) hNow fun G hG k1 n1 _ => ih (k + 1) (n + 1) G hG (by omega) (by omega) (by omega) (hF.trans k1) n1⟩⟩⟩
theorem p182 {N : Int} {n : Nat} {Q : Int → XF → Prop} (hP : xPT F) (hd : 9 < d) (hT : mT (F 132)) (h : mNow F n) (hN : inR N) (q0 : ¬ (0 ≤ N ∧ N ≤ 2000) → ∀ G, xPT G → mKr F G → mNow G n → Q (-3) G) (q1 : (0 ≤ N ∧ N ≤ 2000) → ∀ G, xPT G → mKr F G → mNow G (min (n + N.toNat) 2000) → Q ((min (n + N.toNat) 2000 : Nat) : Int) G) : xMI X d 182 [.ref 131, vi N] F Q := by
  refine m182 hP ⟨hN, 8, by omega, p132 (h0P hP) ⟨⟨by omega, by omega⟩, ⟨by omega, by omega⟩, ⟨by omega, by omega⟩⟩ fun y hy => ⟨hy.r, fun c hG => ?_, fun c hG => ?_⟩⟩
  · have g := hy.t c
    exact l182 (by omega) F hT g _ (q1 g) N.toNat 0 n _ hG (by omega) (by omega) rfl mKr.z (mNow_z h)
  · exact q0 (hy.f (by omega)) _ hG mKr.z (mNow_z h)
theorem p183 {n : Nat} {Q : Int → XF → Prop} (hP : xPT F) (hd : 9 < d) (hT : mT (F 132)) (h : mNow F n) (q : ∀ G, xPT G → mKr F G → mNow G 0 → Q n G) : xMI X d 183 [.ref 131] F Q := by
  have e : F 140 130 = n := by
    have := mRun_130 (T := F 132) hT n
    rw [← h.1, mRow_at (by omega), Int.zero_add] at this
    exact this
  refine m183 hP ⟨8, by omega, mNow_begin (h0P hP) (by omega) (by rw [h0t]; exact hT) fun G hG k1 n1 _ => ?_⟩
  rw [e]
  exact q G hG (mKr.z.trans k1) n1
noncomputable def aEvent (E : Int → Int) (v w : Int) : Int := if (0 ≤ v ∧ v < E (-1)) ∧ (0 ≤ w ∧ w ≤ 3) then E (4 * v + w) else -2
theorem p189 {v w : Int} {n : Nat} {Q : Int → XF → Prop} (hP : xPT F) (hd : 9 < d) (h : mNow F n) (hv : inR v) (hw : inR w) (q : mQ F Q (aEvent (mEvs (F 132) n) v w)) : xMI X d 189 [.ref 131, vi v, vi w] F Q := by
  obtain ⟨_, _, hc, he, hS⟩ := h
  have e20 : mEvs (F 132) n (-1) = F 131 20 := by rw [← he.1]; unfold mEF; rw [if_pos rfl]
  unfold aEvent at q
  rw [e20] at q
  refine m189 hP ⟨hv, ⟨by omega, by omega⟩, 8, by omega, p132 (h0P hP) ⟨⟨by omega, by omega⟩, ⟨by omega, by omega⟩, ⟨by omega, by omega⟩⟩ fun y hy => ⟨hy.r, fun c hG => ?_, fun c => ⟨hw, 8, by omega, p132 (h0P hP) ⟨⟨by omega, by omega⟩, ⟨by omega, by omega⟩, ⟨by omega, by omega⟩⟩ fun y2 hy2 => ⟨hy2.r, fun c2 hG => ?_, fun c2 => ⟨?_, fun hG => ?_⟩⟩⟩⟩⟩
  · have := hy.f c
    rw [if_neg (by omega)] at q
    exact q.z hS hG
  · have := hy2.f c2
    rw [if_neg (by omega)] at q
    exact q.z hS hG
  · have := hy.t c
    have := hy2.t c2
    omega
  · have g := hy.t c
    have g2 := hy2.t c2
    have := he.2 (4 * v + w) (by omega) (by unfold mEF; rw [if_pos rfl]; omega)
    unfold mEF at this
    rw [if_neg (by omega)] at this
    rw [if_pos ⟨⟨by omega, by omega⟩, g2⟩, ← this] at q
    rw [xup_o (by decide)]
    exact q.z hS hG
noncomputable def aCount (T : Int → Int) (n : Nat) (acts taped w : Int) : Int := if w = 0 then T 0 else if w = 1 then T 1 else if w = 2 then T 2 else if w = 3 then T 3 else if w = 4 then T 4 else if w = 5 then T 5 else if w = 6 then mS T 0 0 else if w = 7 then T 6 else if w = 8 then T 7 else if w = 9 then n else if w = 10 then mRun T n 131 else if w = 11 then mEvs T n (-1) else if w = 12 then acts else if w = 13 then taped else -1
theorem p220 {w : Int} {n : Nat} {Q : Int → XF → Prop} (hP : xPT F) (hd : 9 < d) (hT : mT (F 132)) (h : mNow F n) (hw : inR w) (q : mQ F Q (aCount (F 132) n (F 131 12) (F 131 4) w)) : xMI X d 220 [.ref 131, vi w] F Q := by
  obtain ⟨hr, _, hc, he, hS⟩ := h
  have e20 : mEvs (F 132) n (-1) = F 131 20 := by rw [← he.1]; unfold mEF; rw [if_pos rfl]
  have e130 : F 140 130 = n := by
    have := mRun_130 (T := F 132) hT n
    rw [← hr, mRow_at (by omega), Int.zero_add] at this
    exact this
  have e131 : F 140 131 = mRun (F 132) n 131 := by
    rw [← hr, mRow_at (by omega), Int.zero_add]
  have e17 : F 131 17 = mS (F 132) 0 0 := hS.1
  unfold aCount at q
  rw [e20, ← e130, ← e131, ← e17] at q
  refine m220 hP ⟨hw, fun h hG => ?_, fun h hG => ?_, fun h hG => ?_, fun h hG => ?_, fun h hG => ?_, fun h hG => ?_, fun h => ⟨8, by omega, p154 (h0P hP) fun hG => ?_⟩, fun h hG => ?_, fun h hG => ?_, fun h hG => ?_, fun h hG => ?_, fun h hG => ?_, fun h hG => ?_, fun h hG => ?_, fun h hG => ?_⟩
  · rw [if_neg (by omega), if_neg (by omega), if_neg (by omega), if_neg (by omega), if_neg (by omega), if_neg (by omega), if_neg (by omega), if_neg (by omega), if_neg (by omega), if_neg (by omega), if_neg (by omega), if_neg (by omega), if_neg (by omega), if_neg (by omega)] at q
    exact q.z hS hG
  all_goals (try rw [h0t]); subst h; exact q.z hS hG
end REF15
