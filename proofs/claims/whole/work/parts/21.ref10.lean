section REF10
variable {X : List Int32} {d : Nat} {F : XF}
theorem mHeld_c {T : Int → Int} {S : Nat → Int → Int} {R R' : Int → Int} {x : Int} (hS : ∀ s, 0 ≤ s → s < S 0 0 → (0 ≤ S 2 s ∧ S 2 s < 30) ∧ (0 ≤ S 3 s ∧ S 3 s < 30)) (e : ∀ i, 0 ≤ i → i < 132 → R i = R' i) : mHeld T S R x = mHeld T S R' x := by
  apply propext
  unfold mHeld mOn
  constructor
  · rintro ⟨s, a, b, c1, c2⟩
    have := hS s a b
    rw [e _ (by omega) (by omega)] at c1 c2
    exact ⟨s, a, b, c1, c2⟩
  · rintro ⟨s, a, b, c1, c2⟩
    have := hS s a b
    rw [← e _ (by omega) (by omega)] at c1 c2
    exact ⟨s, a, b, c1, c2⟩
theorem mSts_c {T : Int → Int} {S : Nat → Int → Int} {n t : Int} {R R' : Int → Int} (hn : n ≤ 10) (hS : ∀ s, 0 ≤ s → s < S 0 0 → (0 ≤ S 2 s ∧ S 2 s < 30) ∧ (0 ≤ S 3 s ∧ S 3 s < 30)) (e : ∀ i, 0 ≤ i → i < 132 → R i = R' i) : ∀ i, 0 ≤ i → i < 132 → mSts T S n t R i = mSts T S n t R' i := by
  intro i a b
  unfold mSts
  by_cases h : 60 ≤ i ∧ i < 60 + 7 * n
  · rw [if_pos h, if_pos h, mHeld_c hS e]
    have hx : 0 ≤ (i - 60) / 7 ∧ (i - 60) / 7 < 10 := by omega
    generalize (i - 60) / 7 = x at hx
    unfold mSt mSv mW0
    rw [e (60 + 7 * x) (by omega) (by omega), e (60 + 7 * x + 1) (by omega) (by omega), e (60 + 7 * x + 2) (by omega) (by omega), e (60 + 7 * x + 3) (by omega) (by omega), e (60 + 7 * x + 4) (by omega) (by omega), e (60 + 7 * x + 5) (by omega) (by omega), e (60 + 7 * x + 6) (by omega) (by omega)]
  · rw [if_neg h, if_neg h, e i a b]
theorem mL_30 {T : Int → Int} (hT : mT T) : ∀ s, 0 ≤ s → s < mL T (T 5).toNat 0 0 → (0 ≤ mL T (T 5).toNat 2 s ∧ mL T (T 5).toNat 2 s < 30) ∧ (0 ≤ mL T (T 5).toNat 3 s ∧ mL T (T 5).toNat 3 s < 30) := by
  have h5 := hT.2.2.2.2.2.1
  intro s a b
  have := (mL_b hT (T 5).toNat (by omega)).2.2.2 s a b
  omega
theorem mClo_c {T R R' : Int → Int} (hT : mT T) (e : ∀ i, 0 ≤ i → i < 30 → R i = R' i) : mClo T R = mClo T R' := by
  have h5 := hT.2.2.2.2.2.1
  apply propext
  unfold mClo
  constructor
  · intro h c a b
    have := h c a b
    rw [e c (by omega) (by omega), e (c - 1) (by omega) (by omega)] at this
    exact this
  · intro h c a b
    have := h c a b
    rw [← e c (by omega) (by omega), ← e (c - 1) (by omega) (by omega)] at this
    exact this
theorem l181 {r t cl : Int} {Q : XF → Prop} (hd : 4 < d) (F0 : XF) (hT : mT (F0 132)) (hS : mSA (F0 132 5).toNat F0) (hr : 0 ≤ r ∧ r ≤ 132) (ht : 0 ≤ t ∧ t ≤ 10000) (hcl : cl = 0 ∨ cl = 1) (E0 : Int → Int) (hJ : mJ (F0 132) (mRow F0 r)) (q : ∀ G, xPT G → mKt r F0 G → mRow G r = mSet (mK (F0 132) (mL (F0 132) (F0 132 5).toNat) t cl (mRow F0 r) (F0 132 5).toNat) 130 (mRow F0 r 130 + 1) → (r = 0 → mEq G (mKE (F0 132) (mL (F0 132) (F0 132 5).toNat) t cl (mRow F0 r) E0 (F0 132 5).toNat)) → Q G) : ∀ (n k : Nat) (F : XF), xPT F → (k : Int) + n = F0 132 5 → mKt r F0 F → mRow F r = mK (F0 132) (mL (F0 132) (F0 132 5).toNat) t cl (mRow F0 r) k → (r = 0 → mEq F (mKE (F0 132) (mL (F0 132) (F0 132 5).toNat) t cl (mRow F0 r) E0 k)) → xW X d 181 26 [.ref 131, vi r, vi t, vi cl, vi k] [] F (xqv Q) := by
  have hT' := hT
  obtain ⟨h0, h1, h2, h3, h4, h5, h6, _, hX, _, hl, _⟩ := hT'
  intro n
  induction n with
  | zero =>
    intro k F hP hk hF hrow hE
    have e := hF.t
    have hk2 : (F0 132 5).toNat = k := by omega
    rw [hk2] at q hrow hE
    refine s181_26 hP ⟨4, hd, p154 hP ⟨⟨by omega, by omega⟩, by rw [e]; constructor <;> omega, fun _ => ⟨⟨by omega, by omega⟩, ⟨by omega, by omega⟩, fun hG => q _ hG (hF.up (by omega)) ?_ fun h => ?_⟩, fun c => absurd (by rw [e]; omega) c⟩⟩
    · rw [mRow_up (by omega), ← hrow]
      rw [← mRow_at (F := F) (r := r) (i := 130) (by omega), hrow, (mK_r hT hJ k (by omega)).1 130 (by omega)]
    · obtain ⟨m1, m2, m3⟩ := hE h
      exact ⟨by rw [xup_o (by decide)]; exact m1, fun i a b => by rw [xup_o (by decide)]; exact m2 i a b, m3⟩
  | succ n ih =>
    intro k F hP hk hF hrow hE
    have e := hF.t
    have hJk := mK_J (S := mL (F0 132) (F0 132 5).toNat) (t := t) (cl := cl) hT hJ k (by omega)
    have jk := hJk.1 k (by omega) (by omega)
    have hlk := hl k (by omega) (by omega)
    have ek : F 140 (r + k) = mK (F0 132) (mL (F0 132) (F0 132 5).toNat) t cl (mRow F0 r) k k := by rw [← hrow, mRow_at (by omega)]
    have next : ∀ G : XF, xPT G → mKt r F0 G → mRow G r = mCar (F0 132) (mL (F0 132) (F0 132 5).toNat) t cl k (mRow F r) → (r = 0 → mEq G (mCarE (F0 132) (mL (F0 132) (F0 132 5).toNat) t cl k (mRow F r) (mKE (F0 132) (mL (F0 132) (F0 132 5).toNat) t cl (mRow F0 r) E0 k))) → xW X d 181 26 [.ref 131, vi r, vi t, vi cl, vi ((k : Int) + 1)] [] G (xqv Q) := by
      intro G hG kG rG eG
      rw [hrow] at rG eG
      exact ih (k + 1) G hG (by omega) kG rG eG
    have same : ∀ v : Int, (r = 0 → mEq F (mKE (F0 132) (mL (F0 132) (F0 132 5).toNat) t cl (mRow F0 r) E0 k)) → (r = 0 → mEq (xup F 140 (r + 30 + k) v) (mKE (F0 132) (mL (F0 132) (F0 132 5).toNat) t cl (mRow F0 r) E0 k)) := fun v h z => by
      obtain ⟨m1, m2, m3⟩ := h z
      exact ⟨by rw [xup_o (by decide)]; exact m1, fun i a b => by rw [xup_o (by decide)]; exact m2 i a b, m3⟩
    have rset : ∀ v : Int, mRow (xup F 140 (r + 30 + k) v) r = mSet (mRow F r) (30 + k) v := fun v => by
      rw [show r + 30 + (k : Int) = r + (30 + k) by omega, mRow_up (by omega)]
    have eR : mRow F r k = F 140 (r + k) := mRow_at (by omega)
    have g := mGo_c (S := mL (F0 132) (F0 132 5).toNat) (t := t) (cl := cl) hT (hJk.ch (c := k) (by omega))
    rw [← hrow] at g jk hJk
    unfold mAc at g
    refine s181_26 hP ⟨4, hd, p154 hP ⟨⟨by omega, by omega⟩, by rw [e]; constructor <;> omega, fun c => absurd c (by rw [e]; omega), fun _ => ⟨4, hd, p172 hP (by omega) hr (by omega) ?_ fun y hy => ⟨hy.r, fun c1 => ⟨⟨by omega, by omega⟩, by rw [e]; constructor <;> omega, fun c2 => ⟨4, hd, p174 hP (by omega) (by rw [e]; exact hT) ⟨by omega, by omega⟩ ⟨by omega, by omega⟩ fun y2 hy2 => ⟨hy2.r, fun c3 => ⟨4, hd, ?_⟩, fun c3 => ⟨⟨by omega, by omega⟩, fun hG => next _ hG (hF.up (by omega)) ?_ ?_⟩⟩⟩, fun c2 => ⟨⟨by omega, by omega⟩, fun hG => next _ hG (hF.up (by omega)) ?_ ?_⟩⟩, fun c1 => ⟨⟨by omega, by omega⟩, fun hG => next _ hG (hF.up (by omega)) ?_ ?_⟩⟩⟩⟩⟩
    · rw [e, ← eR]; exact ⟨⟨by omega, by omega⟩, ⟨by omega, by omega⟩⟩
    · have n1 := hy.f c1
      have n3 := hy2.v
      rw [e, ← eR] at n1
      rw [e] at n3 c2
      refine p178 (E := mKE (F0 132) (mL (F0 132) (F0 132 5).toNat) t cl (mRow F0 r) E0 k) hP (by omega) (by rw [e]; exact hT) (by rw [e]; exact hS.of e hF.s) hr (by rw [e]; omega) ht hcl (by rw [e]; exact hJk.fr hT) (by rw [e]; omega) hE fun G hG k1 r1 e1 _ => next G hG (hF.trans k1) ?_ fun z => ?_
      · rw [r1, e]
        unfold mCar
        rw [if_neg n1, if_neg (by omega), if_neg (by omega)]
      · have := e1 z
        rw [e] at this
        unfold mCarE
        rw [if_neg n1, if_neg (by omega), if_neg (by omega)]
        exact this
    · have n1 := hy.f c1
      have n3 := hy2.v
      rw [e, ← eR] at n1
      rw [e] at n3 c2
      rw [rset]
      unfold mCar
      rw [if_neg n1, if_neg (by omega), if_pos (by have := hy2.z; omega)]
    · have n1 := hy.f c1
      have n3 := hy2.v
      rw [e, ← eR] at n1
      rw [e] at n3 c2
      intro z
      unfold mCarE
      rw [if_neg n1, if_neg (by omega), if_pos (by have := hy2.z; omega)]
      exact same _ hE z
    · have n1 := hy.f c1
      rw [e, ← eR] at n1
      rw [e] at c2
      rw [rset]
      unfold mCar
      rw [if_neg n1, if_pos (by omega)]
    · have n1 := hy.f c1
      rw [e, ← eR] at n1
      rw [e] at c2
      intro z
      unfold mCarE
      rw [if_neg n1, if_pos (by omega)]
      exact same _ hE z
    · have n1 := hy.t c1
      rw [e, ← eR] at n1
      rw [rset]
      unfold mCar
      rw [if_pos n1]
    · have n1 := hy.t c1
      rw [e, ← eR] at n1
      intro z
      unfold mCarE
      rw [if_pos n1]
      exact same _ hE z
/-- a run's invariant -/
def mI (T R : Int → Int) : Prop := mJ T R ∧ mRS T R (R 130) ∧ 0 ≤ R 130
theorem mJ_sts {T : Int → Int} {S : Nat → Int → Int} {n t : Int} {R : Int → Int} (hT : mT T) (h : mJ T R) (hn : n ≤ 10) : mJ T (mSts T S n t R) := by
  refine h.of hT (fun i a b => ?_) ?_
  · unfold mSts; rw [if_neg (by omega)]
  · unfold mSts; rw [if_neg (by omega)]
theorem p181 {r : Int} {E : Int → Int} {Q : XF → Prop} (hP : xPT F) (hd : 5 < d) (hT : mT (F 132)) (hS : mSA (F 132 5).toNat F) (hr : 0 ≤ r ∧ r ≤ 132) (ht : mRow F r 130 ≤ 10000) (hI : mI (F 132) (mRow F r)) (hE : r = 0 → mEq F E) (q : ∀ G, xPT G → mKt r F G → mRow G r = mTk (F 132) (mL (F 132) (F 132 5).toNat) (mRow F r) → (r = 0 → mEq G (mTkE (F 132) (mL (F 132) (F 132 5).toNat) (mRow F r) E)) → Q G) : xMV X d 181 [.ref 131, vi r] F Q := by
  have h4 := hT.2.2.2.2.1
  have h5 := hT.2.2.2.2.2.1
  obtain ⟨hJ, hRS, ht0⟩ := hI
  have et : mRow F r 130 = F 140 (r + 130) := mRow_at (by omega)
  have ee : ∀ i, 0 ≤ i → i < 132 → (fun i => F 140 (r + i)) i = mRow F r i := fun i a b => (mRow_at ⟨a, b⟩).symm
  refine m181 hP ⟨⟨by omega, by omega⟩, 5, hd, p176 hP (by omega) hT hS hr (by rw [← et]; omega) ?_ ?_ fun G1 hG1 k1 r1 => ⟨5, hd, p175 hG1 (by omega) (by rw [k1.t]; exact hT) hr ?_ fun y hy _ => ?_⟩⟩
  · intro c a b
    rw [ee c a (by omega)]
    exact hJ.fr hT c a b
  · intro x a b
    have := hRS x a b
    rw [← et]
    dsimp only
    rw [← mRow_at (F := F) (r := r) (i := 60 + 7 * x) (by omega), ← mRow_at (F := F) (r := r) (i := 60 + 7 * x + 2) (by omega), ← mRow_at (F := F) (r := r) (i := 60 + 7 * x + 3) (by omega), ← mRow_at (F := F) (r := r) (i := 60 + 7 * x + 6) (by omega)]
    exact this
  · intro c a b
    rw [k1.t] at b
    have := hJ.fr hT c a b
    dsimp only
    rw [r1 c a (by omega)]
    unfold mSts
    rw [if_neg (by omega)]
    rw [ee c a (by omega)]
    exact this
  · have e := k1.t
    have rr : mRow G1 r = mSts (F 132) (mL (F 132) (F 132 5).toNat) (F 132 4) (mRow F r 130) (mRow F r) := by
      refine mRow_eq (fun i a b => ?_) (mZ_sts mZ_row h4.2)
      rw [r1 i a b, et]
      exact mSts_c h4.2 (mL_30 hT) ee i a b
    have hv : y = mV (mClo (F 132) (mRow F r)) := by
      rw [hy.v, e]
      congr 1
      refine mClo_c hT fun i a b => ?_
      skip
      rw [r1 i a (by omega)]
      unfold mSts
      rw [if_neg (by omega)]
      exact ee i a (by omega)
    rw [← et, hv]
    have hE1 : r = 0 → mEq G1 E := fun h => by
      obtain ⟨m1, m2, m3⟩ := hE h
      exact ⟨by rw [k1.1 131 20 (by decide)]; exact m1, fun i a b => by rw [k1.1 141 i (by decide)]; exact m2 i a b, m3⟩
    refine l181 (by omega) G1 (by rw [e]; exact hT) (by rw [e]; exact hS.of e k1.s) hr (by omega) mV_01 E (by rw [e, rr]; exact mJ_sts hT hJ h4.2) (fun G hG k2 r2 e2 => q G hG (k1.kt.trans k2) ?_ fun z => ?_) (F 132 5).toNat 0 G1 hG1 (by rw [e]; omega) mKt.refl rfl hE1
    · rw [r2, e, rr]
      unfold mTk
      congr 1
      unfold mSts
      rw [if_neg (by omega)]
    · have := e2 z
      rw [e, rr] at this
      exact this
end REF10
