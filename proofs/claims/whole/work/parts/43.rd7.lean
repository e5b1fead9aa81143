section RD7
theorem rB_inv {α β : Type} {x : RR α} {f : α → RR β} {b : β} (h : rB x f = .ok b) : ∃ a, x = .ok a ∧ f a = .ok b := by
  cases x with
  | error z => cases h
  | ok a => exact ⟨a, rfl, h⟩
theorem ok_inj {α : Type} {a b : α} (h : (Except.ok a : RR α) = .ok b) : a = b := by cases h; rfl
/-- what has stood, and what is told by then -/
def rIn (T sn : Int → Int) : Prop := mT T ∧ T 7 ≤ 6 ∧ (∀ j, 0 ≤ j → j ≤ 4 → sn j = 0 ∨ sn j = 1) ∧ (sn 4 = 0 → T 4 = 0 ∧ T 5 = 0 ∧ T 6 = 0 ∧ T 7 = 0)
theorem mT_road {T : Int → Int} {v : Int} (h : mT T) (hv : 10 ≤ v ∧ v ≤ 1000) (h0 : T 4 = 0 ∧ T 5 = 0 ∧ T 6 = 0 ∧ T 7 = 0) : mT (mSet T 0 v) := by
  obtain ⟨g0, g1, g2, g3, g4, g5, g6, g7, gX, gO, gl, gs, gg, gb⟩ := h
  have e : ∀ i, ¬ i = 0 → mSet T 0 v i = T i := fun i h => mSet_n h
  refine ⟨by rw [mSet_s]; exact hv, by rw [e 1 (by omega)]; exact g1, by rw [e 2 (by omega)]; exact g2, by rw [e 3 (by omega)]; exact g3, by rw [e 4 (by omega)]; exact g4, by rw [e 5 (by omega)]; exact g5, by rw [e 6 (by omega)]; exact g6, by rw [e 7 (by omega)]; exact g7, fun x a b => ?_, fun x y a b c => ?_, fun c a b => ?_, fun c a b => ?_, fun k a b => ?_, fun k a b => ?_⟩
  · rw [e 4 (by omega)] at b; omega
  · rw [e 4 (by omega)] at c; omega
  · rw [e 5 (by omega)] at b; omega
  · rw [e _ (by omega)]; exact gs c a b
  · rw [e 6 (by omega)] at b; omega
  · rw [e 7 (by omega)] at b; omega
theorem mT_gap {T : Int → Int} {v : Int} (h : mT T) (hv : 0 ≤ v ∧ v ≤ 50) : mT (mSet T 2 v) := by
  obtain ⟨g0, g1, g2, g3, g4, g5, g6, g7, gX, gO, gl, gs, gg, gb⟩ := h
  have e : ∀ i, ¬ i = 2 → mSet T 2 v i = T i := fun i h => mSet_n h
  refine ⟨by rw [e 0 (by omega)]; exact g0, by rw [e 1 (by omega)]; exact g1, by rw [mSet_s]; exact hv, by rw [e 3 (by omega)]; exact g3, by rw [e 4 (by omega)]; exact g4, by rw [e 5 (by omega)]; exact g5, by rw [e 6 (by omega)]; exact g6, by rw [e 7 (by omega)]; exact g7, fun x a b => ?_, fun x y a b c => ?_, fun c a b => ?_, fun c a b => ?_, fun k a b => ?_, fun k a b => ?_⟩
  · rw [e 4 (by omega)] at b
    have := gX x a b
    unfold mX at this ⊢
    rw [e 0 (by omega), e (8 + 7 * x) (by omega), e (8 + 7 * x + 1) (by omega), e (8 + 7 * x + 2) (by omega), e (8 + 7 * x + 3) (by omega), e (8 + 7 * x + 4) (by omega), e (8 + 7 * x + 5) (by omega), e (8 + 7 * x + 6) (by omega)]
    exact this
  · rw [e 4 (by omega)] at c
    rw [e _ (by omega), e _ (by omega), e _ (by omega)]
    exact gO x y a b c
  · rw [e 5 (by omega)] at b
    rw [e _ (by omega)]; exact gl c a b
  · rw [e _ (by omega)]; exact gs c a b
  · rw [e 6 (by omega)] at b
    rw [e _ (by omega), e 0 (by omega)]; exact gg k a b
  · rw [e 7 (by omega)] at b
    have := gb k a b
    rw [e _ (by omega), e 5 (by omega), e _ (by omega), e _ (by omega)]
    exact this
theorem mT_long {T : Int → Int} {m l : Int} (h : mT T) (hm : 0 ≤ m ∧ T 5 + m ≤ 30) (hl : 1 ≤ l ∧ l ≤ 30) : mT (rLong T m l) := by
  obtain ⟨g0, g1, g2, g3, g4, g5, g6, g7, gX, gO, gl, gs, gg, gb⟩ := h
  have e : ∀ i, ¬ i = 5 → ¬ (78 + T 5 ≤ i ∧ i < 78 + T 5 + m) → rLong T m l i = T i := fun i h1 h2 => by unfold rLong; rw [if_neg h1, if_neg h2]
  have e5 : rLong T m l 5 = T 5 + m := by unfold rLong; rw [if_pos rfl]
  refine ⟨by rw [e 0 (by omega) (by omega)]; exact g0, by rw [e 1 (by omega) (by omega)]; exact g1, by rw [e 2 (by omega) (by omega)]; exact g2, by rw [e 3 (by omega) (by omega)]; exact g3, by rw [e 4 (by omega) (by omega)]; exact g4, by rw [e5]; omega, by rw [e 6 (by omega) (by omega)]; exact g6, by rw [e 7 (by omega) (by omega)]; exact g7, fun x a b => ?_, fun x y a b c => ?_, fun c a b => ?_, fun c a b => ?_, fun k a b => ?_, fun k a b => ?_⟩
  · rw [e 4 (by omega) (by omega)] at b
    have := gX x a b
    unfold mX at this ⊢
    rw [e 0 (by omega) (by omega), e (8 + 7 * x) (by omega) (by omega), e (8 + 7 * x + 1) (by omega) (by omega), e (8 + 7 * x + 2) (by omega) (by omega), e (8 + 7 * x + 3) (by omega) (by omega), e (8 + 7 * x + 4) (by omega) (by omega), e (8 + 7 * x + 5) (by omega) (by omega), e (8 + 7 * x + 6) (by omega) (by omega)]
    exact this
  · rw [e 4 (by omega) (by omega)] at c
    rw [e _ (by omega) (by omega), e _ (by omega) (by omega), e _ (by omega) (by omega)]
    exact gO x y a b c
  · rw [e5] at b
    by_cases q : c < T 5
    · rw [e _ (by omega) (by omega)]; exact gl c a q
    · unfold rLong
      rw [if_neg (by omega), if_pos (by omega)]; exact hl
  · rw [e _ (by omega) (by omega)]; exact gs c a b
  · rw [e 6 (by omega) (by omega)] at b
    rw [e _ (by omega) (by omega), e 0 (by omega) (by omega)]; exact gg k a b
  · rw [e 7 (by omega) (by omega)] at b
    have := gb k a b
    rw [e _ (by omega) (by omega), e5, e _ (by omega) (by omega), e _ (by omega) (by omega)]
    omega
theorem mT_gath {T : Int → Int} {v : Int} (h : mT T) (h6 : T 6 < 4) (hv : 1 ≤ v ∧ v ≤ T 0) : mT (mSet (mSet T (138 + T 6) v) 6 (T 6 + 1)) := by
  obtain ⟨g0, g1, g2, g3, g4, g5, g6, g7, gX, gO, gl, gs, gg, gb⟩ := h
  have e : ∀ i, ¬ i = 6 → ¬ i = 138 + T 6 → mSet (mSet T (138 + T 6) v) 6 (T 6 + 1) i = T i := fun i h1 h2 => by rw [mSet_n h1, mSet_n h2]
  have e6 : mSet (mSet T (138 + T 6) v) 6 (T 6 + 1) 6 = T 6 + 1 := mSet_s
  refine ⟨by rw [e 0 (by omega) (by omega)]; exact g0, by rw [e 1 (by omega) (by omega)]; exact g1, by rw [e 2 (by omega) (by omega)]; exact g2, by rw [e 3 (by omega) (by omega)]; exact g3, by rw [e 4 (by omega) (by omega)]; exact g4, by rw [e 5 (by omega) (by omega)]; exact g5, by rw [e6]; omega, by rw [e 7 (by omega) (by omega)]; exact g7, fun x a b => ?_, fun x y a b c => ?_, fun c a b => ?_, fun c a b => ?_, fun k a b => ?_, fun k a b => ?_⟩
  · rw [e 4 (by omega) (by omega)] at b
    have := gX x a b
    unfold mX at this ⊢
    rw [e 0 (by omega) (by omega), e (8 + 7 * x) (by omega) (by omega), e (8 + 7 * x + 1) (by omega) (by omega), e (8 + 7 * x + 2) (by omega) (by omega), e (8 + 7 * x + 3) (by omega) (by omega), e (8 + 7 * x + 4) (by omega) (by omega), e (8 + 7 * x + 5) (by omega) (by omega), e (8 + 7 * x + 6) (by omega) (by omega)]
    exact this
  · rw [e 4 (by omega) (by omega)] at c
    rw [e _ (by omega) (by omega), e _ (by omega) (by omega), e _ (by omega) (by omega)]
    exact gO x y a b c
  · rw [e 5 (by omega) (by omega)] at b
    rw [e _ (by omega) (by omega)]; exact gl c a b
  · rw [e _ (by omega) (by omega)]; exact gs c a b
  · rw [e6] at b
    by_cases q : k = T 6
    · subst q
      rw [mSet_n (by omega), mSet_s, e 0 (by omega) (by omega)]; exact hv
    · rw [e _ (by omega) (by omega), e 0 (by omega) (by omega)]; exact gg k a (by omega)
  · rw [e 7 (by omega) (by omega)] at b
    have := gb k a b
    rw [e _ (by omega) (by omega), e 5 (by omega) (by omega), e _ (by omega) (by omega), e _ (by omega) (by omega)]
    exact this
/-- one crossing more -/
def rCrT (T : Int → Int) (v0 v1 v2 v3 v4 v5 v6 : Int) : Int → Int := mSet (mSet (mSet (mSet (mSet (mSet (mSet (mSet T (8 + 7 * T 4) v0) (8 + 7 * T 4 + 1) v1) (8 + 7 * T 4 + 2) v2) (8 + 7 * T 4 + 3) v3) (8 + 7 * T 4 + 4) v4) (8 + 7 * T 4 + 5) v5) (8 + 7 * T 4 + 6) v6) 4 (T 4 + 1)
theorem rCrT_o {T : Int → Int} {v0 v1 v2 v3 v4 v5 v6 i : Int} (h4 : ¬ i = 4) (h : i < 8 + 7 * T 4 ∨ 8 + 7 * T 4 + 6 < i) : rCrT T v0 v1 v2 v3 v4 v5 v6 i = T i := by
  unfold rCrT
  rw [mSet_n h4, mSet_n (by omega), mSet_n (by omega), mSet_n (by omega), mSet_n (by omega), mSet_n (by omega), mSet_n (by omega), mSet_n (by omega)]
theorem rCrT_4 {T : Int → Int} {v0 v1 v2 v3 v4 v5 v6 : Int} : rCrT T v0 v1 v2 v3 v4 v5 v6 4 = T 4 + 1 := mSet_s
theorem rCrT_n {T : Int → Int} {v0 v1 v2 v3 v4 v5 v6 : Int} (h4 : 0 ≤ T 4) : rCrT T v0 v1 v2 v3 v4 v5 v6 (8 + 7 * T 4) = v0 ∧ rCrT T v0 v1 v2 v3 v4 v5 v6 (8 + 7 * T 4 + 1) = v1 ∧ rCrT T v0 v1 v2 v3 v4 v5 v6 (8 + 7 * T 4 + 2) = v2 ∧ rCrT T v0 v1 v2 v3 v4 v5 v6 (8 + 7 * T 4 + 3) = v3 ∧ rCrT T v0 v1 v2 v3 v4 v5 v6 (8 + 7 * T 4 + 4) = v4 ∧ rCrT T v0 v1 v2 v3 v4 v5 v6 (8 + 7 * T 4 + 5) = v5 ∧ rCrT T v0 v1 v2 v3 v4 v5 v6 (8 + 7 * T 4 + 6) = v6 := by
  unfold rCrT
  refine ⟨?_, ?_, ?_, ?_, ?_, ?_, ?_⟩
  · rw [mSet_n (by omega), mSet_n (by omega), mSet_n (by omega), mSet_n (by omega), mSet_n (by omega), mSet_n (by omega), mSet_n (by omega), mSet_s]
  · rw [mSet_n (by omega), mSet_n (by omega), mSet_n (by omega), mSet_n (by omega), mSet_n (by omega), mSet_n (by omega), mSet_s]
  · rw [mSet_n (by omega), mSet_n (by omega), mSet_n (by omega), mSet_n (by omega), mSet_n (by omega), mSet_s]
  · rw [mSet_n (by omega), mSet_n (by omega), mSet_n (by omega), mSet_n (by omega), mSet_s]
  · rw [mSet_n (by omega), mSet_n (by omega), mSet_n (by omega), mSet_s]
  · rw [mSet_n (by omega), mSet_n (by omega), mSet_s]
  · rw [mSet_n (by omega), mSet_s]
theorem mT_cross {T : Int → Int} {v0 v1 v2 v3 v4 v5 v6 : Int} (h : mT T) (h10 : ¬ T 4 = 10) (h0 : (if T 4 = 0 then 0 else T (8 + 7 * T 4 - 7) + T (8 + 7 * T 4 - 6)) ≤ v0) (c0 : 0 ≤ v0 ∧ v0 ≤ T 0 - 1) (c1 : 1 ≤ v1 ∧ v1 ≤ (if T 0 - v0 < 50 then T 0 - v0 else 50)) (c2 : 1 ≤ v2 ∧ v2 ≤ 200) (c3 : 0 ≤ v3 ∧ v3 ≤ v2 - 1) (c4 : v3 + 1 ≤ v4 ∧ v4 ≤ v2) (c5 : 0 ≤ v5 ∧ v5 ≤ 99) (c6 : 1 ≤ v6 ∧ v6 ≤ 20) : mT (rCrT T v0 v1 v2 v3 v4 v5 v6) := by
  obtain ⟨g0, g1, g2, g3, g4, g5, g6, g7, gX, gO, gl, gs, gg, gb⟩ := h
  have e : ∀ i, ¬ i = 4 → (i < 8 + 7 * T 4 ∨ 8 + 7 * T 4 + 6 < i) → rCrT T v0 v1 v2 v3 v4 v5 v6 i = T i := fun i a b => rCrT_o a b
  have n := rCrT_n (v0 := v0) (v1 := v1) (v2 := v2) (v3 := v3) (v4 := v4) (v5 := v5) (v6 := v6) g4.1
  have c1' : v1 ≤ 50 ∧ v0 + v1 ≤ T 0 := by
    have := c1.2
    split at this <;> omega
  refine ⟨by rw [e 0 (by omega) (by omega)]; exact g0, by rw [e 1 (by omega) (by omega)]; exact g1, by rw [e 2 (by omega) (by omega)]; exact g2, by rw [e 3 (by omega) (by omega)]; exact g3, by rw [rCrT_4]; omega, by rw [e 5 (by omega) (by omega)]; exact g5, by rw [e 6 (by omega) (by omega)]; exact g6, by rw [e 7 (by omega) (by omega)]; exact g7, fun x a b => ?_, fun x y a b c => ?_, fun c a b => ?_, fun c a b => ?_, fun k a b => ?_, fun k a b => ?_⟩
  · rw [rCrT_4] at b
    unfold mX
    by_cases q : x = T 4
    · subst q
      rw [n.1, n.2.1, n.2.2.1, n.2.2.2.1, n.2.2.2.2.1, n.2.2.2.2.2.1, n.2.2.2.2.2.2, e 0 (by omega) (by omega)]
      omega
    · have := gX x a (by omega)
      unfold mX at this
      rw [e 0 (by omega) (by omega), e (8 + 7 * x) (by omega) (by omega), e (8 + 7 * x + 1) (by omega) (by omega), e (8 + 7 * x + 2) (by omega) (by omega), e (8 + 7 * x + 3) (by omega) (by omega), e (8 + 7 * x + 4) (by omega) (by omega), e (8 + 7 * x + 5) (by omega) (by omega), e (8 + 7 * x + 6) (by omega) (by omega)]
      exact this
  · rw [rCrT_4] at c
    rw [e (8 + 7 * x) (by omega) (by omega), e (8 + 7 * x + 1) (by omega) (by omega)]
    by_cases q : y = T 4
    · subst q
      rw [n.1]
      rw [if_neg (by omega), show 8 + 7 * T 4 - 7 = 8 + 7 * (T 4 - 1) by omega, show 8 + 7 * T 4 - 6 = 8 + 7 * (T 4 - 1) + 1 by omega] at h0
      by_cases q2 : x = T 4 - 1
      · subst q2; omega
      · have := gO x (T 4 - 1) a (by omega) (by omega)
        have := gX (T 4 - 1) (by omega) (by omega)
        unfold mX at this
        omega
    · rw [e (8 + 7 * y) (by omega) (by omega)]
      exact gO x y a b (by omega)
  · rw [e 5 (by omega) (by omega)] at b
    rw [e _ (by omega) (by omega)]; exact gl c a b
  · rw [e _ (by omega) (by omega)]; exact gs c a b
  · rw [e 6 (by omega) (by omega)] at b
    rw [e _ (by omega) (by omega), e 0 (by omega) (by omega)]; exact gg k a b
  · rw [e 7 (by omega) (by omega)] at b
    have := gb k a b
    rw [e _ (by omega) (by omega), e 5 (by omega) (by omega), e _ (by omega) (by omega), e _ (by omega) (by omega)]
    exact this
/-- a line behind its word keeps the bounds, and goes on -/
theorem rCross_p {U T : Int → Int} {n k p : Int} {a : (Int → Int) × Int} (hm : mT T) (hp : p ≤ n) (h : rCross U n T k p = .ok a) : (mT a.1 ∧ a.1 7 = T 7 ∧ p < a.2 ∧ a.2 ≤ n) := by
  have hm' := hm
  obtain ⟨g0, _, _, _, g4, _, _, _, gX, _⟩ := hm'
  unfold rCross at h
  by_cases h10 : T 4 = 10
  · rw [if_pos h10] at h; cases h
  rw [if_neg h10] at h
  obtain ⟨a0, f0, h⟩ := rB_inv h
  obtain ⟨p1, w1, h⟩ := rB_inv h
  obtain ⟨a1, f1, h⟩ := rB_inv h
  obtain ⟨p2, w2, h⟩ := rB_inv h
  obtain ⟨a2, f2, h⟩ := rB_inv h
  obtain ⟨p3, w3, h⟩ := rB_inv h
  obtain ⟨a3, f3, h⟩ := rB_inv h
  obtain ⟨p4, w4, h⟩ := rB_inv h
  obtain ⟨a4, f4, h⟩ := rB_inv h
  obtain ⟨p5, w5, h⟩ := rB_inv h
  obtain ⟨a5, f5, h⟩ := rB_inv h
  obtain ⟨p6, w6, h⟩ := rB_inv h
  obtain ⟨a6, f6, h⟩ := rB_inv h
  have h := ok_inj h
  have b0 := rNum_p hp f0
  have q1 := rWrd_p (by omega) w1
  have b1 := rNum_p (by omega) f1
  have q2 := rWrd_p (by omega) w2
  have b2 := rNum_p (by omega) f2
  have q3 := rWrd_p (by omega) w3
  have b3 := rNum_p (by omega) f3
  have q4 := rWrd_p (by omega) w4
  have b4 := rNum_p (by omega) f4
  have q5 := rWrd_p (by omega) w5
  have b5 := rNum_p (by omega) f5
  have q6 := rWrd_p (by omega) w6
  have b6 := rNum_p (by omega) f6
  have m := mT_cross (T := T) (v0 := a0.1) (v1 := a1.1) (v2 := a2.1) (v3 := a3.1) (v4 := a4.1) (v5 := a5.1) (v6 := a6.1) hm h10 b0.1 ⟨by omega, b0.2.1⟩ ⟨b1.1, b1.2.1⟩ ⟨b2.1, b2.2.1⟩ ⟨b3.1, b3.2.1⟩ ⟨b4.1, b4.2.1⟩ ⟨b5.1, b5.2.1⟩ ⟨b6.1, b6.2.1⟩
  rw [← h]
  dsimp only
  exact ⟨m, rCrT_o (T := T) (v0 := a0.1) (v1 := a1.1) (v2 := a2.1) (v3 := a3.1) (v4 := a4.1) (v5 := a5.1) (v6 := a6.1) (i := 7) (by omega) (by omega), by omega, by omega⟩
theorem rHead_p {U T sn : Int → Int} {n p : Int} {a : (Int → Int) × Int} (hp : p ≤ n) (hi : rIn T sn) (h : rHead U n T sn p = .ok a) : rIn a.1 (rSeen U n sn p) ∧ p ≤ a.2 ∧ a.2 ≤ n := by
  obtain ⟨hm, h6, hs, h0⟩ := hi
  have hm' := hm
  obtain ⟨g0, g1, g2, g3, g4, g5, g6, g7, gX, gO, gl, gs, gg, gb⟩ := hm'
  have bk := rE_p (c := cBl U) (n := n) (p := p)
  have bk2 := bk.2.1 hp
  have be := rE_p (c := cLe U) (n := n) (p := rE (cBl U) n p)
  have be2 := be.2.1 bk2
  have kb := rKey_b (U := U) (k := rE (cBl U) n p) (e := rE (cLe U) n (rE (cBl U) n p))
  unfold rHead at h
  dsimp only at h
  unfold rSeen
  dsimp only
  generalize rKey U (rE (cBl U) n p) (rE (cLe U) n (rE (cBl U) n p)) = w at h kb
  generalize rE (cLe U) n (rE (cBl U) n p) = e at h be be2
  generalize rE (cBl U) n p = k at h bk bk2 be be2
  by_cases q : w < 0 ∨ 8 < w ∨ (w ≤ 3 ∧ sn w = 1) ∨ (w = 0 ∧ sn 4 = 1)
  · rw [if_pos q] at h; cases h
  rw [if_neg q] at h
  have sn1 : ∀ j, (∀ i, 0 ≤ i → i ≤ 4 → mSet sn j 1 i = 0 ∨ mSet sn j 1 i = 1) := fun j i a b => by
    by_cases hq : i = j
    · rw [hq, mSet_s]; omega
    · rw [mSet_n hq]; exact hs i a b
  have low : w ≤ 3 → ∀ T', (mT T' ∧ T' 7 ≤ 6 ∧ (T' 4 = T 4 ∧ T' 5 = T 5 ∧ T' 6 = T 6 ∧ T' 7 = T 7)) → rIn T' (if w ≤ 3 then mSet sn w 1 else mSet sn 4 1) := fun hw T' hT' => by
    rw [if_pos hw]
    refine ⟨hT'.1, hT'.2.1, sn1 w, fun hz => ?_⟩
    rw [mSet_n (by omega)] at hz
    have := h0 hz
    omega
  have high : ¬ w ≤ 3 → ∀ T', (mT T' ∧ T' 7 ≤ 6) → rIn T' (if w ≤ 3 then mSet sn w 1 else mSet sn 4 1) := fun hw T' hT' => by
    rw [if_neg hw]
    refine ⟨hT'.1, hT'.2, sn1 4, fun hz => ?_⟩
    rw [mSet_s] at hz
    omega
  by_cases w0 : w = 0
  · rw [if_pos w0] at h
    unfold rOne at h
    obtain ⟨a0, f0, h⟩ := rB_inv h
    have b0 := rNum_p (by omega) f0
    rw [← ok_inj h]
    dsimp only
    have z := hs 4 (by omega) (by omega)
    refine ⟨low (by omega) _ ⟨mT_road hm ⟨b0.1, b0.2.1⟩ (h0 (by omega)), by rw [mSet_n (by omega)]; exact h6, mSet_n (by omega), mSet_n (by omega), mSet_n (by omega), mSet_n (by omega)⟩, by omega, by omega⟩
  rw [if_neg w0] at h
  by_cases w1 : w = 1
  · rw [if_pos w1] at h
    unfold rOne at h
    obtain ⟨a0, f0, h⟩ := rB_inv h
    have b0 := rNum_p (by omega) f0
    rw [← ok_inj h]
    dsimp only
    refine ⟨low (by omega) _ ⟨mT_set hm (by omega), by rw [mSet_n (by omega)]; exact h6, mSet_n (by omega), mSet_n (by omega), mSet_n (by omega), mSet_n (by omega)⟩, by omega, by omega⟩
  rw [if_neg w1] at h
  by_cases w2 : w = 2
  · rw [if_pos w2] at h
    unfold rOne at h
    obtain ⟨a0, f0, h⟩ := rB_inv h
    have b0 := rNum_p (by omega) f0
    rw [← ok_inj h]
    dsimp only
    refine ⟨low (by omega) _ ⟨mT_gap hm ⟨b0.1, b0.2.1⟩, by rw [mSet_n (by omega)]; exact h6, mSet_n (by omega), mSet_n (by omega), mSet_n (by omega), mSet_n (by omega)⟩, by omega, by omega⟩
  rw [if_neg w2] at h
  by_cases w3 : w = 3
  · rw [if_pos w3] at h
    unfold rOne at h
    obtain ⟨a0, f0, h⟩ := rB_inv h
    have b0 := rNum_p (by omega) f0
    rw [← ok_inj h]
    dsimp only
    refine ⟨low (by omega) _ ⟨mT_set hm (by omega), by rw [mSet_n (by omega)]; exact h6, mSet_n (by omega), mSet_n (by omega), mSet_n (by omega), mSet_n (by omega)⟩, by omega, by omega⟩
  rw [if_neg w3] at h
  by_cases w4 : w = 4
  · rw [if_pos w4] at h
    have c := rCross_p hm be2 h
    exact ⟨high (by omega) _ ⟨c.1, by omega⟩, by omega, by omega⟩
  rw [if_neg w4] at h
  by_cases w5 : w = 5
  · rw [if_pos w5] at h
    unfold rColumn at h
    obtain ⟨a0, f0, h⟩ := rB_inv h
    obtain ⟨p1, q1, h⟩ := rB_inv h
    obtain ⟨a1, f1, h⟩ := rB_inv h
    have b0 := rNum_p (by omega) f0
    have c1 := rWrd_p (by omega) q1
    have b1 := rNum_p (by omega) f1
    by_cases hc : 30 < T 5 + a0.1
    · rw [if_pos hc] at h; cases h
    rw [if_neg hc] at h
    rw [← ok_inj h]
    dsimp only
    refine ⟨high (by omega) _ ⟨mT_long hm (by omega) ⟨b1.1, b1.2.1⟩, ?_⟩, by omega, by omega⟩
    unfold rLong
    rw [if_neg (by omega), if_neg (by omega)]
    exact h6
  rw [if_neg w5] at h
  by_cases w6 : w = 6
  · rw [if_pos w6] at h
    unfold rSplit at h
    obtain ⟨a0, f0, h⟩ := rB_inv h
    have b0 := rNum_p (by omega) f0
    by_cases hc : T (108 + a0.1) = 1
    · rw [if_pos hc] at h; cases h
    rw [if_neg hc] at h
    rw [← ok_inj h]
    dsimp only
    exact ⟨high (by omega) _ ⟨mT_set hm (by omega), by rw [mSet_n (by omega)]; exact h6⟩, by omega, by omega⟩
  rw [if_neg w6] at h
  by_cases w7 : w = 7
  · rw [if_pos w7] at h
    unfold rGather at h
    by_cases hc : T 6 = 4
    · rw [if_pos hc] at h; cases h
    rw [if_neg hc] at h
    obtain ⟨a0, f0, h⟩ := rB_inv h
    have b0 := rNum_p (by omega) f0
    rw [← ok_inj h]
    dsimp only
    refine ⟨high (by omega) _ ⟨mT_gath hm (by omega) ⟨?_, b0.2.1⟩, by rw [mSet_n (by omega), mSet_n (by omega)]; exact h6⟩, by omega, by omega⟩
    have b1 := b0.1
    by_cases z : T 6 = 0
    · rw [if_pos z] at b1; exact b1
    · rw [if_neg z] at b1
      have := gg (T 6 - 1) (by omega) (by omega)
      rw [show 138 + (T 6 - 1) = 138 + T 6 - 1 by omega] at this
      omega
  rw [if_neg w7] at h
  unfold rBroken at h
  by_cases hc : T 7 = 6
  · rw [if_pos hc] at h; cases h
  rw [if_neg hc] at h
  obtain ⟨a0, f0, h⟩ := rB_inv h
  obtain ⟨p1, q1, h⟩ := rB_inv h
  obtain ⟨a1, f1, h⟩ := rB_inv h
  obtain ⟨p2, q2, h⟩ := rB_inv h
  obtain ⟨a2, f2, h⟩ := rB_inv h
  have b0 := rNum_p (by omega) f0
  have c1 := rWrd_p (by omega) q1
  have b1 := rNum_p (by omega) f1
  have c2 := rWrd_p (by omega) q2
  have b2 := rNum_p (by omega) f2
  rw [← ok_inj h]
  dsimp only
  exact ⟨high (by omega) _ ⟨mT_brt hm (by omega) (by omega) (by omega) (by omega), by rw [mBrT_7]; omega⟩, by omega, by omega⟩
theorem rLine_p {U T sn : Int → Int} {n p : Int} {a : (Int → Int) × (Int → Int) × Int} (hp : p ≤ n) (hi : rIn T sn) (h : rLine U n T sn p = .ok a) : rIn a.1 a.2.1 ∧ p < a.2.2 ∧ a.2.2 ≤ n := by
  unfold rLine at h
  obtain ⟨b, h1, h⟩ := rB_inv h
  obtain ⟨e, h2, h⟩ := rB_inv h
  have c := rHead_p hp hi h1
  have bk := rE_p (c := cBl U) (n := n) (p := b.2)
  rw [← ok_inj h]
  dsimp only
  unfold rSemi at h2
  by_cases q : rE (cBl U) n b.2 < n ∧ U (rE (cBl U) n b.2) = 59
  · rw [if_pos q] at h2
    have := ok_inj h2
    exact ⟨c.1, by omega, by omega⟩
  · rw [if_neg q] at h2; cases h2
end RD7
