section REF4
variable {X : List Int32} {d : Nat} {F : XF}
/-- what a tick of the run at r leaves as it was -/
def mKt (r : Int) (F G : XF) : Prop := (∀ p i, ¬ p = 131 → ¬ p = 140 → ¬ p = 141 → G p i = F p i) ∧ (∀ i, ¬ i = 20 → ¬ i = 21 → ¬ i = 22 → G 131 i = F 131 i) ∧ (∀ i, ¬ (r ≤ i ∧ i < r + 132) → G 140 i = F 140 i) ∧ (¬ r = 0 → (∀ i, G 141 i = F 141 i) ∧ G 131 20 = F 131 20)
/-- the same, and the sections may change -/
def mKp (r : Int) (F G : XF) : Prop := (∀ p i, ¬ p = 131 → ¬ p = 136 → ¬ p = 137 → ¬ p = 138 → ¬ p = 139 → ¬ p = 140 → ¬ p = 141 → G p i = F p i) ∧ (∀ i, ¬ i = 17 → ¬ i = 20 → ¬ i = 21 → ¬ i = 22 → G 131 i = F 131 i) ∧ (∀ i, ¬ (r ≤ i ∧ i < r + 132) → G 140 i = F 140 i) ∧ (¬ r = 0 → (∀ i, G 141 i = F 141 i) ∧ G 131 20 = F 131 20)
theorem mKt.trans {r : Int} {F G H : XF} (a : mKt r F G) (b : mKt r G H) : mKt r F H := ⟨fun p i h1 h2 h3 => (b.1 p i h1 h2 h3).trans (a.1 p i h1 h2 h3), fun i h1 h2 h3 => (b.2.1 i h1 h2 h3).trans (a.2.1 i h1 h2 h3), fun i h => (b.2.2.1 i h).trans (a.2.2.1 i h), fun h => ⟨fun i => ((b.2.2.2 h).1 i).trans ((a.2.2.2 h).1 i), (b.2.2.2 h).2.trans (a.2.2.2 h).2⟩⟩
theorem mKp.trans {r : Int} {F G H : XF} (a : mKp r F G) (b : mKp r G H) : mKp r F H := ⟨fun p i h1 h2 h3 h4 h5 h6 h7 => (b.1 p i h1 h2 h3 h4 h5 h6 h7).trans (a.1 p i h1 h2 h3 h4 h5 h6 h7), fun i h0 h1 h2 h3 => (b.2.1 i h0 h1 h2 h3).trans (a.2.1 i h0 h1 h2 h3), fun i h => (b.2.2.1 i h).trans (a.2.2.1 i h), fun h => ⟨fun i => ((b.2.2.2 h).1 i).trans ((a.2.2.2 h).1 i), (b.2.2.2 h).2.trans (a.2.2.2 h).2⟩⟩
theorem mKt.p {r : Int} {F G : XF} (a : mKt r F G) : mKp r F G := ⟨fun p i h1 _ _ _ _ h6 h7 => a.1 p i h1 h6 h7, fun i _ h1 h2 h3 => a.2.1 i h1 h2 h3, a.2.2.1, a.2.2.2⟩
theorem mSK.p {r : Int} {F G : XF} (a : mSK F G) : mKp r F G := ⟨fun p i h1 h2 h3 h4 h5 _ _ => a.1 p i h1 h2 h3 h4 h5, fun i h _ _ _ => a.2 i h, fun i _ => a.1 140 i (by decide) (by decide) (by decide) (by decide) (by decide), fun _ => ⟨fun i => a.1 141 i (by decide) (by decide) (by decide) (by decide) (by decide), a.2 20 (by decide)⟩⟩
theorem mKt.refl {r : Int} {F : XF} : mKt r F F := ⟨fun _ _ _ _ _ => rfl, fun _ _ _ _ => rfl, fun _ _ => rfl, fun _ => ⟨fun _ => rfl, rfl⟩⟩
theorem mKp.refl {r : Int} {F : XF} : mKp r F F := mKt.refl.p
theorem mKt.t {r : Int} {F G : XF} (a : mKt r F G) : G 132 = F 132 := funext fun i => a.1 132 i (by decide) (by decide) (by decide)
theorem mKp.t {r : Int} {F G : XF} (a : mKp r F G) : G 132 = F 132 := funext fun i => a.1 132 i (by decide) (by decide) (by decide) (by decide) (by decide) (by decide) (by decide)
theorem mKt.s {r : Int} {F G : XF} (a : mKt r F G) : G 136 = F 136 ∧ G 137 = F 137 ∧ G 138 = F 138 ∧ G 139 = F 139 ∧ G 131 17 = F 131 17 := ⟨funext fun i => a.1 136 i (by decide) (by decide) (by decide), funext fun i => a.1 137 i (by decide) (by decide) (by decide), funext fun i => a.1 138 i (by decide) (by decide) (by decide), funext fun i => a.1 139 i (by decide) (by decide) (by decide), a.2.1 17 (by decide) (by decide) (by decide)⟩
theorem mKt.up {r i v : Int} {F G : XF} (a : mKt r F G) (h : r ≤ i ∧ i < r + 132) : mKt r F (xup G 140 i v) := a.trans ⟨fun p j h1 h2 h3 => by simp [xup, h2], fun j h1 h2 h3 => by simp [xup], fun j hj => by simp only [xup]; rw [if_neg]; intro hq; exact hj (by omega), fun _ => ⟨fun j => by simp [xup], by simp [xup]⟩⟩
theorem mSA.of {k : Nat} {F G : XF} (h : mSA k F) (e : G 132 = F 132) (a : G 136 = F 136 ∧ G 137 = F 137 ∧ G 138 = F 138 ∧ G 139 = F 139 ∧ G 131 17 = F 131 17) : mSA k G := by
  unfold mSA at *
  rw [e, a.1, a.2.1, a.2.2.1, a.2.2.2.1, a.2.2.2.2]
  exact h
theorem mSA.b {k : Nat} {F : XF} (h : mSA k F) (hT : mT (F 132)) (hk : (k : Int) = F 132 5) : mSb F := by
  have b := mL_b hT k (by omega)
  have h5 := hT.2.2.2.2.2.1
  obtain ⟨s1, s2, s3⟩ := h
  refine ⟨by omega, fun s a c => ?_, fun c a d => ?_⟩
  · have := s3 s a (by omega)
    have := b.2.2.2 s a (by omega)
    omega
  · have := s2 c a (by omega)
    have := b.2.2.1 c a (by omega)
    omega
/-- where a car begins -/
def mF0 (T : Int → Int) : Nat → Int
  | 0 => 0
  | c + 1 => mF0 T c - T (78 + (c : Int)) - T 2
/-- a run at its beginning, its first k cars set -/
def mBg (T : Int → Int) (k : Int) : Int → Int := fun i => if 0 ≤ i ∧ i < k then mF0 T i.toNat else if 30 ≤ i ∧ i < 30 + k then -1 else 0
def mBeg (T : Int → Int) : Int → Int := mBg T (T 5)
theorem l170a {r : Int} {Q : XF → Prop} (hr : 0 ≤ r ∧ r ≤ 132) (F0 : XF) (q : ∀ G, xPT G → mKt r F0 G → (∀ i, 0 ≤ i → i < 132 → G 140 (r + i) = 0) → xW X d 170 30 [.ref 131, vi r, vi 0] [] G (xqv Q)) : ∀ (n k : Nat) (F : XF), xPT F → k + n = 132 → mKt r F0 F → (∀ i : Int, 0 ≤ i → i < k → F 140 (r + i) = 0) → xW X d 170 6 [.ref 131, vi r, vi k] [] F (xqv Q) := by
  intro n
  induction n with
  | zero =>
    intro k F hP hk hF h
    exact s170_6 hP ⟨⟨by omega, by omega⟩, fun _ _ => q F hP hF fun i a b => h i a (by omega), fun c => absurd (by omega) c⟩
  | succ n ih =>
    intro k F hP hk hF h
    refine s170_6 hP ⟨⟨by omega, by omega⟩, fun c => absurd c (by omega), fun _ => ⟨⟨by omega, by omega⟩, fun hG => ih (k + 1) _ hG (by omega) (hF.up (by omega)) fun i a b => ?_⟩⟩
    simp only [xup]
    by_cases hq : i = k
    · rw [if_pos ⟨trivial, by omega⟩]
    · rw [if_neg (by omega)]
      exact h i a (by omega)
theorem l170b {r : Int} {Q : XF → Prop} (hd : 0 < d) (hr : 0 ≤ r ∧ r ≤ 132) (F0 : XF) (hT : mT (F0 132)) (q : ∀ G, xPT G → mKt r F0 G → (∀ i, 0 ≤ i → i < 132 → G 140 (r + i) = mBeg (F0 132) i) → (r = 0 → G 131 20 = 0) → Q G) : ∀ (n k : Nat) (F : XF), xPT F → (k : Int) + n = F0 132 5 → mKt r F0 F → (∀ i : Int, 0 ≤ i → i < 132 → F 140 (r + i) = mBg (F0 132) k i) → xW X d 170 30 [.ref 131, vi r, vi k] [] F (xqv Q) := by
  have h5 := hT.2.2.2.2.2.1
  intro n
  induction n with
  | zero =>
    intro k F hP hk hF h
    have e := hF.t
    have hb : ∀ i, 0 ≤ i → i < 132 → F 140 (r + i) = mBeg (F0 132) i := fun i a b => by
      unfold mBeg
      rw [← show (k : Int) = F0 132 5 by omega]
      exact h i a b
    refine s170_30 hP ⟨0, hd, p154 hP ⟨⟨by omega, by omega⟩, by rw [e]; constructor <;> omega, fun _ => ⟨⟨by omega, by omega⟩, fun c hG => q F hG hF hb fun z => absurd z c, fun c hG => ?_⟩, fun c => absurd (by rw [e]; omega) c⟩⟩
    refine q _ hG (hF.trans ⟨fun p i h1 _ _ => by simp [xup, h1], fun i h1 _ _ => by simp [xup, h1], fun i _ => by simp [xup], fun z => absurd (by omega) z⟩) (fun i a b => ?_) (fun _ => by simp [xup])
    rw [← hb i a b]
    simp [xup]
  | succ n ih =>
    intro k F hP hk hF h
    have e := hF.t
    have step : ∀ v : Int, v = mF0 (F0 132) k → xPT (xup (xup F 140 (r + k) v) 140 (r + 30 + k) (-1)) → xW X d 170 30 [.ref 131, vi r, vi ((k : Int) + 1)] [] (xup (xup F 140 (r + k) v) 140 (r + 30 + k) (-1)) (xqv Q) := by
      intro v hv hG
      refine ih (k + 1) _ hG (by omega) ((hF.up (by omega)).up (by omega)) fun i a b => ?_
      simp only [xup]
      by_cases h1 : i = 30 + k
      · rw [if_pos ⟨trivial, by omega⟩]
        unfold mBg
        rw [if_neg (by omega), if_pos (by omega)]
      · rw [if_neg (by omega)]
        by_cases h2 : i = k
        · rw [if_pos ⟨trivial, by omega⟩]
          unfold mBg
          rw [if_pos (by omega), h2, hv]
          rfl
        · rw [if_neg (by omega), h i a b]
          unfold mBg
          by_cases h3 : 0 ≤ i ∧ i < (k : Int)
          · rw [if_pos h3, if_pos (by omega)]
          · rw [if_neg h3]
            by_cases h4 : 30 ≤ i ∧ i < 30 + (k : Int)
            · rw [if_pos h4, if_neg (show ¬ (0 ≤ i ∧ i < ((k + 1 : Nat) : Int)) by omega), if_pos (by omega)]
            · rw [if_neg h4, if_neg (show ¬ (0 ≤ i ∧ i < ((k + 1 : Nat) : Int)) by omega), if_neg (by omega)]
    refine s170_30 hP ⟨0, hd, p154 hP ⟨⟨by omega, by omega⟩, by rw [e]; constructor <;> omega, fun c => absurd c (by rw [e]; omega), fun _ => ⟨⟨by omega, by omega⟩, fun c => ⟨0, hd, p171 hP hr (by omega) ⟨⟨by omega, by omega⟩, ⟨by omega, by omega⟩, fun hG => step _ ?_ hG⟩⟩, fun c => ⟨⟨by omega, by omega⟩, ⟨by omega, by omega⟩, fun hG => step _ ?_ hG⟩⟩⟩⟩
    · obtain ⟨m, rfl⟩ : ∃ m, k = m + 1 := ⟨k - 1, by omega⟩
      have := h m (by omega) (by omega)
      rw [e, show r + (((m + 1 : Nat) : Int) - 1) = r + m by omega, this, show (((m + 1 : Nat) : Int) - 1) = m by omega]
      unfold mBg
      rw [if_pos (by omega)]
      rfl
    · have : k = 0 := by omega
      subst this
      rfl
theorem p170 {r : Int} {Q : XF → Prop} (hP : xPT F) (hd : 1 < d) (hT : mT (F 132)) (hr : 0 ≤ r ∧ r ≤ 132) (q : ∀ G, xPT G → mKp r F G → mSA (F 132 5).toNat G → (∀ i, 0 ≤ i → i < 132 → G 140 (r + i) = mBeg (F 132) i) → (r = 0 → G 131 20 = 0) → Q G) : xMV X d 170 [.ref 131, vi r] F Q := by
  have h5 := hT.2.2.2.2.2.1
  refine m170 hP ⟨1, hd, p163 hP (by omega) hT fun G1 hG1 k1 s1 _ => ?_⟩
  refine l170a hr G1 (fun G2 hG2 k2 z2 => ?_) 132 0 G1 hG1 (by omega) mKt.refl (fun i a b => by omega)
  have e1 := k1.t
  have e2 := k2.t
  rw [← e1, ← e2] at hT
  refine l170b (by omega) hr G2 hT (fun G3 hG3 k3 z3 z4 => ?_) (F 132 5).toNat 0 G2 hG2 (by rw [e2, e1]; omega) mKt.refl (fun i a b => ?_)
  · refine q G3 hG3 (k1.p.trans (k2.p.trans k3.p)) ((s1.of k2.t k2.s).of k3.t k3.s) (fun i a b => ?_) z4
    rw [z3 i a b, e2, e1]
  · rw [z2 i a b]
    unfold mBg
    rw [if_neg (by omega), if_neg (by omega)]
end REF4
