section REF7
variable {X : List Int32} {d : Nat} {F : XF}
def mBd (m w : Int) (a : Int × Int) : Int × Int := if m < a.1 then (m, w) else a
theorem p177 {m w : Int} {Q : XF → Prop} (hP : xPT F) (hm : inR m) (h1 : inR (F 131 21)) (h2 : 3 ≤ F 131 22 ∧ F 131 22 ≤ w) (hw : w ≤ 6) (q : ∀ G, xPT G → (∀ p i, ¬ (p = 131 ∧ (i = 21 ∨ i = 22)) → G p i = F p i) → (G 131 21, G 131 22) = mBd m w (F 131 21, F 131 22) → Q G) : xMV X d 177 [.ref 131, vi m, vi w] F Q := by
  have same : ¬ m < F 131 21 → xPT F → Q F := fun h hG => q F hG (fun _ _ _ => rfl) (by unfold mBd; rw [if_neg h])
  have other : m < F 131 21 → xPT (xup (xup F 131 21 m) 131 22 w) → Q (xup (xup F 131 21 m) 131 22 w) := fun h hG => q _ hG (fun p i hn => by simp only [xup]; rw [if_neg (by omega), if_neg (by omega)]) (by unfold mBd; rw [if_pos h]; simp [xup])
  exact m177 hP ⟨hm, h1, fun c hG => same (by omega) hG, fun c => ⟨hm, h1, fun c1 hG => other (by omega) hG, fun c1 => ⟨⟨by omega, by omega⟩, fun _ hG => same (by omega) hG, fun c2 => ⟨⟨by omega, by omega⟩, ⟨by omega, by omega⟩, fun c3 hG => absurd c3 (by omega), fun _ hG => same (by omega) hG⟩⟩⟩⟩
/-- the events: -1 how many; then four for each -/
def mHap (E : Int → Int) (what t x who : Int) : Int → Int := if E (-1) = 200 then E else fun i => if i = -1 then E (-1) + 1 else if i = 4 * E (-1) then what else if i = 4 * E (-1) + 1 then t else if i = 4 * E (-1) + 2 then x else if i = 4 * E (-1) + 3 then who else E i
def mEq (F : XF) (E : Int → Int) : Prop := F 131 20 = E (-1) ∧ (∀ i, 0 ≤ i → i < 800 → F 141 i = E i) ∧ 0 ≤ E (-1) ∧ E (-1) ≤ 200
/-- all but the events is as it was -/
def mKe (F G : XF) : Prop := ∀ p i, ¬ p = 141 → ¬ (p = 131 ∧ i = 20) → G p i = F p i
theorem mKe.trans {F G H : XF} (a : mKe F G) (b : mKe G H) : mKe F H := fun p i h1 h2 => (b p i h1 h2).trans (a p i h1 h2)
theorem p179 {what t x who : Int} {E : Int → Int} {Q : XF → Prop} (hP : xPT F) (hE : mEq F E) (q : ∀ G, xPT G → mKe F G → mEq G (mHap E what t x who) → Q G) : xMV X d 179 [.ref 131, vi what, vi t, vi x, vi who] F Q := by
  obtain ⟨e1, e2, e3, e4⟩ := hE
  refine m179 hP ⟨⟨by omega, by omega⟩, fun c => ⟨⟨by omega, by omega⟩, ⟨by omega, by omega⟩, ⟨by omega, by omega⟩, ⟨by omega, by omega⟩, fun hG => q _ hG (fun p i h1 h2 => ?_) ?_⟩, fun c hG => q F hG (fun _ _ _ _ => rfl) ?_⟩
  · simp only [xup]
    rw [if_neg (by omega), if_neg (by omega), if_neg (by omega), if_neg (by omega), if_neg (by omega)]
  · have ne : ¬ E (-1) = 200 := by omega
    unfold mHap
    rw [if_neg ne]
    refine ⟨by simp [xup, e1], fun i a b => ?_, ?_, ?_⟩
    · dsimp only
      rw [if_neg (show ¬ i = -1 by omega), ← e1]
      simp only [xup]
      rw [if_neg (by omega)]
      by_cases h0 : i = 4 * F 131 20
      · rw [if_neg (by omega), if_neg (by omega), if_neg (by omega), if_pos ⟨trivial, h0⟩, if_pos h0]
      · by_cases h1 : i = 4 * F 131 20 + 1
        · rw [if_neg (by omega), if_neg (by omega), if_pos ⟨trivial, h1⟩, if_neg h0, if_pos h1]
        · by_cases h2 : i = 4 * F 131 20 + 2
          · rw [if_neg (by omega), if_pos ⟨trivial, h2⟩, if_neg h0, if_neg h1, if_pos h2]
          · by_cases h3 : i = 4 * F 131 20 + 3
            · rw [if_pos ⟨trivial, h3⟩, if_neg h0, if_neg h1, if_neg h2, if_pos h3]
            · rw [if_neg (by omega), if_neg (by omega), if_neg (by omega), if_neg (by omega), if_neg h0, if_neg h1, if_neg h2, if_neg h3]
              exact e2 i a b
    · dsimp only
      rw [if_pos rfl]
      omega
    · dsimp only
      rw [if_pos rfl]
      omega
  · unfold mHap
    rw [if_pos (by omega)]
    exact ⟨e1, e2, e3, e4⟩
/-- what happens at the crossings from x on as a car of a section s goes on from f -/
def mTl (T : Int → Int) (ld la : Int) (g c s f t : Int) : Nat → Int → (Int → Int) → Int → Int
  | 0, _, E => E
  | n + 1, x, E => mTl T ld la g c s f t n (x + 1)
    (if la = c ∧ f - T (78 + c) < T (8 + 7 * x) + T (8 + 7 * x + 1) ∧ T (8 + 7 * x) + T (8 + 7 * x + 1) ≤ g - T (78 + c) then
      mHap (if ld = c ∧ f ≤ T (8 + 7 * x) ∧ T (8 + 7 * x) < g then mHap E 0 t x s else E) 1 t x s
     else (if ld = c ∧ f ≤ T (8 + 7 * x) ∧ T (8 + 7 * x) < g then mHap E 0 t x s else E))
def mTell (T : Int → Int) (S : Nat → Int → Int) (g c f t : Int) (E : Int → Int) : Int → Int :=
  if T 0 ≤ g - T (78 + c) then mHap (mTl T (S 2 (S 1 c)) (S 3 (S 1 c)) g c (S 1 c) f t (T 4).toNat 0 E) 2 t (-1) c else mTl T (S 2 (S 1 c)) (S 3 (S 1 c)) g c (S 1 c) f t (T 4).toNat 0 E
theorem mKe.r {F G : XF} (a : mKe F G) : G 132 = F 132 ∧ G 137 = F 137 ∧ G 138 = F 138 ∧ G 140 = F 140 ∧ G 136 = F 136 := ⟨funext fun i => a 132 i (by decide) (by omega), funext fun i => a 137 i (by decide) (by omega), funext fun i => a 138 i (by decide) (by omega), funext fun i => a 140 i (by decide) (by omega), funext fun i => a 136 i (by decide) (by omega)⟩
theorem l180 {c s f t : Int} {Q : XF → Prop} (hd : 1 < d) (F0 : XF) (hT : mT (F0 132)) (hs : 0 ≤ s ∧ s < 30) (hc : 0 ≤ c ∧ c < F0 132 5) (hld : inR (F0 137 s) ∧ inR (F0 138 s)) (hf : -100000 ≤ f ∧ f ≤ 100000) (hR : -100000 ≤ F0 140 c ∧ F0 140 c ≤ 100000) (E1 : Int → Int) (q : ∀ G, xPT G → mKe F0 G → mEq G (if F0 132 0 ≤ F0 140 c - F0 132 (78 + c) then mHap E1 2 t (-1) c else E1) → Q G) : ∀ (n k : Nat) (F : XF) (E : Int → Int) (w : Value), xPT F → (k : Int) + n = F0 132 4 → mKe F0 F → mEq F E → mTl (F0 132) (F0 137 s) (F0 138 s) (F0 140 c) c s f t n k E = E1 → xW X d 180 11 [.ref 131, vi c, vi f, vi t, vi s, vi k, w] [] F (xqv Q) := by
  obtain ⟨h0, _, _, _, h4, h5, _, _, hX, _, hl, _⟩ := hT
  have hlc := hl c hc.1 hc.2
  intro n
  induction n with
  | zero =>
    intro k F E w hP hk hF hE hE1
    obtain ⟨e, e7, e8, e0, _⟩ := hF.r
    unfold mTl at hE1
    subst hE1
    refine s180_11 hP ⟨⟨by omega, by omega⟩, by rw [e]; constructor <;> omega, fun _ => ⟨1, hd, p172 hP (by omega) (by omega) (by omega) ?_ fun y hy => ⟨hy.r, fun c1 hG => q F hG hF ?_, fun c1 => ⟨1, hd, p179 hP hE fun G hG k1 hE2 _ => q G hG (hF.trans k1) ?_⟩⟩⟩, fun c => absurd (by rw [e]; omega) c⟩
    · rw [e, e0, Int.zero_add]; constructor <;> constructor <;> omega
    · have := hy.f c1
      rw [e, e0, Int.zero_add] at this
      rw [if_neg this]; exact hE
    · have := hy.t c1
      rw [e, e0, Int.zero_add] at this
      rw [if_pos this]; exact hE2
  | succ n ih =>
    intro k F E w hP hk hF hE hE1
    obtain ⟨e, e7, e8, e0, _⟩ := hF.r
    have hXk := hX k (by omega) (by omega)
    unfold mX at hXk
    unfold mTl at hE1
    -- behind the first event
    have second : ∀ (F2 : XF) (E2 : Int → Int), xPT F2 → mKe F0 F2 → mEq F2 E2 → mTl (F0 132) (F0 137 s) (F0 138 s) (F0 140 c) c s f t n (k + 1) (if F0 138 s = c ∧ f - F0 132 (78 + c) < F0 132 (8 + 7 * k) + F0 132 (8 + 7 * k + 1) ∧ F0 132 (8 + 7 * k) + F0 132 (8 + 7 * k + 1) ≤ F0 140 c - F0 132 (78 + c) then mHap E2 1 t k s else E2) = E1 → xW X d 180 83 [.ref 131, vi c, vi f, vi t, vi s, vi k, vi (F0 132 (8 + 7 * k) + F0 132 (8 + 7 * k + 1))] [] F2 (xqv Q) := by
      intro F2 E2 hP2 k2 hE2 hh
      obtain ⟨a, a7, a8, a0, _⟩ := k2.r
      have no : ¬ (F0 138 s = c ∧ f - F0 132 (78 + c) < F0 132 (8 + 7 * k) + F0 132 (8 + 7 * k + 1) ∧ F0 132 (8 + 7 * k) + F0 132 (8 + 7 * k + 1) ≤ F0 140 c - F0 132 (78 + c)) → ∀ w, xW X d 180 11 [.ref 131, vi c, vi f, vi t, vi s, vi ((k : Int) + 1), w] [] F2 (xqv Q) := fun hn w => by
        rw [if_neg hn] at hh
        exact ih (k + 1) F2 E2 w hP2 (by omega) k2 hE2 hh
      refine s180_83 hP2 ⟨⟨by omega, by omega⟩, by rw [a8]; exact hld.2, ⟨by omega, by omega⟩, fun c1 _ => no (by rw [a8] at c1; omega) _, fun c1 => ⟨⟨by omega, by omega⟩, by rw [a]; constructor <;> omega, ⟨by omega, by omega⟩, fun c2 _ => no (by rw [a] at c2; omega) _, fun c2 => ⟨1, hd, p171 hP2 (by omega) (by omega) ⟨by rw [a, a0, Int.zero_add]; constructor <;> omega, ⟨by omega, by omega⟩, fun c3 _ => no (by rw [a, a0, Int.zero_add] at c3; omega) _, fun c3 => ⟨1, hd, p179 hP2 hE2 fun G hG k3 hE3 _ => ?_⟩⟩⟩⟩⟩
      rw [a8] at c1
      rw [a] at c2
      rw [a, a0, Int.zero_add] at c3
      rw [if_pos (by omega)] at hh
      exact ih (k + 1) G _ _ hG (by omega) (k2.trans k3) hE3 hh
    have first : ∀ (F2 : XF), xPT F2 → mKe F0 F2 → mEq F2 (if F0 137 s = c ∧ f ≤ F0 132 (8 + 7 * k) ∧ F0 132 (8 + 7 * k) < F0 140 c then mHap E 0 t k s else E) → xW X d 180 83 [.ref 131, vi c, vi f, vi t, vi s, vi k, vi (F0 132 (8 + 7 * k) + F0 132 (8 + 7 * k + 1))] [] F2 (xqv Q) := fun F2 hP2 k2 hE2 => second F2 _ hP2 k2 hE2 hE1
    have f0 : ¬ (F0 137 s = c ∧ f ≤ F0 132 (8 + 7 * k) ∧ F0 132 (8 + 7 * k) < F0 140 c) → xW X d 180 83 [.ref 131, vi c, vi f, vi t, vi s, vi k, vi (F0 132 (8 + 7 * k) + F0 132 (8 + 7 * k + 1))] [] F (xqv Q) := fun hn => first F hP hF (by rw [if_neg hn]; exact hE)
    rw [← e] at f0 first
    rw [← e] at hXk h0
    refine s180_11 hP ⟨⟨by omega, by omega⟩, by rw [e]; constructor <;> omega, fun c => absurd c (by rw [e]; omega), fun _ => ⟨1, hd, p164 hP (by omega) ⟨1, hd, p165 hP (by omega) ⟨⟨by omega, by omega⟩, by rw [e7]; exact hld.1, ⟨by omega, by omega⟩, fun c1 _ => f0 (by rw [e7] at c1; omega), fun c1 => ⟨1, hd, p164 hP (by omega) ⟨⟨by omega, by omega⟩, ⟨by omega, by omega⟩, fun c2 _ => f0 (by omega), fun c2 => ⟨⟨by omega, by omega⟩, 1, hd, p164 hP (by omega) ⟨by rw [e0]; constructor <;> omega, ⟨by omega, by omega⟩, fun c3 _ => f0 (by rw [e0] at c3; omega), fun c3 => ⟨1, hd, p179 hP hE fun G hG k3 hE3 _ => ?_⟩⟩⟩⟩⟩⟩⟩⟩⟩
    rw [e7] at c1
    rw [e0] at c3
    refine first G hG (hF.trans k3) ?_
    rw [if_pos (by omega)]
    exact hE3
theorem p180 {c f t : Int} {E : Int → Int} {Q : XF → Prop} (hP : xPT F) (hd : 1 < d) (hT : mT (F 132)) (hS : mSA (F 132 5).toNat F) (hc : 0 ≤ c ∧ c < F 132 5) (hf : -100000 ≤ f ∧ f ≤ 100000) (hR : -100000 ≤ F 140 c ∧ F 140 c ≤ 100000) (hE : mEq F E) (q : ∀ G, xPT G → mKe F G → mEq G (mTell (F 132) (mL (F 132) (F 132 5).toNat) (F 140 c) c f t E) → Q G) : xMV X d 180 [.ref 131, vi c, vi f, vi t] F Q := by
  have h4 := hT.2.2.2.2.1
  have h5 := hT.2.2.2.2.2.1
  have hSb := hS.b hT (by omega)
  have s1 := hS.2.1 c hc.1 (by omega)
  have sb := hSb.2.2 c hc.1 hc.2
  have s3 := hS.2.2 (F 136 c) sb.1 (by have := hS.1; omega)
  have sb2 := hSb.2.1 (F 136 c) sb.1 sb.2
  have hn := hSb.1
  refine m180 hP ⟨⟨by omega, by omega⟩, fun hG => l180 hd F hT (by omega) hc ⟨⟨by omega, by omega⟩, ⟨by omega, by omega⟩⟩ hf hR _ (fun G hG k hE2 => q G hG k ?_) (F 132 4).toNat 0 F E _ hG (by omega) (fun _ _ _ _ => rfl) hE rfl⟩
  unfold mTell
  rw [← s1, ← s3.1, ← s3.2.1]
  exact hE2
end REF7
