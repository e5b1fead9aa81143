section REF2
variable {X : List Int32} {d : Nat} {F : XF}
def mBrk (T : Int → Int) (c t : Int) : Prop := ∃ k, 0 ≤ k ∧ k < T 7 ∧ T (142 + 3 * k) = c ∧ T (142 + 3 * k + 1) ≤ t ∧ t ≤ T (142 + 3 * k + 1) + T (142 + 3 * k + 2) - 1
theorem l174 {c t : Int} {Q : Int → XF → Prop} (hP : xPT F) (hd : 0 < d) (hT : mT (F 132)) (hc : inR c) (ht : inR t) (q : ∀ y, mB y (mBrk (F 132) c t) → Q y F) : ∀ (n : Nat) (k : Int) (w : Value), 0 ≤ k → k + n = F 132 7 → (∀ k', 0 ≤ k' → k' < k → ¬ (F 132 (142 + 3 * k') = c ∧ F 132 (142 + 3 * k' + 1) ≤ t ∧ t ≤ F 132 (142 + 3 * k' + 1) + F 132 (142 + 3 * k' + 2) - 1)) → xW X d 174 2 [.ref 131, vi c, vi t, vi k, w] [] F (xqi Q) := by
  obtain ⟨_, _, _, _, _, _, _, h7, _, _, _, _, _, hb⟩ := hT
  intro n
  induction n with
  | zero =>
    intro k w h0 hk hn
    refine s174_2 hP ⟨⟨by omega, by omega⟩, ⟨by omega, by omega⟩, fun _ _ => q _ (mB.i0 ?_), fun c => absurd (show F 132 7 ≤ k by omega) c⟩
    rintro ⟨k', h1, h2, h3⟩
    exact hn k' h1 (by omega) h3
  | succ n ih =>
    intro k w h0 hk hn
    have hbk := hb k h0 (by omega)
    refine s174_2 hP ⟨⟨by omega, by omega⟩, ⟨by omega, by omega⟩, fun c => absurd c (by omega), fun _ => ⟨⟨by omega, by omega⟩, ⟨by omega, by omega⟩, hc, fun c1 _ => ?_, fun c1 => ⟨ht, ⟨by omega, by omega⟩, ⟨by omega, by omega⟩, ⟨by omega, by omega⟩, ⟨by omega, by omega⟩, ⟨by omega, by omega⟩, 0, hd, p132 hP ⟨⟨by omega, by omega⟩, ⟨by omega, by omega⟩, ⟨by omega, by omega⟩⟩ fun y e => ⟨e.r, fun c2 _ => ?_, fun c2 _ => q _ (mB.i1 ⟨k, h0, by omega, by omega, (e.t c2).1, (e.t c2).2⟩)⟩⟩⟩⟩
    · refine ih (k + 1) _ (by omega) (by omega) fun k' h1 h2 h3 => ?_
      by_cases hq : k' = k
      · subst hq; exact c1 h3.1
      · exact hn k' h1 (by omega) h3
    · refine ih (k + 1) _ (by omega) (by omega) fun k' h1 h2 h3 => ?_
      by_cases hq : k' = k
      · subst hq; exact e.f c2 h3.2
      · exact hn k' h1 (by omega) h3
theorem p174 {c t : Int} {Q : Int → XF → Prop} (hP : xPT F) (hd : 0 < d) (hT : mT (F 132)) (hc : inR c) (ht : inR t) (q : ∀ y, mB y (mBrk (F 132) c t) → Q y F) : xMI X d 174 [.ref 131, vi c, vi t] F Q := by
  have h7 := hT.2.2.2.2.2.2.2.1
  exact m174 hP fun _ => l174 hP hd hT hc ht q (F 132 7).toNat 0 _ (by omega) (by omega) (fun k' h1 h2 => by omega)
/-- the cars stand in their gaps -/
def mClo (T R : Int → Int) : Prop := ∀ c, 1 ≤ c → c < T 5 → R c = R (c - 1) - T (78 + (c - 1)) - T 2
/-- the fronts of a run are in their bounds -/
def mFr (T R : Int → Int) : Prop := ∀ c, 0 ≤ c → c < T 5 → -100000 ≤ R c ∧ R c ≤ 100000
theorem l175 {r : Int} {Q : Int → XF → Prop} (hP : xPT F) (hd : 0 < d) (hT : mT (F 132)) (hr : 0 ≤ r ∧ r ≤ 132) (hR : mFr (F 132) (fun i => F 140 (r + i))) (q : ∀ y, mB y (mClo (F 132) (fun i => F 140 (r + i))) → Q y F) : ∀ (n : Nat) (k : Int), 1 ≤ k → k + n = 31 → (∀ k', 1 ≤ k' → k' < k → k' < F 132 5 → F 140 (r + k') = F 140 (r + (k' - 1)) - F 132 (78 + (k' - 1)) - F 132 2) → xW X d 175 2 [.ref 131, vi r, vi k] [] F (xqi Q) := by
  obtain ⟨_, _, h2, _, _, h5, _, _, _, _, hl, _⟩ := hT
  have stop : ∀ k, 1 ≤ k → k ≤ 31 → F 132 5 ≤ k → (∀ k', 1 ≤ k' → k' < k → k' < F 132 5 → F 140 (r + k') = F 140 (r + (k' - 1)) - F 132 (78 + (k' - 1)) - F 132 2) → xW X d 175 2 [.ref 131, vi r, vi k] [] F (xqi Q) := by
    intro k h1 h31 hk hn
    exact s175_2 hP ⟨0, hd, p154 hP ⟨⟨by omega, by omega⟩, ⟨by omega, by omega⟩, fun _ _ => q _ (mB.i1 fun c a b => hn c a (by omega) b), fun c => absurd hk c⟩⟩
  intro n
  induction n with
  | zero => intro k h1 hk hn; exact stop k h1 (by omega) (by omega) hn
  | succ n ih =>
    intro k h1 hk hn
    by_cases hs : F 132 5 ≤ k
    · exact stop k h1 (by omega) hs hn
    · have a1 := hR k (by omega) (by omega)
      have a2 := hR (k - 1) (by omega) (by omega)
      have a3 := hl (k - 1) (by omega) (by omega)
      dsimp only at a1 a2
      refine s175_2 hP ⟨0, hd, p154 hP ⟨⟨by omega, by omega⟩, ⟨by omega, by omega⟩, fun c => absurd c hs, fun _ => ⟨⟨by omega, by omega⟩, 0, hd, p171 hP hr (by omega) ⟨⟨by omega, by omega⟩, ⟨by omega, by omega⟩, fun c _ => ?_, fun c _ => q _ (mB.i0 fun h => c (h k h1 (by omega)))⟩⟩⟩⟩
      refine ih (k + 1) (by omega) (by omega) fun k' b1 b2 b3 => ?_
      by_cases hq : k' = k
      · subst hq; exact c
      · exact hn k' b1 (by omega) b3
theorem p175 {r : Int} {Q : Int → XF → Prop} (hP : xPT F) (hd : 0 < d) (hT : mT (F 132)) (hr : 0 ≤ r ∧ r ≤ 132) (hR : mFr (F 132) (fun i => F 140 (r + i))) (q : ∀ y, mB y (mClo (F 132) (fun i => F 140 (r + i))) → Q y F) : xMI X d 175 [.ref 131, vi r] F Q :=
  m175 hP fun _ => l175 hP hd hT hr hR q 30 1 (by omega) (by omega) (fun k' h1 h2 => by omega)
/-- the first below n of which P says so; else -1 -/
def mFst (n : Int) (P : Int → Prop) (y : Int) : Prop := (y = -1 ∧ ∀ s, 0 ≤ s → s < n → ¬ P s) ∨ (0 ≤ y ∧ y < n ∧ P y ∧ ∀ s, 0 ≤ s → s < y → ¬ P s)
/-- the sections as the reference keeps them -/
def mSb (F : XF) : Prop := (0 ≤ F 131 17 ∧ F 131 17 ≤ 30) ∧ (∀ s, 0 ≤ s → s < F 131 17 → 0 ≤ F 137 s ∧ F 137 s < F 132 5 ∧ 0 ≤ F 138 s ∧ F 138 s < F 132 5 ∧ 0 ≤ F 139 s ∧ F 139 s ≤ 100000) ∧ (∀ c, 0 ≤ c → c < F 132 5 → 0 ≤ F 136 c ∧ F 136 c < F 131 17)
/-- a section with this lead and this last car is on a crossing -/
def mOn (T R : Int → Int) (ld la x : Int) : Prop := T (8 + 7 * x) < R ld ∧ R la - T (78 + la) < T (8 + 7 * x) + T (8 + 7 * x + 1)
theorem l173 {r x : Int} {Q : Int → XF → Prop} (hP : xPT F) (hd : 0 < d) (hT : mT (F 132)) (hS : mSb F) (hr : 0 ≤ r ∧ r ≤ 132) (hx : 0 ≤ x ∧ x < F 132 4) (hR : mFr (F 132) (fun i => F 140 (r + i))) (q : ∀ y, mFst (F 131 17) (fun s => mOn (F 132) (fun i => F 140 (r + i)) (F 137 s) (F 138 s) x) y → Q y F) : ∀ (n : Nat) (k : Int), 0 ≤ k → k + n = F 131 17 → (∀ s, 0 ≤ s → s < k → ¬ mOn (F 132) (fun i => F 140 (r + i)) (F 137 s) (F 138 s) x) → xW X d 173 2 [.ref 131, vi r, vi x, vi k] [] F (xqi Q) := by
  obtain ⟨h0, _, _, _, h4, h5, _, _, hX, _, hl, _⟩ := hT
  obtain ⟨hn, hs, _⟩ := hS
  have hXx := hX x hx.1 hx.2
  unfold mX at hXx
  intro n
  induction n with
  | zero =>
    intro k k0 hk hno
    refine s173_2 hP ⟨⟨by omega, by omega⟩, ⟨by omega, by omega⟩, fun _ _ => q _ (Or.inl ⟨rfl, fun s a b => hno s a (by omega)⟩), fun c => absurd (show F 131 17 ≤ k by omega) c⟩
  | succ n ih =>
    intro k k0 hk hno
    have hsk := hs k k0 (by omega)
    have a1 := hR (F 137 k) (by omega) (by omega)
    have a2 := hR (F 138 k) (by omega) (by omega)
    have a3 := hl (F 138 k) (by omega) (by omega)
    dsimp only at a1 a2
    have next : ¬ mOn (F 132) (fun i => F 140 (r + i)) (F 137 k) (F 138 k) x → xW X d 173 2 [.ref 131, vi r, vi x, vi (k + 1)] [] F (xqi Q) := fun hk1 => by
      refine ih (k + 1) (by omega) (by omega) fun s b1 b2 => ?_
      by_cases hq : s = k
      · subst hq; exact hk1
      · exact hno s b1 (by omega)
    refine s173_2 hP ⟨⟨by omega, by omega⟩, ⟨by omega, by omega⟩, fun c => absurd c (by omega), fun _ => ⟨⟨by omega, by omega⟩, ⟨by omega, by omega⟩, 0, hd, p164 hP (by omega) ⟨⟨by omega, by omega⟩, ⟨by omega, by omega⟩, fun c _ => next fun h => ?_, fun c => ⟨⟨by omega, by omega⟩, 0, hd, p171 hP hr (by omega) ⟨0, hd, p164 hP (by omega) ⟨0, hd, p165 hP (by omega) ⟨⟨by omega, by omega⟩, ⟨by omega, by omega⟩, fun c2 _ => next fun h => ?_, fun c2 _ => q _ (Or.inr ⟨k0, by omega, ⟨?_, ?_⟩, hno⟩)⟩⟩⟩⟩⟩⟩⟩
    · have := h.1
      dsimp only at this
      omega
    · have := h.2
      dsimp only at this
      omega
    · show F 132 (8 + 7 * x) < F 140 (r + F 137 k)
      omega
    · show F 140 (r + F 138 k) - F 132 (78 + F 138 k) < F 132 (8 + 7 * x) + F 132 (8 + 7 * x + 1)
      omega
theorem p173 {r x : Int} {Q : Int → XF → Prop} (hP : xPT F) (hd : 0 < d) (hT : mT (F 132)) (hS : mSb F) (hr : 0 ≤ r ∧ r ≤ 132) (hx : 0 ≤ x ∧ x < F 132 4) (hR : mFr (F 132) (fun i => F 140 (r + i))) (q : ∀ y, mFst (F 131 17) (fun s => mOn (F 132) (fun i => F 140 (r + i)) (F 137 s) (F 138 s) x) y → Q y F) : xMI X d 173 [.ref 131, vi r, vi x] F Q := by
  have hn := hS.1
  exact m173 hP fun _ => l173 hP hd hT hS hr hx hR q (F 131 17).toNat 0 (by omega) (by omega) (fun k' h1 h2 => by omega)
end REF2
