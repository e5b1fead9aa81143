section REF18
variable {X : List Int32} {d : Nat} {F : XF}
/-! the fewest splits -/
def mEx (T : Int → Int) (f : Int) : Nat → Int
  | 0 => 0
  | k + 1 => mEx T f k + (T (78 + (f + k)) + (if k = 0 then 0 else T 2))
def mCan (T : Int → Int) (e : Int) : Prop := ∀ x, 0 ≤ x → x < T 4 → mAlw T x ∨ mNeed T e x ≤ T (8 + 7 * x + 4) - T (8 + 7 * x + 3)
theorem mEx_b {T : Int → Int} (hT : mT T) {f : Int} (hf : 0 ≤ f) : ∀ k : Nat, f + k ≤ T 5 → 0 ≤ mEx T f k ∧ mEx T f k ≤ 80 * (k : Int)
  | 0, _ => by unfold mEx; omega
  | k + 1, h => by
    have a := mEx_b hT hf k (by omega)
    obtain ⟨_, _, h2, _, _, h5, _, _, _, _, hl, _⟩ := hT
    have := hl (f + k) (by omega) (by omega)
    unfold mEx
    split <;> omega
theorem l204b {f t e : Int} {Q : Int → XF → Prop} (hP : xPT F) (hd : 0 < d) (hT : mT (F 132)) (he : 0 ≤ e ∧ e ≤ 100000) (q : ∀ y, mB y (mCan (F 132) e) → Q y F) : ∀ (n k : Nat) (w : Value), (k : Int) + n = F 132 4 → (∀ x : Int, 0 ≤ x → x < k → mAlw (F 132) x ∨ mNeed (F 132) e x ≤ F 132 (8 + 7 * x + 4) - F 132 (8 + 7 * x + 3)) → xW X d 204 50 [.ref 131, vi f, vi t, vi e, vi k, w] [] F (xqi Q) := by
  have hT' := hT
  obtain ⟨h0, h1, _, _, h4, h5, _, _, hX, _⟩ := hT'
  intro n
  induction n with
  | zero =>
    intro k w hk hh
    exact s204_50 hP ⟨⟨by omega, by omega⟩, ⟨by omega, by omega⟩, fun _ _ => q 1 (mB.i1 fun x a b => hh x a (by omega)), fun c => absurd (by omega) c⟩
  | succ n ih =>
    intro k w hk hh
    have hXk := hX k (by omega) (by omega)
    have hX' := hXk
    unfold mX at hX'
    have nb := mNeed_b (T := F 132) (e := e) (x := k) h1.1 ⟨by omega, by omega⟩ he
    have next : (mAlw (F 132) k ∨ mNeed (F 132) e k ≤ F 132 (8 + 7 * (k : Int) + 4) - F 132 (8 + 7 * (k : Int) + 3)) → ∀ w, xW X d 204 50 [.ref 131, vi f, vi t, vi e, vi ((k : Int) + 1), w] [] F (xqi Q) := fun h w => by
      refine ih (k + 1) w (by omega) fun x a b => ?_
      by_cases hq : x = k
      · subst hq; exact h
      · exact hh x a (by omega)
    refine s204_50 hP ⟨⟨by omega, by omega⟩, ⟨by omega, by omega⟩, fun c => absurd c (by omega), fun _ => ⟨0, hd, p168 hP (by omega) hXk fun y hy => ⟨hy.r, fun c _ => next (Or.inl (hy.t c)) _, fun c => ⟨0, hd, p165 hP (by omega) ⟨⟨by omega, by omega⟩, ⟨by omega, by omega⟩, ⟨by omega, by omega⟩, ⟨by omega, by omega⟩, ⟨by unfold mNeed at nb; omega, by unfold mNeed at nb; omega⟩, ⟨by omega, by omega⟩, fun c2 _ => next (Or.inr c2) _, fun c2 _ => q 0 (mB.i0 fun h => ?_)⟩⟩⟩⟩⟩
    rcases h k (by omega) (by omega) with h | h
    · exact hy.f (by omega) h
    · exact c2 h
theorem l204a {f t : Int} {Q : Int → XF → Prop} (hP : xPT F) (hd : 0 < d) (hT : mT (F 132)) (hf : 0 ≤ f ∧ f ≤ t) (ht : t < F 132 5) (q : ∀ y, mB y (mCan (F 132) (mEx (F 132) f (t - f + 1).toNat)) → Q y F) : ∀ (n k : Nat) (w : Value), (k : Int) + n = t - f + 1 → xW X d 204 5 [.ref 131, vi f, vi t, vi (mEx (F 132) f k), vi (f + k), w] [] F (xqi Q) := by
  have h5 := hT.2.2.2.2.2.1
  have h4 := hT.2.2.2.2.1
  intro n
  induction n with
  | zero =>
    intro k w hk
    have b := mEx_b hT hf.1 k (by omega)
    rw [show (t - f + 1).toNat = k by omega] at q
    exact s204_5 hP ⟨⟨by omega, by omega⟩, ⟨by omega, by omega⟩, fun _ _ => l204b hP hd hT (by omega) q (F 132 4).toNat 0 _ (by omega) (fun x a b => by omega), fun c => absurd (by omega) c⟩
  | succ n ih =>
    intro k w hk
    have nx := ih (k + 1) w (by omega)
    unfold mEx at nx
    rw [show f + ((k + 1 : Nat) : Int) = f + k + 1 by omega] at nx
    refine s204_5 hP ⟨⟨by omega, by omega⟩, ⟨by omega, by omega⟩, fun c => absurd c (by omega), fun _ => ⟨⟨by omega, by omega⟩, ⟨by omega, by omega⟩, ⟨by omega, by omega⟩, fun c _ => ?_, fun c _ => ?_⟩⟩
    · rw [if_neg (by omega)] at nx; exact nx
    · rw [if_pos (by omega)] at nx; exact nx
theorem p204 {f t : Int} {Q : Int → XF → Prop} (hP : xPT F) (hd : 0 < d) (hT : mT (F 132)) (hf : 0 ≤ f ∧ f ≤ t) (ht : t < F 132 5) (q : ∀ y, mB y (mCan (F 132) (mEx (F 132) f (t - f + 1).toNat)) → Q y F) : xMI X d 204 [.ref 131, vi f, vi t] F Q := by
  refine m204 hP fun _ => ?_
  have := l204a (X := X) (d := d) hP hd hT hf ht q (t - f + 1).toNat 0 xU0 (by omega)
  rw [show f + ((0 : Nat) : Int) = f by omega] at this
  exact this
/-- splits made, the extent of the section by then, 1 if a car by itself can't -/
noncomputable def mFw (T : Int → Int) : Nat → Int × Int × Int
  | 0 => (0, 0, 0)
  | c + 1 =>
    if (mFw T c).2.2 = 1 then mFw T c
    else if mV (mCan T ((if c = 0 then 0 else (mFw T c).2.1 + T 2) + T (78 + (c : Int)))) = 1 then ((mFw T c).1, (if c = 0 then 0 else (mFw T c).2.1 + T 2) + T (78 + (c : Int)), 0)
    else if mV (mCan T (T (78 + (c : Int)))) = 1 then ((mFw T c).1 + 1, T (78 + (c : Int)), 0)
    else ((mFw T c).1, (mFw T c).2.1, 1)
noncomputable def aFewest (T : Int → Int) : Int := if T 5 = 0 then -5 else if (mFw T (T 5).toNat).2.2 = 1 then -1 else (mFw T (T 5).toNat).1
theorem mFw_b {T : Int → Int} (hT : mT T) : ∀ c : Nat, (c : Int) ≤ T 5 → 0 ≤ (mFw T c).1 ∧ (mFw T c).1 ≤ c ∧ 0 ≤ (mFw T c).2.1 ∧ (mFw T c).2.1 ≤ 80 * (c : Int) ∧ ((mFw T c).2.2 = 0 ∨ (mFw T c).2.2 = 1)
  | 0, _ => by unfold mFw; dsimp only; omega
  | c + 1, h => by
    have := mFw_b hT c (by omega)
    obtain ⟨_, _, h2, _, _, h5, _, _, _, _, hl, _⟩ := hT
    have := hl c (by omega) (by omega)
    rw [mFw]
    have hL : 0 ≤ (if c = 0 then 0 else (mFw T c).2.1 + T 2) + T (78 + (c : Int)) ∧ (if c = 0 then 0 else (mFw T c).2.1 + T 2) + T (78 + (c : Int)) ≤ 80 * ((c : Int) + 1) := by
      split <;> omega
    generalize (if c = 0 then 0 else (mFw T c).2.1 + T 2) + T (78 + (c : Int)) = L at hL
    by_cases z : (mFw T c).2.2 = 1
    · rw [if_pos z]; omega
    rw [if_neg z]
    by_cases z2 : mV (mCan T L) = 1
    · rw [if_pos z2]; dsimp only; omega
    rw [if_neg z2]
    by_cases z3 : mV (mCan T (T (78 + (c : Int)))) = 1
    · rw [if_pos z3]; dsimp only; omega
    rw [if_neg z3]; dsimp only; omega
theorem mFw_stay {T : Int → Int} : ∀ (k c : Nat), (mFw T c).2.2 = 1 → mFw T (c + k) = mFw T c
  | 0, c, h => rfl
  | k + 1, c, h => by
    have := mFw_stay k c h
    rw [← Nat.add_assoc, mFw, this, if_pos h]
theorem l205 {Q : Int → XF → Prop} (hP : xPT F) (hd : 1 < d) (hT : mT (F 132)) (h1 : ¬ F 132 5 = 0) (q : Q (aFewest (F 132)) F) : ∀ (n c : Nat) (f : Int), (c : Int) + n = F 132 5 → 0 ≤ f → f ≤ c → (mFw (F 132) c).2.2 = 0 → (mFw (F 132) c).2.1 = mEx (F 132) f ((c : Int) - f).toNat → (0 < c → f < c) → xW X d 205 21 [.ref 131, vi (mFw (F 132) c).1, vi f, vi c] [] F (xqi Q) := by
  have h5 := hT.2.2.2.2.2.1
  unfold aFewest at q
  rw [if_neg h1] at q
  intro n
  induction n with
  | zero =>
    intro c f hc f0 f1 hz he hlt
    rw [show (F 132 5).toNat = c by omega, if_neg (by omega)] at q
    exact s205_21 hP ⟨1, hd, p154 hP ⟨⟨by omega, by omega⟩, ⟨by omega, by omega⟩, fun _ _ => q, fun c => absurd (by omega) c⟩⟩
  | succ n ih =>
    intro c f hc f0 f1 hz he hlt
    -- the extent with one more car
    have ex : mEx (F 132) f ((c : Int) - f + 1).toNat = (if c = 0 then 0 else (mFw (F 132) c).2.1 + F 132 2) + F 132 (78 + (c : Int)) := by
      rw [show ((c : Int) - f + 1).toNat = ((c : Int) - f).toNat + 1 by omega, mEx, ← he]
      rw [show f + ((((c : Int) - f).toNat : Nat) : Int) = c by omega]
      by_cases hc0 : c = 0
      · subst hc0
        have : (mFw (F 132) 0).2.1 = 0 := rfl
        rw [this, if_pos (by omega), if_pos rfl]; omega
      · have := hlt (by omega)
        rw [if_neg (by omega), if_neg hc0]; omega
    have ex1 : mEx (F 132) c ((c : Int) - c + 1).toNat = F 132 (78 + (c : Int)) := by
      rw [show ((c : Int) - c + 1).toNat = 0 + 1 by omega]
      show 0 + (F 132 (78 + ((c : Int) + ((0 : Nat) : Int))) + 0) = _
      rw [show (c : Int) + ((0 : Nat) : Int) = c by omega]; omega
    have z1 : ¬ (mFw (F 132) c).2.2 = 1 := by omega
    have eq := mFw (F 132) (c + 1)
    refine s205_21 hP ⟨1, hd, p154 hP ⟨⟨by omega, by omega⟩, ⟨by omega, by omega⟩, fun c => absurd c (by omega), fun _ => ⟨1, hd, p204 hP (by omega) hT ⟨f0, f1⟩ (by omega) fun y hy => ?_⟩⟩⟩
    rw [ex] at hy
    refine ⟨hy.r, fun c1 => ⟨1, hd, p204 hP (by omega) hT ⟨by omega, by omega⟩ (by omega) fun y2 hy2 => ?_⟩, fun c1 _ => ?_⟩
    · rw [ex1] at hy2
      have v1 := hy.v
      have v2 := hy2.v
      refine ⟨hy2.r, fun c2 _ => ?_, fun c2 _ => ?_⟩
      · have e1 : mFw (F 132) (c + 1) = ((mFw (F 132) c).1 + 1, F 132 (78 + (c : Int)), 0) := by
          rw [mFw, if_neg z1, if_neg (by omega), if_pos (by have := hy2.z; omega)]
        have := ih (c + 1) c (by omega) (by omega) (by omega) (by rw [e1]) (by rw [e1, show (((c + 1 : Nat) : Int) - c) = (c : Int) - c + 1 by omega, ex1]) (by omega)
        rw [e1] at this
        exact this
      · have e1 : mFw (F 132) (c + 1) = ((mFw (F 132) c).1, (mFw (F 132) c).2.1, 1) := by
          rw [mFw, if_neg z1, if_neg (by omega), if_neg (by omega)]
        have e2 := mFw_stay (T := F 132) n (c + 1) (by rw [e1])
        rw [show (F 132 5).toNat = c + 1 + n by omega, e2, e1, if_pos rfl] at q
        exact q
    · have e1 : mFw (F 132) (c + 1) = ((mFw (F 132) c).1, (if c = 0 then 0 else (mFw (F 132) c).2.1 + F 132 2) + F 132 (78 + (c : Int)), 0) := by
        rw [mFw, if_neg z1, if_pos (by have := hy.v; have := hy.z; omega)]
      have := ih (c + 1) f (by omega) f0 (by omega) (by rw [e1]) (by rw [e1, show (((c + 1 : Nat) : Int) - f) = (c : Int) - f + 1 by omega, ex]) (by omega)
      rw [e1] at this
      exact this
theorem p205 {Q : Int → XF → Prop} (hP : xPT F) (hd : 9 < d) (hT : mT (F 132)) (hS : mSA (F 132 5).toNat F) (q : mQ F Q (aFewest (F 132))) : xMI X d 205 [.ref 131] F Q := by
  have h5 := hT.2.2.2.2.2.1
  refine m205 hP ⟨8, by omega, p154 (h0P hP) ?_⟩
  rw [h0t]
  refine ⟨⟨by omega, by omega⟩, fun c hG => ?_, fun c hG => ?_⟩
  · refine l205 hG (by omega) (by rw [h0t]; exact hT) (by rw [h0t]; exact c) (by rw [h0t]; exact q.z hS hG) (F 132 5).toNat 0 0 (by rw [h0t]; omega) (by omega) (by omega) rfl rfl (by omega)
  · unfold aFewest at q
    rw [if_pos (by omega)] at q
    exact q.z hS hG
/-! what is told aside -/
theorem l206 {Q : XF → Prop} (F0 : XF) (q : ∀ G, xPT G → (∀ p i, ¬ p = 142 → G p i = F0 p i) → (∀ i, 0 ≤ i → i < 163 → G 142 i = F0 132 i) → Q G) : ∀ (n k : Nat) (F : XF), xPT F → k + n = 163 → (∀ p i, ¬ p = 142 → F p i = F0 p i) → (∀ i : Int, 0 ≤ i → i < k → F 142 i = F0 132 i) → xW X d 206 2 [.ref 131, vi k] [] F (xqv Q) := by
  intro n
  induction n with
  | zero =>
    intro k F hP hk hK h1
    exact s206_2 hP ⟨⟨by omega, by omega⟩, fun _ _ => q F hP hK fun i a b => h1 i a (by omega), fun c => absurd (by omega) c⟩
  | succ n ih =>
    intro k F hP hk hK h1
    refine s206_2 hP ⟨⟨by omega, by omega⟩, fun c => absurd c (by omega), fun _ => ⟨⟨by omega, by omega⟩, ⟨by omega, by omega⟩, fun hG => ih (k + 1) _ hG (by omega) (fun p i h => by rw [xup_o h]; exact hK p i h) (fun i a b => ?_)⟩⟩
    by_cases hq : i = k
    · rw [hq, xup_s, hK 132 _ (by decide)]
    · rw [xup_i hq]; exact h1 i a (by omega)
/-- what is told is kept aside; all but places of what is told is as it was -/
def mAd (F0 G : XF) : Prop := mKb F0 G ∧ (∀ i, 0 ≤ i → i < 163 → G 142 i = F0 132 i) ∧ (∀ i, ¬ (0 ≤ i ∧ i < 163) → G 132 i = F0 132 i)
theorem p206 {Q : XF → Prop} (F0 : XF) (hP : xPT F) (k : mKb F0 F) (e : F 132 = F0 132) (q : ∀ G, xPT G → mAd F0 G → G 132 = F0 132 → Q G) : xMV X d 206 [.ref 131] F Q := by
  refine m206 hP fun _ => l206 F (fun G hG k1 e1 => q G hG ⟨k.trans ⟨fun p i h => k1 p i (by omega), fun i _ _ _ _ _ => k1 131 i (by decide), fun i _ _ => k1 140 i (by decide)⟩, fun i a b => by rw [e1 i a b, e], fun i _ => by rw [k1 132 i (by decide), e]⟩ ((funext fun i => k1 132 i (by decide)).trans e)) 163 0 F hP (by omega) (fun _ _ _ => rfl) (fun i a b => by omega)
theorem l207 {Q : XF → Prop} (hd : 1 < d) (F0 : XF) (hT : mT (F0 132)) (q : ∀ G, xPT G → mKb F0 G → G 132 = F0 132 → mSA (F0 132 5).toNat G → Q G) : ∀ (n k : Nat) (F : XF), xPT F → k + n = 163 → mAd F0 F → (∀ i : Int, 0 ≤ i → i < k → F 132 i = F0 132 i) → xW X d 207 2 [.ref 131, vi k] [] F (xqv Q) := by
  intro n
  induction n with
  | zero =>
    intro k F hP hk hK h1
    have e : F 132 = F0 132 := funext fun i => by
      by_cases hi : 0 ≤ i ∧ i < 163
      · exact h1 i hi.1 (by omega)
      · exact hK.2.2 i hi
    refine s207_2 hP ⟨⟨by omega, by omega⟩, fun _ => ⟨1, hd, p163 hP (by omega) (by rw [e]; exact hT) fun G hG k1 s1 _ => q G hG ?_ (k1.t.trans e) (by rw [e] at s1; exact s1)⟩, fun c => absurd (by omega) c⟩
    exact hK.1.trans ⟨fun p i h => k1.1 p i (by omega) (by omega) (by omega) (by omega) (by omega), fun i _ h2 _ _ _ => k1.2 i h2, fun i _ _ => k1.1 140 i (by decide) (by decide) (by decide) (by decide) (by decide)⟩
  | succ n ih =>
    intro k F hP hk hK h1
    refine s207_2 hP ⟨⟨by omega, by omega⟩, fun c => absurd c (by omega), fun _ => ⟨⟨by omega, by omega⟩, ⟨by omega, by omega⟩, fun hG => ih (k + 1) _ hG (by omega) ⟨hK.1.up (by omega), fun i a b => by rw [xup_o (by decide)]; exact hK.2.1 i a b, fun i a => by rw [xup_i (by omega)]; exact hK.2.2 i a⟩ (fun i a b => ?_)⟩⟩
    by_cases hq : i = k
    · rw [hq, xup_s, hK.2.1 _ (by omega) (by omega)]
    · rw [xup_i hq]; exact h1 i a (by omega)
theorem p207 {Q : XF → Prop} (hd : 1 < d) (F0 : XF) (hP : xPT F) (hT : mT (F0 132)) (h : mAd F0 F) (q : ∀ G, xPT G → mKb F0 G → G 132 = F0 132 → mSA (F0 132 5).toNat G → Q G) : xMV X d 207 [.ref 131] F Q :=
  m207 hP fun _ => l207 hd F0 hT q 163 0 F hP (by omega) h (fun i a b => by omega)
theorem mAd.p {F0 F G : XF} (h : mAd F0 F) (k : mKp 132 F G) : mAd F0 G := ⟨h.1.trans k.b, fun i a b => by rw [k.1 142 i (by decide) (by decide) (by decide) (by decide) (by decide) (by decide) (by decide)]; exact h.2.1 i a b, fun i a => by rw [k.t]; exact h.2.2 i a⟩
theorem mAd.up {F0 F : XF} {i v : Int} (h : mAd F0 F) (hi : 0 ≤ i ∧ i < 163) : mAd F0 (xup F 132 i v) := ⟨h.1.up (by omega), fun j a b => by rw [xup_o (by decide)]; exact h.2.1 j a b, fun j a => by rw [xup_i (by omega)]; exact h.2.2 j a⟩
theorem p198a {T : Int → Int} {Q : Int → XF → Prop} (F0 : XF) (hP : xPT F) (hd : 7 < d) (hT : mT T) (h : mAd F0 F) (e : F 132 = T) (q : ∀ G, xPT G → mAd F0 G → G 132 = T → mRow G 132 = mRun T (mLast T) → Q (mEnd T) G) : xMI X d 198 [.ref 131] F Q := by
  subst e
  exact p198 hP hd hT fun G hG k1 _ r1 => q G hG (h.p k1) k1.t r1
theorem mSet_2 {T : Int → Int} {i a b : Int} : mSet (mSet T i a) i b = mSet T i b := by
  funext j
  unfold mSet
  split <;> rfl
theorem mSet_id {T : Int → Int} {i : Int} : mSet T i (T i) = T := by
  funext j
  unfold mSet
  split
  · next h => rw [h]
  · rfl
end REF18
