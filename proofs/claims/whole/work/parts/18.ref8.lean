section REF8
variable {X : List Int32} {d : Nat} {F : XF}
/-- how far car c may go, and why no farther: gathers, crossings, the car ahead -/
def mG (T : Int → Int) (f : Int) : Nat → Int → Int × Int → Int × Int
  | 0, _, a => a
  | n + 1, k, a => mG T f n (k + 1) (if f ≤ T (138 + k) then mBd (T (138 + k) - f) 4 a else a)
noncomputable def mC (T : Int → Int) (e t f : Int) : Nat → Int → Int × Int → Int × Int
  | 0, _, a => a
  | n + 1, x, a => mC T e t f n (x + 1) (if f ≤ T (8 + 7 * x) ∧ T (8 + 7 * x) - f < a.1 ∧ mV (mMay T e x t) = 0 then (T (8 + 7 * x) - f, 5) else a)
noncomputable def mGo2 (T : Int → Int) (S : Nat → Int → Int) (f t cl c : Int) : Int × Int :=
  if S 2 (S 1 c) = c then mC T (S 4 (S 1 c)) t f (T 4).toNat 0 (if c = 0 ∧ cl = 0 then mG T f (T 6).toNat 0 (T 1, 3) else (T 1, 3))
  else (if c = 0 ∧ cl = 0 then mG T f (T 6).toNat 0 (T 1, 3) else (T 1, 3))
noncomputable def mGo (T : Int → Int) (S : Nat → Int → Int) (R : Int → Int) (t cl c : Int) : Int × Int :=
  if 0 < c ∧ R (c - 1) - T (78 + (c - 1)) < T 0 then mBd (R (c - 1) - T (78 + (c - 1)) - T 2 - R c) 6 (mGo2 T S (R c) t cl c) else mGo2 T S (R c) t cl c
/-- the run behind a car's going on by a -/
def mRw (T R : Int → Int) (c : Int) (a : Int × Int) : Int → Int := fun i => if i = 131 then R 131 + (if T 0 ≤ R c + a.1 - T (78 + c) then 1 else 0) else if i = c then R c + a.1 else if i = 30 + c then a.2 else R i
/-- all but how far and why is as it was -/
def mKg (F G : XF) : Prop := ∀ p i, ¬ (p = 131 ∧ (i = 21 ∨ i = 22)) → G p i = F p i
theorem mKg.trans {F G H : XF} (a : mKg F G) (b : mKg G H) : mKg F H := fun p i h => (b p i h).trans (a p i h)
theorem mKg.c {F G : XF} (a : mKg F G) {p : Nat} (h : ¬ p = 131) : G p = F p := funext fun i => a p i (by omega)
def mAb (a : Int × Int) (w : Int) : Prop := -300000 ≤ a.1 ∧ a.1 ≤ 1000 ∧ 3 ≤ a.2 ∧ a.2 ≤ w
theorem mAb.bd {a : Int × Int} {m w v : Int} (h : mAb a v) (hv : v ≤ w) (hw : 3 ≤ w) (hm : -300000 ≤ m) : mAb (mBd m w a) w := by
  unfold mBd mAb at *
  split
  · dsimp only; omega
  · omega
theorem mG_b {T : Int → Int} {f : Int} (hT : mT T) (hf : -100000 ≤ f ∧ f ≤ 100000) : ∀ (n : Nat) (k : Int) (a : Int × Int), 0 ≤ k → k + n ≤ T 6 → mAb a 4 → mAb (mG T f n k a) 4 := by
  obtain ⟨h0, _, _, _, _, _, h6, _, _, _, _, _, hg, _⟩ := hT
  intro n
  induction n with
  | zero => intro k a _ _ h; exact h
  | succ n ih =>
    intro k a h0 h1 h
    unfold mG
    refine ih (k + 1) _ (by omega) (by omega) ?_
    have := hg k h0 (by omega)
    split
    · exact h.bd (by omega) (by omega) (by omega)
    · exact h
theorem mC_b {T : Int → Int} {e t f : Int} (hT : mT T) (hf : -100000 ≤ f ∧ f ≤ 100000) : ∀ (n : Nat) (k : Int) (a : Int × Int), 0 ≤ k → k + n ≤ T 4 → mAb a 5 → mAb (mC T e t f n k a) 5 := by
  obtain ⟨h0, _, _, _, _, _, _, _, hX, _⟩ := hT
  intro n
  induction n with
  | zero => intro k a _ _ h; exact h
  | succ n ih =>
    intro k a h1 h2 h
    unfold mC
    refine ih (k + 1) _ (by omega) (by omega) ?_
    have := hX k h1 (by omega)
    unfold mX at this
    split
    · next hq => unfold mAb at *; dsimp only; omega
    · exact h
theorem mGo2_b {T : Int → Int} {S : Nat → Int → Int} {f t cl c : Int} (hT : mT T) (hf : -100000 ≤ f ∧ f ≤ 100000) : mAb (mGo2 T S f t cl c) 5 := by
  have h1 := hT.2.1
  have h4 := hT.2.2.2.2.1
  have h6 := hT.2.2.2.2.2.2.1
  have a0 : mAb (T 1, 3) 4 := by unfold mAb; dsimp only; omega
  have a1 : mAb (if c = 0 ∧ cl = 0 then mG T f (T 6).toNat 0 (T 1, 3) else (T 1, 3)) 5 := by
    have : mAb (if c = 0 ∧ cl = 0 then mG T f (T 6).toNat 0 (T 1, 3) else (T 1, 3)) 4 := by
      split
      · exact mG_b hT hf _ _ _ (by omega) (by omega) a0
      · exact a0
    unfold mAb at *; omega
  unfold mGo2
  split
  · exact mC_b hT hf _ _ _ (by omega) (by omega) a1
  · exact a1
theorem l178a {r c t cl f : Int} {Q : XF → Prop} (hd : 0 < d) (F0 : XF) (hT : mT (F0 132)) (hc : 0 ≤ c ∧ c < 30) (hf : -100000 ≤ f ∧ f ≤ 100000) (a1 : Int × Int) (q : ∀ G, xPT G → mKg F0 G → (G 131 21, G 131 22) = a1 → xW X d 178 101 [.ref 131, vi r, vi c, vi t, vi cl, vi f, vi (F0 136 c), vi 0] [] G (xqv Q)) : ∀ (n k : Nat) (F : XF) (w : Value) (a : Int × Int), xPT F → (k : Int) + n = F0 132 6 → mKg F0 F → (F 131 21, F 131 22) = a → mAb a 4 → mG (F0 132) f n k a = a1 → xW X d 178 37 [.ref 131, vi r, vi c, vi t, vi cl, vi f, vi k, w] [] F (xqv Q) := by
  obtain ⟨h0, _, _, _, _, _, h6, _, _, _, _, _, hg, _⟩ := hT
  intro n
  induction n with
  | zero =>
    intro k F w a hP hk hF ha hb h1
    have e : F 132 = F0 132 := hF.c (by decide)
    have e6 : F 136 = F0 136 := hF.c (by decide)
    refine s178_37 hP ⟨⟨by omega, by omega⟩, by rw [e]; constructor <;> omega, fun _ => ⟨hc, fun hG => ?_⟩, fun c => absurd (by rw [e]; omega) c⟩
    rw [e6]
    exact q F hG hF (ha.trans h1)
  | succ n ih =>
    intro k F w a hP hk hF ha hb h1
    have e : F 132 = F0 132 := hF.c (by decide)
    have hgk := hg k (by omega) (by omega)
    rw [← e] at hgk h0
    unfold mG at h1
    have b := hb
    rw [← ha] at b
    unfold mAb at b
    dsimp only at b
    refine s178_37 hP ⟨⟨by omega, by omega⟩, by rw [e]; constructor <;> omega, fun c => absurd c (by rw [e]; omega), fun _ => ⟨⟨by omega, by omega⟩, ⟨by omega, by omega⟩, ⟨by omega, by omega⟩, fun c1 _ => ?_, fun c1 => ⟨⟨by omega, by omega⟩, 0, hd, p177 hP ⟨by omega, by omega⟩ ⟨by omega, by omega⟩ ⟨by omega, by omega⟩ (by omega) fun G hG k1 e1 _ => ?_⟩⟩⟩
    · rw [e] at c1
      rw [if_neg (by omega)] at h1
      exact ih (k + 1) F w a hP (by omega) hF ha hb h1
    · rw [e] at c1 e1
      rw [if_pos (by omega)] at h1
      rw [ha] at e1
      exact ih (k + 1) G w _ hG (by omega) (hF.trans k1) e1 (hb.bd (by omega) (by omega) (by rw [← e]; omega)) h1
theorem l178b {r c t cl f s : Int} {Q : XF → Prop} (hd : 2 < d) (F0 : XF) (hT : mT (F0 132)) (hs : 0 ≤ s ∧ s < 30) (hc : 0 ≤ c ∧ c < 30) (ht : 0 ≤ t ∧ t ≤ 10000) (hf : -100000 ≤ f ∧ f ≤ 100000) (hl : inR (F0 137 s)) (he : 0 ≤ F0 139 s ∧ F0 139 s ≤ 100000) (a1 : Int × Int) (q : ∀ G k, xPT G → mKg F0 G → (G 131 21, G 131 22) = a1 → xW X d 178 182 [.ref 131, vi r, vi c, vi t, vi cl, vi f, vi s, vi k] [] G (xqv Q)) : ∀ (n k : Nat) (F : XF) (a : Int × Int), xPT F → (k : Int) + n = F0 132 4 → mKg F0 F → (F 131 21, F 131 22) = a → mAb a 5 → (if F0 137 s = c then mC (F0 132) (F0 139 s) t f n k a else a) = a1 → xW X d 178 101 [.ref 131, vi r, vi c, vi t, vi cl, vi f, vi s, vi k] [] F (xqv Q) := by
  have hT' := hT
  obtain ⟨h0, h1', _, _, h4, _, _, _, hX, _⟩ := hT'
  intro n
  induction n with
  | zero =>
    intro k F a hP hk hF ha hb h1
    have e : F 132 = F0 132 := hF.c (by decide)
    have e7 : F 137 = F0 137 := hF.c (by decide)
    have h2 : a = a1 := by
      by_cases hq : F0 137 s = c
      · rw [if_pos hq] at h1; exact h1
      · rw [if_neg hq] at h1; exact h1
    exact s178_101 hP ⟨hs, by rw [e7]; exact hl, ⟨by omega, by omega⟩, fun _ _ => q F k hP hF (ha.trans h2), fun _ => ⟨⟨by omega, by omega⟩, by rw [e]; constructor <;> omega, fun _ _ => q F k hP hF (ha.trans h2), fun c => absurd (by rw [e]; omega) c⟩⟩
  | succ n ih =>
    intro k F a hP hk hF ha hb h1
    have e : F 132 = F0 132 := hF.c (by decide)
    have e7 : F 137 = F0 137 := hF.c (by decide)
    have e9 : F 139 = F0 139 := hF.c (by decide)
    have hXk := hX k (by omega) (by omega)
    have hXk' := hXk
    unfold mX at hXk'
    rw [← e] at hXk' hXk h0 h1'
    have b := hb
    rw [← ha] at b
    unfold mAb at b
    dsimp only at b
    by_cases hq : F0 137 s = c
    · rw [if_pos hq] at h1
      unfold mC at h1
      rw [← ha] at h1
      dsimp only at h1
      have stay : ¬ (f ≤ F0 132 (8 + 7 * (k : Int)) ∧ F0 132 (8 + 7 * (k : Int)) - f < F 131 21 ∧ mV (mMay (F0 132) (F0 139 s) k t) = 0) → xW X d 178 101 [.ref 131, vi r, vi c, vi t, vi cl, vi f, vi s, vi ((k : Int) + 1)] [] F (xqv Q) := fun hn => by
        rw [if_neg hn, ha] at h1
        exact ih (k + 1) F a hP (by omega) hF ha hb (by rw [if_pos hq]; exact h1)
      refine s178_101 hP ⟨hs, by rw [e7]; exact hl, ⟨by omega, by omega⟩, fun c1 _ => absurd (by rw [e7]; exact hq) c1, fun _ => ⟨⟨by omega, by omega⟩, by rw [e]; constructor <;> omega, fun c => absurd c (by rw [e]; omega), fun _ => ⟨2, hd, p164 hP (by omega) ⟨⟨by omega, by omega⟩, ⟨by omega, by omega⟩, fun c1 _ => stay (by rw [e] at c1; omega), fun c1 => ⟨2, hd, p164 hP (by omega) ⟨⟨by omega, by omega⟩, ⟨by omega, by omega⟩, fun c2 _ => stay (by rw [e] at c2; omega), fun c2 => ⟨2, hd, p169 hP (by omega) (by omega) hXk (by omega) (by omega) hs (by rw [e9]; exact he) fun y hy => ⟨hy.r, fun c3 _ => stay ?_, fun c3 => ⟨2, hd, p164 hP (by omega) ⟨2, hd, p177 hP ⟨by omega, by omega⟩ ⟨by omega, by omega⟩ ⟨by omega, by omega⟩ (by omega) fun G hG k1 e1 _ => ?_⟩⟩⟩⟩⟩⟩⟩⟩⟩⟩
      · have := hy.v
        rw [e, e9] at this
        omega
      · have hv := hy.v
        rw [e, e9] at hv
        rw [e] at c1 c2 e1
        rw [if_pos (by omega)] at h1
        unfold mBd at e1
        rw [if_pos (by dsimp only; omega)] at e1
        refine ih (k + 1) G _ hG (by omega) (hF.trans k1) e1 ?_ (by rw [if_pos hq]; exact h1)
        unfold mAb
        dsimp only
        rw [e] at hXk' h0
        omega
    · rw [if_neg hq] at h1
      exact s178_101 hP ⟨hs, by rw [e7]; exact hl, ⟨by omega, by omega⟩, fun _ _ => q F k hP hF (ha.trans h1), fun c1 => absurd (by rw [e7]; exact hq) c1⟩
end REF8
