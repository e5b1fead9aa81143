section REF11
variable {X : List Int32} {d : Nat} {F : XF}
/-- all waits together -/
def mWs (R : Int → Int) : Nat → Int
  | 0 => 0
  | k + 1 => mWs R k + R (60 + 7 * (k : Int) + 1)
theorem l195 {r : Int} {Q : Int → XF → Prop} (hP : xPT F) (hT : mT (F 132)) (hr : 0 ≤ r ∧ r ≤ 132) (q : Q (mWs (mRow F r) (F 132 4).toNat) F) : ∀ (n k : Nat), (k : Int) + n = F 132 4 → xW X d 195 4 [.ref 131, vi r, vi (mWs (mRow F r) k), vi k] [] F (xqi Q) := by
  have h4 := hT.2.2.2.2.1
  intro n
  induction n with
  | zero =>
    intro k hk
    refine s195_4 hP ⟨⟨by omega, by omega⟩, ⟨by omega, by omega⟩, fun _ _ => ?_, fun c => absurd (by omega) c⟩
    rw [show (F 132 4).toNat = k by omega] at q
    exact q
  | succ n ih =>
    intro k hk
    refine s195_4 hP ⟨⟨by omega, by omega⟩, ⟨by omega, by omega⟩, fun c => absurd c (by omega), fun _ => ⟨⟨by omega, by omega⟩, fun _ => ?_⟩⟩
    have := ih (k + 1) (by omega)
    unfold mWs at this
    rw [mRow_at (by omega), show r + (60 + 7 * (k : Int) + 1) = r + 60 + 7 * k + 1 by omega] at this
    exact this
theorem p195 {r : Int} {Q : Int → XF → Prop} (hP : xPT F) (hT : mT (F 132)) (hr : 0 ≤ r ∧ r ≤ 132) (q : Q (mWs (mRow F r) (F 132 4).toNat) F) : xMI X d 195 [.ref 131, vi r] F Q := by
  have h4 := hT.2.2.2.2.1
  exact m195 hP fun _ => l195 hP hT hr q (F 132 4).toNat 0 (by omega)
/-- the run aside stands behind n ticks -/
theorem p181a {n : Nat} {Q : XF → Prop} (hP : xPT F) (hd : 5 < d) (hT : mT (F 132)) (hS : mSA (F 132 5).toNat F) (hn : n ≤ 8000) (hrow : mRow F 132 = mRun (F 132) n) (q : ∀ G, xPT G → mKt 132 F G → mSA (F 132 5).toNat G → mRow G 132 = mRun (F 132) (n + 1) → Q G) : xMV X d 181 [.ref 131, vi 132] F Q := by
  have hI := (mRun_I hT n (by omega)).1
  have e := mRun_130 hT n
  refine p181 (E := fun _ => 0) hP hd hT hS (by omega) (by rw [hrow]; omega) (by rw [hrow]; exact hI) (fun h => absurd h (by decide)) fun G hG k1 r1 _ => q G hG k1 (hS.of k1.t k1.s) ?_
  rw [r1, hrow]
  rfl
theorem p196 {n : Nat} {Q : Int → XF → Prop} (hP : xPT F) (hd : 6 < d) (hT : mT (F 132)) (hS : mSA (F 132 5).toNat F) (hn : n ≤ 2000) (hrow : mRow F 132 = mRun (F 132) n) (q0 : (mRun (F 132) n 131 = F 132 5 ∨ n = 2000) → Q 0 F) (q1 : ¬ mRun (F 132) n 131 = F 132 5 → n < 2000 → ∀ G, xPT G → mKt 132 F G → mSA (F 132 5).toNat G → mRow G 132 = mRun (F 132) (n + 1) → Q 1 G) : xMI X d 196 [.ref 131] F Q := by
  have hT' := hT
  obtain ⟨_, _, _, _, _, h5, _⟩ := hT'
  have e := mRun_130 hT n
  have hI := (mRun_I hT n (by omega)).1.1.2.2.1
  have e1 : F 140 263 = mRun (F 132) n 131 := by rw [← hrow, mRow_at (by omega)]; rfl
  have e2 : F 140 262 = n := by rw [← e, ← hrow, mRow_at (by omega)]; rfl
  refine m196 hP ⟨6, hd, p154 hP ⟨by rw [e1]; constructor <;> omega, ⟨by omega, by omega⟩, fun c _ => q0 (Or.inl (by omega)), fun c => ⟨by rw [e2]; constructor <;> omega, fun c2 => ⟨6, hd, p181a hP (by omega) hT hS (by omega) hrow fun G hG k1 s1 r1 _ => q1 (by omega) (by omega) G hG k1 s1 r1⟩, fun c2 _ => q0 (Or.inr (by omega))⟩⟩⟩
theorem p197 {n : Nat} {Q : Int → XF → Prop} (hP : xPT F) (hd : 0 < d) (hT : mT (F 132)) (hn : n ≤ 2000) (hrow : mRow F 132 = mRun (F 132) n) (q : Q (if mRun (F 132) n 131 = F 132 5 then (n : Int) else -1) F) : xMI X d 197 [.ref 131] F Q := by
  have h5 := hT.2.2.2.2.2.1
  have e := mRun_130 hT n
  have hI := (mRun_I hT n (by omega)).1.1.2.2.1
  have e1 : F 140 263 = mRun (F 132) n 131 := by rw [← hrow, mRow_at (by omega)]; rfl
  have e2 : F 140 262 = n := by rw [← e, ← hrow, mRow_at (by omega)]; rfl
  refine m197 hP ⟨0, hd, p154 hP ⟨by rw [e1]; constructor <;> omega, ⟨by omega, by omega⟩, fun c _ => ?_, fun c _ => ?_⟩⟩
  · rw [if_neg (by omega)] at q; exact q
  · rw [if_pos (by omega), ← e2] at q; exact q
theorem l198 {Q : Int → XF → Prop} (hd : 7 < d) (F0 : XF) (hT : mT (F0 132)) (q : ∀ G, xPT G → mKp 132 F0 G → mSA (F0 132 5).toNat G → mRow G 132 = mRun (F0 132) (mLast (F0 132)) → Q (mEnd (F0 132)) G) : ∀ (f n : Nat) (F : XF), xPT F → n + f = 2000 → mKp 132 F0 F → mSA (F0 132 5).toNat F → mRow F 132 = mRun (F0 132) n → (∀ m, m < n → ¬ mRun (F0 132) m 131 = F0 132 5) → xW X d 198 9 [.ref 131, vi 1] [] F (xqi Q) := by
  have stop : ∀ (n : Nat) (F : XF), xPT F → n ≤ 2000 → mKp 132 F0 F → mSA (F0 132 5).toNat F → mRow F 132 = mRun (F0 132) n → (∀ m, m < n → ¬ mRun (F0 132) m 131 = F0 132 5) → (mRun (F0 132) n 131 = F0 132 5 ∨ n = 2000) → xW X d 198 9 [.ref 131, vi 0] [] F (xqi Q) := by
    intro n F hP hn hF hS hrow hno hh
    have e := hF.t
    have el := mLast_u (T := F0 132) hn hno hh.symm
    refine s198_9 hP ⟨⟨by omega, by omega⟩, fun _ => ⟨7, hd, p197 hP (by omega) (by rw [e]; exact hT) hn (by rw [e]; exact hrow) fun _ => ?_⟩, fun c => absurd rfl c⟩
    have := q F hP hF hS (by rw [el]; exact hrow)
    unfold mEnd at this
    rw [el] at this
    rw [e]
    exact this
  intro f
  induction f with
  | zero =>
    intro n F hP hf hF hS hrow hno
    have e := hF.t
    refine s198_9 hP ⟨⟨by omega, by omega⟩, fun c => absurd c (by decide), fun _ => ⟨7, hd, p196 (n := n) hP (by omega) (by rw [e]; exact hT) (by rw [e]; exact hS) (by omega) (by rw [e]; exact hrow) (fun h hP' => stop n F hP' (by omega) hF hS hrow hno (by rw [e] at h; exact h)) (fun _ h => absurd h (by omega))⟩⟩
  | succ f ih =>
    intro n F hP hf hF hS hrow hno
    have e := hF.t
    refine s198_9 hP ⟨⟨by omega, by omega⟩, fun c => absurd c (by decide), fun _ => ⟨7, hd, p196 (n := n) hP (by omega) (by rw [e]; exact hT) (by rw [e]; exact hS) (by omega) (by rw [e]; exact hrow) (fun h hP' => stop n F hP' (by omega) hF hS hrow hno (by rw [e] at h; exact h)) (fun h1 _ G hG k1 s1 r1 _ => ?_)⟩⟩
    rw [e] at h1 s1 r1
    refine ih (n + 1) G hG (by omega) (hF.trans k1.p) s1 r1 fun m hm => ?_
    by_cases hq : m = n
    · rw [hq]; exact h1
    · exact hno m (by omega)
theorem mBeg_row {F G : XF} {r : Int} (hT : mT (F 132)) (h : ∀ i, 0 ≤ i → i < 132 → G 140 (r + i) = mBeg (F 132) i) : mRow G r = mRun (F 132) 0 := mRow_eq h (mZ_beg hT)
theorem p198 {Q : Int → XF → Prop} (hP : xPT F) (hd : 7 < d) (hT : mT (F 132)) (q : ∀ G, xPT G → mKp 132 F G → mSA (F 132 5).toNat G → mRow G 132 = mRun (F 132) (mLast (F 132)) → Q (mEnd (F 132)) G) : xMI X d 198 [.ref 131] F Q :=
  m198 hP ⟨7, hd, p170 hP (by omega) hT (by omega) fun G hG k1 s1 r1 _ _ => l198 hd F hT q 2000 0 G hG (by omega) k1 s1 (mBeg_row hT r1) (fun m h => absurd h (by omega))⟩
theorem l200 {N : Nat} {Q : XF → Prop} (hd : 7 < d) (F0 : XF) (hT : mT (F0 132)) (hN : N ≤ 2000) (q : ∀ G, xPT G → mKp 132 F0 G → mSA (F0 132 5).toNat G → mRow G 132 = mRun (F0 132) N → Q G) : ∀ (f n : Nat) (F : XF), xPT F → n + f = N → mKp 132 F0 F → mSA (F0 132 5).toNat F → mRow F 132 = mRun (F0 132) n → xW X d 200 9 [.ref 131, vi N, vi n] [] F (xqv Q) := by
  intro f
  induction f with
  | zero =>
    intro n F hP hf hF hS hrow
    exact s200_9 hP ⟨⟨by omega, by omega⟩, ⟨by omega, by omega⟩, fun _ _ => q F hP hF hS (by rw [hrow, show n = N by omega]), fun c => absurd (by omega) c⟩
  | succ f ih =>
    intro n F hP hf hF hS hrow
    have e := hF.t
    refine s200_9 hP ⟨⟨by omega, by omega⟩, ⟨by omega, by omega⟩, fun c => absurd c (by omega), fun _ => ⟨7, hd, p181a (n := n) hP (by omega) (by rw [e]; exact hT) (by rw [e]; exact hS) (by omega) (by rw [e]; exact hrow) fun G hG k1 s1 r1 _ => ?_⟩⟩
    rw [e] at s1 r1
    exact ih (n + 1) G hG (by omega) (hF.trans k1.p) s1 r1
theorem p200 {N : Nat} {Q : XF → Prop} (hP : xPT F) (hd : 7 < d) (hT : mT (F 132)) (hN : N ≤ 2000) (q : ∀ G, xPT G → mKp 132 F G → mSA (F 132 5).toNat G → mRow G 132 = mRun (F 132) N → Q G) : xMV X d 200 [.ref 131, vi N] F Q :=
  m200 hP ⟨7, hd, p170 hP (by omega) hT (by omega) fun G hG k1 s1 r1 _ _ => l200 hd F hT hN q N 0 G hG (by omega) k1 s1 (mBeg_row hT r1)⟩
/-- what an answer as if leaves as it was -/
def mKb (F G : XF) : Prop := (∀ p i, (p < 131 ∨ p = 133 ∨ p = 134 ∨ p = 135 ∨ p = 141 ∨ 145 < p) → G p i = F p i) ∧ (∀ i, ¬ i = 0 → ¬ i = 17 → ¬ i = 21 → ¬ i = 22 → ¬ i = 27 → G 131 i = F 131 i) ∧ (∀ i, 0 ≤ i → i < 132 → G 140 i = F 140 i)
theorem mKb.trans {F G H : XF} (a : mKb F G) (b : mKb G H) : mKb F H := ⟨fun p i h => (b.1 p i h).trans (a.1 p i h), fun i h1 h2 h3 h4 h5 => (b.2.1 i h1 h2 h3 h4 h5).trans (a.2.1 i h1 h2 h3 h4 h5), fun i h1 h2 => (b.2.2 i h1 h2).trans (a.2.2 i h1 h2)⟩
theorem mKb.refl {F : XF} : mKb F F := ⟨fun _ _ _ => rfl, fun _ _ _ _ _ _ => rfl, fun _ _ _ => rfl⟩
theorem mKp.b {F G : XF} (a : mKp 132 F G) : mKb F G := ⟨fun p i h => by
    by_cases hp : p = 141
    · subst hp; exact (a.2.2.2 (by decide)).1 i
    · exact a.1 p i (by omega) (by omega) (by omega) (by omega) (by omega) (by omega) hp, fun i h1 h2 h3 h4 _ => by
    by_cases hi : i = 20
    · subst hi; exact (a.2.2.2 (by decide)).2
    · exact a.2.1 i h2 hi h3 h4, fun i h1 h2 => a.2.2.1 i (by omega)⟩
theorem mKb.up {F G : XF} {o : Nat} {i v : Int} (a : mKb F G) (h : (o = 131 ∧ (i = 0 ∨ i = 27)) ∨ o = 132 ∨ o = 142 ∨ o = 143 ∨ o = 144 ∨ o = 145) : mKb F (xup G o i v) := a.trans ⟨fun p j hp => xup_n (by omega), fun j h1 h2 h3 h4 h5 => xup_n (by omega), fun j h1 h2 => xup_n (by omega)⟩
theorem p199 {Q : Int → XF → Prop} (hP : xPT F) (hd : 8 < d) (hT : mT (F 132)) (q : ∀ G, xPT G → mKb F G → G 132 = F 132 → mSA (F 132 5).toNat G → Q (mEnd (F 132)) G) : xMI X d 199 [.ref 131] F Q := by
  have hP0 : xPT (xup F 131 0 0) := xPT_fld (k := 0) hP xob_12 (by decide) (by decide)
  have e0 : xup F 131 0 0 132 = F 132 := funext fun i => xup_o (by decide)
  refine m199 hP ⟨8, hd, p198 hP0 (by omega) (by rw [e0]; exact hT) fun G hG k1 s1 r1 _ => ?_⟩
  have := q G hG ((mKb.refl.up (by omega)).trans k1.b) (k1.t.trans e0) (by rw [e0] at s1; exact s1)
  rw [e0]
  exact this
end REF11
