section REF6
variable {X : List Int32} {d : Nat} {F : XF}
/-- all but the run at r is as it was -/
def mKz (r : Int) (F G : XF) : Prop := (∀ p i, ¬ p = 140 → G p i = F p i) ∧ (∀ i, ¬ (r ≤ i ∧ i < r + 132) → G 140 i = F 140 i)
theorem mKz.trans {r : Int} {F G H : XF} (a : mKz r F G) (b : mKz r G H) : mKz r F H := ⟨fun p i h => (b.1 p i h).trans (a.1 p i h), fun i h => (b.2 i h).trans (a.2 i h)⟩
theorem mKz.refl {r : Int} {F : XF} : mKz r F F := ⟨fun _ _ _ => rfl, fun _ _ => rfl⟩
theorem mKz.kt {r : Int} {F G : XF} (a : mKz r F G) : mKt r F G := ⟨fun p i _ h _ => a.1 p i h, fun i _ _ _ => a.1 131 i (by decide), a.2, fun _ => ⟨fun i => a.1 141 i (by decide), a.1 131 20 (by decide)⟩⟩
theorem mKz.t {r : Int} {F G : XF} (a : mKz r F G) : G 132 = F 132 := a.kt.t
theorem mKz.s {r : Int} {F G : XF} (a : mKz r F G) : G 136 = F 136 ∧ G 137 = F 137 ∧ G 138 = F 138 ∧ G 139 = F 139 ∧ G 131 17 = F 131 17 := a.kt.s
def mHeld (T : Int → Int) (S : Nat → Int → Int) (R : Int → Int) (x : Int) : Prop := ∃ s, 0 ≤ s ∧ s < S 0 0 ∧ mOn T R (S 2 s) (S 3 s) x
/-- the first n streets behind a tick -/
noncomputable def mSts (T : Int → Int) (S : Nat → Int → Int) (n t : Int) (R : Int → Int) : Int → Int := fun i => if 60 ≤ i ∧ i < 60 + 7 * n then mSt T ((i - 60) / 7) t (mV (mHeld T S R ((i - 60) / 7))) (mV (mOpn T ((i - 60) / 7) t)) R ((i - 60) % 7) else R i
/-- the streets' bounds -/
def mRS (T R : Int → Int) (t : Int) : Prop := ∀ x, 0 ≤ x → x < T 4 → 0 ≤ R (60 + 7 * x) ∧ R (60 + 7 * x) ≤ t ∧ 0 ≤ R (60 + 7 * x + 2) ∧ R (60 + 7 * x + 2) ≤ t ∧ R (60 + 7 * x) ≤ R (60 + 7 * x + 3) ∧ R (60 + 7 * x + 3) ≤ t ∧ 0 ≤ R (60 + 7 * x + 6) ∧ R (60 + 7 * x + 6) ≤ t
theorem mFst_h {n : Int} {P : Int → Prop} {y : Int} (h : mFst n P y) : mB (mV (¬ y = -1)) (∃ s, 0 ≤ s ∧ s < n ∧ P s) := by
  rcases h with ⟨h, k⟩ | ⟨h1, h2, h3, _⟩
  · rw [mV_f (by omega)]
    exact mB.i0 fun ⟨s, a, b, c⟩ => k s a b c
  · rw [mV_t (by omega)]
    exact mB.i1 ⟨y, h1, h2, h3⟩
theorem l176 {r t : Int} {Q : XF → Prop} (hd : 1 < d) (F0 : XF) (hT : mT (F0 132)) (hS : mSA (F0 132 5).toNat F0) (hr : 0 ≤ r ∧ r ≤ 132) (ht : 0 ≤ t ∧ t ≤ 10000) (hR : mFr (F0 132) (fun i => F0 140 (r + i))) (hB : mRS (F0 132) (fun i => F0 140 (r + i)) t) (q : ∀ G, xPT G → mKz r F0 G → (∀ i, 0 ≤ i → i < 132 → G 140 (r + i) = mSts (F0 132) (mL (F0 132) (F0 132 5).toNat) (F0 132 4) t (fun i => F0 140 (r + i)) i) → Q G) : ∀ (n k : Nat) (F : XF) (w4 w5 w6 w7 : Value), xPT F → (k : Int) + n = F0 132 4 → mKz r F0 F → (∀ i, 0 ≤ i → i < 132 → F 140 (r + i) = mSts (F0 132) (mL (F0 132) (F0 132 5).toNat) k t (fun i => F0 140 (r + i)) i) → xW X d 176 2 [.ref 131, vi r, vi t, vi k, w4, w5, w6, w7] [] F (xqv Q) := by
  have hT' := hT
  obtain ⟨_, _, _, _, h4, h5, _, _, hX, _⟩ := hT'
  have hSb := hS.b hT (by omega)
  intro n
  induction n with
  | zero =>
    intro k F w4 w5 w6 w7 hP hk hF hrow
    have e := hF.t
    refine s176_2 hP ⟨⟨by omega, by omega⟩, by rw [e]; constructor <;> omega, fun _ hG => q F hG hF fun i a b => ?_, fun c => absurd (by rw [e]; omega) c⟩
    rw [hrow i a b, show (k : Int) = F0 132 4 by omega]
  | succ n ih =>
    intro k F w4 w5 w6 w7 hP hk hF hrow
    have e := hF.t
    have es := hF.s
    have hXk := hX k (by omega) (by omega)
    have hXk' := hXk
    unfold mX at hXk'
    have hBk := hB k (by omega) (by omega)
    have low : ∀ i, 0 ≤ i → i < 60 + 7 * (k : Int) → i < 60 → F 140 (r + i) = F0 140 (r + i) := fun i a b c => by
      rw [hrow i a (by omega)]; unfold mSts; rw [if_neg (by omega)]
    have high : ∀ i, 60 + 7 * (k : Int) ≤ i → i < 132 → F 140 (r + i) = F0 140 (r + i) := fun i a c => by
      rw [hrow i (by omega) c]; unfold mSts; rw [if_neg (by omega)]
    have hR' : mFr (F 132) (fun i => F 140 (r + i)) := by
      intro c a b
      rw [e] at b
      dsimp only
      rw [low c a (by omega) (by omega)]
      exact hR c a b
    have hSb' : mSb F := by
      unfold mSb at *
      rw [e, es.1, es.2.1, es.2.2.1, es.2.2.2.1, es.2.2.2.2]
      exact hSb
    refine s176_2 hP ⟨⟨by omega, by omega⟩, by rw [e]; constructor <;> omega, fun c => absurd c (by rw [e]; omega), fun _ => ⟨⟨by omega, by omega⟩, 1, hd, p173 hP (by omega) (by rw [e]; exact hT) hSb' hr (by rw [e]; constructor <;> omega) hR' fun y hy => ?_⟩⟩
    have hh : mV (¬ y = -1) = mV (mHeld (F0 132) (mL (F0 132) (F0 132 5).toNat) (fun i => F0 140 (r + i)) k) := by
      refine ((mFst_h hy).v).trans ?_
      congr 1
      apply propext
      unfold mHeld mOn
      dsimp only
      rw [es.2.2.2.2, hS.1]
      constructor
      · rintro ⟨s, a, b, c⟩
        refine ⟨s, a, b, ?_⟩
        have s3 := hS.2.2 s a b
        have b3 := hSb.2.1 s a (by rw [hS.1]; exact b)
        rw [e, es.2.1, es.2.2.1, low (F0 137 s) (by omega) (by omega) (by omega), low (F0 138 s) (by omega) (by omega) (by omega), s3.1, s3.2.1] at c
        exact c
      · rintro ⟨s, a, b, c⟩
        refine ⟨s, a, b, ?_⟩
        have s3 := hS.2.2 s a b
        have b3 := hSb.2.1 s a (by rw [hS.1]; exact b)
        rw [e, es.2.1, es.2.2.1, low (F0 137 s) (by omega) (by omega) (by omega), low (F0 138 s) (by omega) (by omega) (by omega), s3.1, s3.2.1]
        exact c
    have hy' : inR y := by
      rcases hy with ⟨h, _⟩ | ⟨h1, h2, _⟩
      · constructor <;> omega
      · have := hSb'.1
        constructor <;> omega
    -- from 79 on, for what has come
    have body : ∀ (G : XF) (h : Int), xPT G → h = mV (¬ y = -1) → (∀ p i, ¬ (p = 140 ∧ i = r + 60 + 7 * (k : Int)) → G p i = F p i) → G 140 (r + 60 + 7 * (k : Int)) = mW0 (F0 132) k t (fun i => F0 140 (r + i)) → xW X d 176 79 [.ref 131, vi r, vi t, vi k, vi (r + 60 + 7 * (k : Int)), vi (F 132 (8 + 7 * (k : Int) + 5)), vi h, w7] [] G (xqv Q) := by
      intro G h hG hhv hGF hG0
      have eG : G 132 = F0 132 := by rw [← e]; funext i; exact hGF 132 i (by omega)
      have hW : 0 ≤ mW0 (F0 132) k t (fun i => F0 140 (r + i)) ∧ mW0 (F0 132) k t (fun i => F0 140 (r + i)) ≤ t + 1 := by
        unfold mW0
        have := mV_01 (C := 0 < F0 132 (8 + 7 * (k : Int) + 5) ∧ t % F0 132 (8 + 7 * (k : Int) + 5) = 0)
        dsimp only at hBk ⊢
        omega
      have g : ∀ j, 1 ≤ j → j < 7 → G 140 (r + 60 + 7 * (k : Int) + j) = F0 140 (r + (60 + 7 * (k : Int) + j)) := fun j a b => by
        rw [hGF 140 _ (by omega), ← high _ (by omega) (by omega)]; congr 1; omega
      have h01 : h = 0 ∨ h = 1 := by rw [hhv]; exact mV_01
      dsimp only at hBk
      refine c79 hG rfl hr (by omega) (by rw [eG]; exact hXk) (by omega) h01 (by rw [e]; omega) (by rw [hG0]; omega) (by rw [g 2 (by omega) (by omega)]; omega) (by rw [g 3 (by omega) (by omega)]; omega) (by rw [g 6 (by omega) (by omega)]; omega) fun H w2 hH f1 v0 v2 v3 v6 => ?_
      have eH : H 132 = F0 132 := by rw [← eG]; funext i; exact f1 132 i (by omega)
      refine c241 hH hd rfl hr (by omega) (by rw [eH]; exact hXk) (by omega) h01 fun K hK f2 v1 v4 v5 => ?_
      have eK : mKz r F0 K := by
        refine hF.trans ⟨fun p i h1 => ?_, fun i hi => ?_⟩
        · rw [f2 p i (by omega), f1 p i (by omega), hGF p i (by omega)]
        · rw [f2 140 i (by omega), f1 140 i (by omega), hGF 140 i (by omega)]
      refine ih (k + 1) K _ _ _ _ hK (by omega) eK fun i a b => ?_
      have sv : mV (h = 0 ∧ t % G 132 (8 + 7 * (k : Int) + 6) = 0 ∧ 0 < G 140 (r + 60 + 7 * (k : Int))) = mSv (F0 132) k t h (fun i => F0 140 (r + i)) := by
        unfold mSv
        rw [eG, hG0]
      rw [sv] at v0 v2 v6
      rw [hG0] at v0 v3
      rw [eH] at v5
      rw [e] at v6
      have hv := hhv.trans hh
      by_cases hi : 60 + 7 * (k : Int) ≤ i ∧ i < 60 + 7 * (k : Int) + 7
      · have q1 : (i - 60) / 7 = k := by omega
        have q2 : (i - 60) % 7 = i - 60 - 7 * k := by omega
        unfold mSts
        rw [if_pos (by omega), q1, q2, ← hv]
        unfold mSt
        have gz : ∀ j, 1 ≤ j → j < 7 → G 140 (r + 60 + 7 * (k : Int) + j) = F0 140 (r + (60 + 7 * (k : Int) + j)) := g
        rcases (show i = 60 + 7 * (k : Int) ∨ i = 60 + 7 * (k : Int) + 1 ∨ i = 60 + 7 * (k : Int) + 2 ∨ i = 60 + 7 * (k : Int) + 3 ∨ i = 60 + 7 * (k : Int) + 4 ∨ i = 60 + 7 * (k : Int) + 5 ∨ i = 60 + 7 * (k : Int) + 6 by omega) with z | z | z | z | z | z | z
        · rw [if_pos (by omega), z, show r + (60 + 7 * (k : Int)) = r + 60 + 7 * k by omega, f2 _ _ (by omega), v0]
        · rw [if_neg (by omega), if_pos (by omega), z, show r + (60 + 7 * (k : Int) + 1) = r + 60 + 7 * k + 1 by omega, v1, f1 _ _ (by omega), v0, g 1 (by omega) (by omega)]
        · rw [if_neg (by omega), if_neg (by omega), if_pos (by omega), z, show r + (60 + 7 * (k : Int) + 2) = r + 60 + 7 * k + 2 by omega, f2 _ _ (by omega), v2, g 2 (by omega) (by omega)]
        · rw [if_neg (by omega), if_neg (by omega), if_neg (by omega), if_pos (by omega), z, show r + (60 + 7 * (k : Int) + 3) = r + 60 + 7 * k + 3 by omega, f2 _ _ (by omega), v3, g 3 (by omega) (by omega)]
        · rw [if_neg (by omega), if_neg (by omega), if_neg (by omega), if_neg (by omega), if_pos (by omega), z, show r + (60 + 7 * (k : Int) + 4) = r + 60 + 7 * k + 4 by omega, v4, f1 _ _ (by omega), g 4 (by omega) (by omega)]
        · rw [if_neg (by omega), if_neg (by omega), if_neg (by omega), if_neg (by omega), if_neg (by omega), if_pos (by omega), z, show r + (60 + 7 * (k : Int) + 5) = r + 60 + 7 * k + 5 by omega, v5, f1 _ _ (by omega), g 5 (by omega) (by omega)]
        · rw [if_neg (by omega), if_neg (by omega), if_neg (by omega), if_neg (by omega), if_neg (by omega), if_neg (by omega), z, show r + (60 + 7 * (k : Int) + 6) = r + 60 + 7 * k + 6 by omega, f2 _ _ (by omega), v6, g 6 (by omega) (by omega), g 2 (by omega) (by omega)]
      · rw [f2 _ _ (by omega), f1 _ _ (by omega), hGF _ _ (by omega), hrow i a b]
        unfold mSts
        by_cases hj : 60 ≤ i ∧ i < 60 + 7 * (k : Int)
        · rw [if_pos hj, if_pos (by omega)]
        · rw [if_neg hj, if_neg (by omega)]
    have hm5 : 0 < F 132 (8 + 7 * (k : Int) + 5) → 0 ≤ t % F 132 (8 + 7 * (k : Int) + 5) ∧ t % F 132 (8 + 7 * (k : Int) + 5) < F 132 (8 + 7 * (k : Int) + 5) := fun h => mmod (by omega)
    have no : ∀ h, h = mV (¬ y = -1) → ¬ (0 < F 132 (8 + 7 * (k : Int) + 5) ∧ t % F 132 (8 + 7 * (k : Int) + 5) = 0) → xW X d 176 79 [.ref 131, vi r, vi t, vi k, vi (r + 60 + 7 * (k : Int)), vi (F 132 (8 + 7 * (k : Int) + 5)), vi h, w7] [] F (xqv Q) := fun h e1 e2 => by
      refine body F h hP e1 (fun _ _ _ => rfl) ?_
      unfold mW0
      rw [← e, mV_f e2, show r + 60 + 7 * (k : Int) = r + (60 + 7 * (k : Int)) by omega, high _ (by omega) (by omega)]
      dsimp only
      omega
    have yes : ∀ h, h = mV (¬ y = -1) → (0 < F 132 (8 + 7 * (k : Int) + 5) ∧ t % F 132 (8 + 7 * (k : Int) + 5) = 0) → xPT (xup F 140 (r + 60 + 7 * (k : Int)) (F 140 (r + 60 + 7 * (k : Int)) + 1)) → xW X d 176 79 [.ref 131, vi r, vi t, vi k, vi (r + 60 + 7 * (k : Int)), vi (F 132 (8 + 7 * (k : Int) + 5)), vi h, w7] [] (xup F 140 (r + 60 + 7 * (k : Int)) (F 140 (r + 60 + 7 * (k : Int)) + 1)) (xqv Q) := fun h e1 e2 hG => by
      refine body _ h hG e1 (fun p i hn => by simp only [xup]; rw [if_neg hn]) ?_
      unfold mW0
      rw [← e, mV_t e2]
      simp only [xup]
      rw [if_pos (by simp), show r + 60 + 7 * (k : Int) = r + (60 + 7 * (k : Int)) by omega, high _ (by omega) (by omega)]
    rw [← e] at hXk'
    refine ⟨hy', fun c => ⟨⟨by omega, by omega⟩, fun c1 _ => no 0 (mV_f (by omega)).symm (by omega), fun c1 => ⟨⟨by omega, by omega⟩, ⟨by omega, by omega⟩, ?_, fun c2 _ => no 0 (mV_f (by omega)).symm (by omega), fun c2 => ⟨⟨by omega, by omega⟩, ⟨by omega, by omega⟩, fun hG => yes 0 (mV_f (by omega)).symm (by omega) hG⟩⟩⟩, fun c => ⟨⟨by omega, by omega⟩, fun c1 _ => no 1 (mV_t c).symm (by omega), fun c1 => ⟨⟨by omega, by omega⟩, ⟨by omega, by omega⟩, ?_, fun c2 _ => no 1 (mV_t c).symm (by omega), fun c2 => ⟨⟨by omega, by omega⟩, ⟨by omega, by omega⟩, fun hG => yes 1 (mV_t c).symm (by omega) hG⟩⟩⟩⟩
    · have := hm5 (by omega); constructor <;> omega
    · have := hm5 (by omega); constructor <;> omega
theorem p176 {r t : Int} {Q : XF → Prop} (hP : xPT F) (hd : 1 < d) (hT : mT (F 132)) (hS : mSA (F 132 5).toNat F) (hr : 0 ≤ r ∧ r ≤ 132) (ht : 0 ≤ t ∧ t ≤ 10000) (hR : mFr (F 132) (fun i => F 140 (r + i))) (hB : mRS (F 132) (fun i => F 140 (r + i)) t) (q : ∀ G, xPT G → mKz r F G → (∀ i, 0 ≤ i → i < 132 → G 140 (r + i) = mSts (F 132) (mL (F 132) (F 132 5).toNat) (F 132 4) t (fun i => F 140 (r + i)) i) → Q G) : xMV X d 176 [.ref 131, vi r, vi t] F Q := by
  have h4 := hT.2.2.2.2.1
  refine m176 hP fun _ => l176 hd F hT hS hr ht hR hB q (F 132 4).toNat 0 F _ _ _ _ hP (by omega) mKz.refl fun i a b => ?_
  unfold mSts
  rw [if_neg (by omega)]
end REF6
