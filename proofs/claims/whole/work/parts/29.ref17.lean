section REF17
variable {X : List Int32} {d : Nat} {F : XF}
theorem mWn_b {T : Int → Int} {x k : Int} : ∀ t : Nat, -1 ≤ (mWn T x k t).1 ∧ (mWn T x k t).1 ≤ t ∧ 0 ≤ (mWn T x k t).2.2 ∧ (mWn T x k t).2.2 ≤ t
  | 0 => by unfold mWn; dsimp only; omega
  | t + 1 => by
    have := mWn_b (T := T) (x := x) (k := k) t
    unfold mWn
    split
    · split
      · dsimp only; split <;> omega
      · dsimp only; split <;> omega
    · omega
theorem l194 {x k w : Int} {Q : Int → XF → Prop} (hP : xPT F) (hd : 1 < d) (hT : mT (F 132)) (hx : 0 ≤ x ∧ x < F 132 4) (hk : inR k) (hk1 : -1 ≤ k) (hw : inR w) (q : Q (if k = -1 then (mWn (F 132) x k 2000).1 + 1 else if (mWn (F 132) x k 2000).1 < k then -1 else if w = 0 then (mWn (F 132) x k 2000).2.1 else (mWn (F 132) x k 2000).2.2) F) : ∀ (n t : Nat), t + n = 2000 → xW X d 194 51 [.ref 131, vi x, vi k, vi w, vi (mWn (F 132) x k t).1, vi (mWn (F 132) x k t).2.1, vi (mWn (F 132) x k t).2.2, vi t] [] F (xqi Q) := by
  have hX := hT.2.2.2.2.2.2.2.2.1
  have h4 := hT.2.2.2.2.1
  intro n
  induction n with
  | zero =>
    intro t ht
    have : t = 2000 := by omega
    subst this
    have b := mWn_b (T := F 132) (x := x) (k := k) 2000
    refine s194_51 hP ⟨⟨by omega, by omega⟩, fun _ => ⟨hk, fun c => ⟨hk, ⟨by omega, by omega⟩, fun c1 => ⟨hw, fun c2 _ => ?_, fun c2 _ => ?_⟩, fun c1 _ => ?_⟩, fun c _ => ?_⟩, fun c => absurd (by omega) c⟩
    · rw [if_neg c, if_neg (by omega), if_neg c2] at q; exact q
    · rw [if_neg c, if_neg (by omega), if_pos (by omega)] at q; exact q
    · rw [if_neg c, if_pos (by omega)] at q; exact q
    · rw [if_pos (by omega)] at q; exact q
  | succ n ih =>
    intro t ht
    have b := mWn_b (T := F 132) (x := x) (k := k) t
    have nx := ih (t + 1) (by omega)
    have hXx := hX x hx.1 hx.2
    have go : ∀ a : Int × Int × Int, a = mWn (F 132) x k (t + 1) → xW X d 194 51 [.ref 131, vi x, vi k, vi w, vi a.1, vi a.2.1, vi a.2.2, vi ((t : Int) + 1)] [] F (xqi Q) := fun a h => by subst h; exact nx
    -- the last step: counting
    have cnt : ∀ n1 f1 : Int, -1 ≤ n1 → n1 ≤ 3000 → mWn (F 132) x k (t + 1) = (n1, f1, if n1 = k then (mWn (F 132) x k t).2.2 + 1 else (mWn (F 132) x k t).2.2) → xW X d 194 107 [.ref 131, vi x, vi k, vi w, vi n1, vi f1, vi (mWn (F 132) x k t).2.2, vi t] [] F (xqi Q) := fun n1 f1 h1 h2 h3 => by
      refine s194_107 hP ⟨⟨by omega, by omega⟩, hk, fun c _ => ?_, fun c _ => ?_⟩
      · rw [if_neg c] at h3
        rw [Int.add_zero]
        exact go (n1, f1, _) h3.symm
      · rw [if_pos (by omega)] at h3
        exact go (n1, f1, _) h3.symm
    have new : mV (mOpn (F 132) x t) = 1 → ((t : Int) = 0 ∨ mV (mOpn (F 132) x ((t : Int) - 1)) = 0) → xW X d 194 89 [.ref 131, vi x, vi k, vi w, vi (mWn (F 132) x k t).1, vi (mWn (F 132) x k t).2.1, vi (mWn (F 132) x k t).2.2, vi t] [] F (xqi Q) := fun a1 a2 => by
      have e : mWn (F 132) x k (t + 1) = ((mWn (F 132) x k t).1 + 1, if (mWn (F 132) x k t).1 + 1 = k then (t : Int) else (mWn (F 132) x k t).2.1, if (mWn (F 132) x k t).1 + 1 = k then (mWn (F 132) x k t).2.2 + 1 else (mWn (F 132) x k t).2.2) := by
        rw [mWn, if_pos a1, if_pos a2]
      refine s194_89 hP ⟨⟨by omega, by omega⟩, hk, fun c _ => ?_, fun c _ => ?_⟩
      · rw [if_neg c] at e
        exact cnt _ _ (by omega) (by omega) (by rw [e, if_neg c])
      · have c' : (mWn (F 132) x k t).1 + 1 = k := by omega
        rw [if_pos c'] at e
        exact cnt _ _ (by omega) (by omega) (by rw [e])
    refine s194_51 hP ⟨⟨by omega, by omega⟩, fun c => absurd c (by omega), fun _ => ⟨1, hd, p167 hP (by omega) (by omega) hXx (by omega) fun y hy => ⟨hy.r, fun c => ⟨⟨by omega, by omega⟩, fun c1 _ => new (by rw [← hy.v]; have := hy.z; omega) (Or.inl c1), fun c1 => ⟨1, hd, p167 hP (by omega) (by omega) hXx (by omega) fun y2 hy2 => ⟨hy2.r, fun c2 _ => ?_, fun c2 _ => new (by rw [← hy.v]; have := hy.z; omega) (Or.inr (by rw [← hy2.v]; omega))⟩⟩⟩, fun c _ => go _ ?_⟩⟩⟩
    · refine cnt _ _ (by omega) (by omega) ?_
      rw [mWn, if_pos (by rw [← hy.v]; have := hy.z; omega), if_neg (by rw [← hy2.v]; omega)]
    · rw [mWn, if_neg (by rw [← hy.v]; omega)]
theorem p194 {x k w : Int} {Q : Int → XF → Prop} (hP : xPT F) (hd : 9 < d) (hT : mT (F 132)) (hS : mSA (F 132 5).toNat F) (hx : inR x) (hk : inR k) (hw : inR w) (q : mQ F Q (aWindow (F 132) x k w)) : xMI X d 194 [.ref 131, vi x, vi k, vi w] F Q := by
  have h4 := hT.2.2.2.2.1
  unfold aWindow at q
  refine m194 hP ⟨8, by omega, p185 (h0P hP) (by omega) hx (by rw [h0t]; exact h4) fun y hy => ?_⟩
  rw [h0t] at hy
  refine ⟨hy.r, fun c1 hG => by rw [if_neg (hy.f c1)] at q; exact q.z hS hG, fun c1 => ?_⟩
  have g := hy.t c1
  rw [if_pos g] at q
  refine ⟨hk, fun c hG => ?_, fun c => ⟨hw, 8, by omega, p132 (h0P hP) ⟨⟨by omega, by omega⟩, ⟨by omega, by omega⟩, ⟨by omega, by omega⟩⟩ fun y2 hy2 => ⟨hy2.r, fun c2 hG => ?_, fun c2 hG => ?_⟩⟩⟩
  · rw [if_pos c] at q
    refine s194_31 hG ⟨hk, fun _ _ => ?_, fun c2 => absurd (by omega) c2⟩
    refine l194 hG (by omega) (by rw [h0t]; exact hT) (by rw [h0t]; exact g) hk (by omega) hw ?_ 2000 0 (by omega)
    rw [if_pos c, h0t]
    exact q.z hS hG
  · have g2 := hy2.t c2
    rw [if_neg c, if_pos g2] at q
    refine s194_31 hG ⟨hk, fun c3 _ => ?_, fun c3 _ => ?_⟩
    · rw [if_neg (by omega)] at q
      refine l194 hG (by omega) (by rw [h0t]; exact hT) (by rw [h0t]; exact g) hk c3 hw ?_ 2000 0 (by omega)
      rw [if_neg c, h0t]
      exact q.z hS hG
    · rw [if_pos (by omega)] at q
      exact q.z hS hG
  · rw [if_neg c, if_neg (hy2.f (by omega))] at q
    exact q.z hS hG
/-! the price -/
theorem mWs_b {T : Int → Int} (hT : mT T) {n : Nat} (hn : n ≤ 2000) : ∀ k : Nat, (k : Int) ≤ T 4 → 0 ≤ mWs (mRun T n) k ∧ mWs (mRun T n) k ≤ 20000000 * (k : Int)
  | 0, _ => by unfold mWs; omega
  | k + 1, hk => by
    have a := mWs_b hT hn k (by omega)
    have b := (mRun_I hT n (by omega)).2 k (by omega) (by omega)
    rw [mRun_130 hT n] at b
    unfold mWs
    omega
noncomputable def aPrice (T : Int → Int) (a b : Int) : Int :=
  if a < 0 ∨ b < 0 then -3 else if mEnd T = -1 then -1 else
  if (0 < mEnd T ∧ 9223372036854775807 / mEnd T < a) ∨ (0 < mWs (mRun T (mLast T)) (T 4).toNat ∧ 9223372036854775807 / mWs (mRun T (mLast T)) (T 4).toNat < b) then -6
  else if 9223372036854775807 - b * mWs (mRun T (mLast T)) (T 4).toNat < a * mEnd T then -6 else a * mEnd T + b * mWs (mRun T (mLast T)) (T 4).toNat
theorem mEnd_b {T : Int → Int} : -1 ≤ mEnd T ∧ mEnd T ≤ 2000 := by
  have := (mLast_p (T := T)).1
  unfold mEnd
  split <;> omega
theorem mul_ok {a e : Int} (ha : 0 ≤ a) (he : 0 ≤ e) (h : ¬ (0 < e ∧ 9223372036854775807 / e < a)) : 0 ≤ a * e ∧ a * e ≤ 9223372036854775807 := by
  refine ⟨Int.mul_nonneg ha he, ?_⟩
  by_cases h0 : e = 0
  · rw [h0, Int.mul_zero]; omega
  · have h1 : a ≤ 9223372036854775807 / e := by omega
    exact (Int.le_ediv_iff_mul_le (by omega)).mp h1
theorem xcmp_0 {x y : Int} : xcmp x y = 0 ↔ x = y := by
  unfold xcmp
  by_cases h : y < x
  · rw [if_pos h]; omega
  · rw [if_neg h]
    by_cases h2 : x = y
    · rw [if_pos h2]; omega
    · rw [if_neg h2]; omega
theorem c219 {a b e w : Int} {Q : Int → XF → Prop} (hP : xPT F) (ha : 0 ≤ a ∧ a ≤ 9223372036854775807) (hb : 0 ≤ b ∧ b ≤ 9223372036854775807) (he : 0 ≤ e ∧ e ≤ 2000) (hw : 0 ≤ w ∧ w ≤ 2000000000) (h1 : ¬ (0 < e ∧ 9223372036854775807 / e < a)) (h2 : ¬ (0 < w ∧ 9223372036854775807 / w < b)) (q : Q (if 9223372036854775807 - b * w < a * e then -6 else a * e + b * w) F) : xW X d 219 91 [.ref 131, vl a, xU0, vl b, xU0, vl e, xU0, vl w, xU0] [] F (xql Q) := by
  have g1 := mul_ok ha.1 he.1 h1
  have g2 := mul_ok hb.1 hw.1 h2
  refine s219_91 hP ⟨⟨by omega, by omega⟩, ⟨by omega, by omega⟩, xcmp_r, fun c _ => ?_, fun c _ => ?_⟩
  · have : ¬ 9223372036854775807 - b * w < a * e := fun h => by have := xcmp_gt.mpr h; omega
    rw [if_neg this] at q; exact q
  · have := xcmp_gt.mp (show 0 < xcmp (a * e) (9223372036854775807 - b * w) by omega)
    rw [if_pos this] at q; exact q
theorem c219b {a b e w : Int} {Q : Int → XF → Prop} (hP : xPT F) (ha : 0 ≤ a ∧ a ≤ 9223372036854775807) (hb : 0 ≤ b ∧ b ≤ 9223372036854775807) (he : 0 ≤ e ∧ e ≤ 2000) (hw : 0 ≤ w ∧ w ≤ 2000000000) (h1 : ¬ (0 < e ∧ 9223372036854775807 / e < a)) (q : Q (if 0 < w ∧ 9223372036854775807 / w < b then -6 else if 9223372036854775807 - b * w < a * e then -6 else a * e + b * w) F) : xW X d 219 69 [.ref 131, vl a, xU0, vl b, xU0, vl e, xU0, vl w, xU0] [] F (xql Q) := by
  refine s219_69 hP ⟨⟨by omega, by omega⟩, ⟨by omega, by omega⟩, xcmp_r, fun c _ => ?_, fun c => ?_⟩
  · have c' : ¬ 0 < w := fun h => by have := xcmp_gt.mpr h; omega
    rw [if_neg (by omega)] at q
    exact c219 hP ha hb he hw h1 (by omega) q
  · have c' : 0 < w := xcmp_gt.mp (by omega)
    have hd : 0 ≤ 9223372036854775807 / w ∧ 9223372036854775807 / w ≤ 9223372036854775807 := ⟨Int.ediv_nonneg (by omega) (by omega), Int.ediv_le_self _ (by omega)⟩
    refine ⟨⟨by omega, by omega⟩, ⟨by omega, by omega⟩, ⟨by omega, by omega⟩, ⟨by omega, by omega⟩, xcmp_r, fun c2 _ => ?_, fun c2 _ => ?_⟩
    · have : ¬ 9223372036854775807 / w < b := fun h => by have := xcmp_gt.mpr h; omega
      rw [if_neg (fun h => this h.2)] at q
      exact c219 hP ha hb he hw h1 (fun h => this h.2) q
    · have := xcmp_gt.mp (show 0 < xcmp b (9223372036854775807 / w) by omega)
      rw [if_pos ⟨c', this⟩] at q
      exact q
theorem p219 {a b : Int} {Q : Int → XF → Prop} (hP : xPT F) (hd : 9 < d) (hT : mT (F 132)) (hS : mSA (F 132 5).toNat F) (ha : inL a) (hb : inL b) (q : mQ F Q (aPrice (F 132) a b)) : xML X d 219 [.ref 131, vl a, vl b] F Q := by
  have h4 := hT.2.2.2.2.1
  have eb := mEnd_b (T := F 132)
  have wb := mWs_b hT (n := mLast (F 132)) mLast_p.1 (F 132 4).toNat (by omega)
  unfold aPrice at q
  refine m219 hP ⟨ha, ⟨by omega, by omega⟩, xcmp_r, fun c hG => ?_, fun c => ⟨hb, ⟨by omega, by omega⟩, xcmp_r, fun c1 => ⟨8, by omega, p198 (h0P hP) (by omega) (by rw [h0t]; exact hT) fun G hG k1 s1 r1 => ?_⟩, fun c1 hG => ?_⟩⟩
  · have := xcmp_lt.mp c
    rw [if_pos (Or.inl this)] at q
    exact q.z hS hG
  · have c' : ¬ a < 0 := fun h => c (xcmp_lt.mpr h)
    have c1' : ¬ b < 0 := fun h => by have := xcmp_lt.mpr h; omega
    rw [h0t] at s1 r1 ⊢
    rw [if_neg (by omega)] at q
    refine ⟨⟨by omega, by omega⟩, ⟨by omega, by omega⟩, ⟨by omega, by omega⟩, xcmp_r, fun c2 => ⟨8, by omega, p195 hG (by rw [k1.t, h0t]; exact hT) (by omega) ?_⟩, fun c2 _ => ?_⟩
    · have c2' : ¬ mEnd (F 132) = -1 := fun h => c2 (xcmp_0.mpr h)
      rw [k1.t, h0t, r1]
      rw [if_neg c2'] at q
      refine ⟨⟨by omega, by omega⟩, ⟨by omega, by omega⟩, ⟨by omega, by omega⟩, xcmp_r, fun c3 _ => ?_, fun c3 => ?_⟩
      · have c3' : ¬ 0 < mEnd (F 132) := fun h => by have := xcmp_gt.mpr h; omega
        refine c219b hG ⟨by omega, by omega⟩ ⟨by omega, by omega⟩ ⟨by omega, by omega⟩ ⟨by omega, by omega⟩ (by omega) ?_
        by_cases hq : 0 < mWs (mRun (F 132) (mLast (F 132))) (F 132 4).toNat ∧ 9223372036854775807 / mWs (mRun (F 132) (mLast (F 132))) (F 132 4).toNat < b
        · rw [if_pos (Or.inr hq)] at q
          rw [if_pos hq]
          exact q.p hG k1 s1
        · rw [if_neg (by rintro (h | h); exact c3' h.1; exact hq h)] at q
          rw [if_neg hq]
          exact q.p hG k1 s1
      · have c3' : 0 < mEnd (F 132) := xcmp_gt.mp (by omega)
        have hd : 0 ≤ 9223372036854775807 / mEnd (F 132) ∧ 9223372036854775807 / mEnd (F 132) ≤ 9223372036854775807 := ⟨Int.ediv_nonneg (by omega) (by omega), Int.ediv_le_self _ (by omega)⟩
        refine ⟨⟨by omega, by omega⟩, ⟨by omega, by omega⟩, ⟨by omega, by omega⟩, ⟨by omega, by omega⟩, xcmp_r, fun c4 _ => ?_, fun c4 _ => ?_⟩
        · have := xcmp_gt.mp c4
          rw [if_pos (Or.inl ⟨c3', this⟩)] at q
          exact q.p hG k1 s1
        · have c4' : ¬ 9223372036854775807 / mEnd (F 132) < a := fun h => c4 (xcmp_gt.mpr h)
          refine c219b hG ⟨by omega, by omega⟩ ⟨by omega, by omega⟩ ⟨by omega, by omega⟩ ⟨by omega, by omega⟩ (fun h => c4' h.2) ?_
          by_cases hq : 0 < mWs (mRun (F 132) (mLast (F 132))) (F 132 4).toNat ∧ 9223372036854775807 / mWs (mRun (F 132) (mLast (F 132))) (F 132 4).toNat < b
          · rw [if_pos (Or.inr hq)] at q
            rw [if_pos hq]
            exact q.p hG k1 s1
          · rw [if_neg (by rintro (h | h); exact c4' h.2; exact hq h)] at q
            rw [if_neg hq]
            exact q.p hG k1 s1
    · rw [if_pos (xcmp_0.mp (by omega))] at q
      exact q.p hG k1 s1
  · have : b < 0 := xcmp_lt.mp (by omega)
    rw [if_pos (Or.inr this)] at q
    exact q.z hS hG
end REF17
