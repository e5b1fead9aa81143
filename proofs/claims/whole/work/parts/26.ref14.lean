section REF14
variable {X : List Int32} {d : Nat} {F : XF}
/-- the first below n of which P says so, else -1 -/
noncomputable def mFsf (n : Int) (P : Int → Prop) : Int := Classical.epsilon (mFst n P)
theorem mFst_u {n : Int} {P : Int → Prop} {y z : Int} (a : mFst n P y) (b : mFst n P z) : y = z := by
  rcases a with ⟨a1, a2⟩ | ⟨a1, a2, a3, a4⟩ <;> rcases b with ⟨b1, b2⟩ | ⟨b1, b2, b3, b4⟩
  · omega
  · exact absurd b3 (a2 z b1 b2)
  · exact absurd a3 (b2 y a1 a2)
  · rcases Int.lt_trichotomy y z with h | h | h
    · exact absurd a3 (b4 y a1 h)
    · exact h
    · exact absurd b3 (a4 z b1 h)
theorem mFst_f {n : Int} {P : Int → Prop} {y : Int} (a : mFst n P y) : y = mFsf n P := mFst_u a (Classical.epsilon_spec ⟨y, a⟩)
noncomputable def mHol (T : Int → Int) (S : Nat → Int → Int) (R : Int → Int) (x : Int) : Int := mFsf (S 0 0) (fun s => mOn T R (S 2 s) (S 3 s) x)
noncomputable def aCar (T : Int → Int) (S : Nat → Int → Int) (R : Int → Int) (c w : Int) : Int := if 0 ≤ c ∧ c < T 5 then (if w = 0 then R c + 100000 else if w = 1 then R c - T (78 + c) + 100000 else if w = 2 then T (78 + c) else if w = 3 then R (30 + c) else if w = 4 then S 1 c else if w = 5 then (if T 0 ≤ R c - T (78 + c) then 1 else 0) else -2) else -2
noncomputable def aCrossing (T : Int → Int) (S : Nat → Int → Int) (R : Int → Int) (x w : Int) : Int := if 0 ≤ x ∧ x < T 4 then (if 0 ≤ w ∧ w ≤ 3 then R (60 + 7 * x + w) else if w = 4 then mHol T S R x else if 5 ≤ w ∧ w ≤ 7 then R (60 + 7 * x + w - 1) else -2) else -2
noncomputable def aSection (T : Int → Int) (S : Nat → Int → Int) (R : Int → Int) (s w : Int) : Int := if 0 ≤ s ∧ s < S 0 0 then (if w = 0 then S 2 s else if w = 1 then S 3 s else if w = 2 then S 4 s else if w = 3 then R (S 2 s) - (R (S 3 s) - T (78 + S 3 s)) else -2) else -2
noncomputable def aNeed (T : Int → Int) (S : Nat → Int → Int) (s x : Int) : Int := if (0 ≤ s ∧ s < S 0 0) ∧ (0 ≤ x ∧ x < T 4) then mNeed T (S 4 s) x else -2
noncomputable def mPs (T : Int → Int) (e x : Int) : Nat → Int → Int
  | 0, _ => -1
  | f + 1, t => if mV (mMay T e x t) = 1 then t else mPs T e x f (t + 1)
noncomputable def aPass (T : Int → Int) (S : Nat → Int → Int) (s x t : Int) : Int := if (0 ≤ s ∧ s < S 0 0) ∧ (0 ≤ x ∧ x < T 4) then (if 0 ≤ t ∧ t ≤ 1999 then mPs T (S 4 s) x (2000 - t).toNat t else -3) else -2
noncomputable def aOpen (T : Int → Int) (x t : Int) : Int := if 0 ≤ x ∧ x < T 4 then (if 0 ≤ t ∧ t ≤ 1999 then mV (mOpn T x t) else -3) else -2
/-- windows: the number of the one now, where the k-th begins, how many ticks it has, ahead of tick t -/
noncomputable def mWn (T : Int → Int) (x k : Int) : Nat → Int × Int × Int
  | 0 => (-1, 0, 0)
  | t + 1 =>
    if mV (mOpn T x t) = 1 then
      (if (t : Int) = 0 ∨ mV (mOpn T x ((t : Int) - 1)) = 0 then ((mWn T x k t).1 + 1, if (mWn T x k t).1 + 1 = k then (t : Int) else (mWn T x k t).2.1, if (mWn T x k t).1 + 1 = k then (mWn T x k t).2.2 + 1 else (mWn T x k t).2.2)
       else ((mWn T x k t).1, (mWn T x k t).2.1, if (mWn T x k t).1 = k then (mWn T x k t).2.2 + 1 else (mWn T x k t).2.2))
    else mWn T x k t
noncomputable def aWindow (T : Int → Int) (x k w : Int) : Int := if 0 ≤ x ∧ x < T 4 then (if k = -1 then (mWn T x k 2000).1 + 1 else if 0 ≤ w ∧ w ≤ 1 then (if k < -1 then -3 else if (mWn T x k 2000).1 < k then -1 else if w = 0 then (mWn T x k 2000).2.1 else (mWn T x k 2000).2.2) else -2) else -2
theorem h0r {r : Int} : mRow (xup F 131 0 0) r = mRow F r := mRow_of fun i _ _ => xup_o (by decide)
theorem p184 {c w : Int} {Q : Int → XF → Prop} (hP : xPT F) (hd : 9 < d) (hT : mT (F 132)) (hS : mSA (F 132 5).toNat F) (hJ : mJ (F 132) (mRow F 0)) (hc : inR c) (hw : inR w) (q : mQ F Q (aCar (F 132) (mS (F 132)) (mRow F 0) c w)) : xMI X d 184 [.ref 131, vi c, vi w] F Q := by
  have hT' := hT
  obtain ⟨h0, _, _, _, _, h5, _, _, _, _, hl, _⟩ := hT'
  unfold aCar at q
  refine m184 hP ⟨8, by omega, p155 (h0P hP) (by omega) hc (by rw [h0t]; exact h5) fun y hy => ?_⟩
  rw [h0t] at hy
  refine ⟨hy.r, fun c1 => ?_, fun c1 hG => by rw [if_neg (hy.f (by omega))] at q; exact q.z hS hG⟩
  have g := hy.t c1
  have jc := hJ.1 c g.1 g.2
  have lc := hl c g.1 g.2
  have rc : mRow F 0 c = F 140 c := by rw [mRow_at (by omega), Int.zero_add]
  have rw' : mRow F 0 (30 + c) = F 140 (30 + c) := by rw [mRow_at (by omega), Int.zero_add]
  have s1 : F 136 c = mS (F 132) 1 c := hS.2.1 c g.1 (by omega)
  rw [if_pos g, rc, rw'] at q
  rw [rc] at jc
  have z0 : ∀ p i, ¬ p = 131 → xup F 131 0 0 p i = F p i := fun p i h => xup_o h
  refine ⟨hw, fun h hG => ?_, fun h => ⟨by omega, fun hG => ?_⟩, fun h => ⟨8, by omega, p171 (h0P hP) (by omega) (by omega) fun hG => ?_⟩, fun h => ⟨⟨by omega, by omega⟩, fun hG => ?_⟩, fun h => ⟨⟨by omega, by omega⟩, fun hG => ?_⟩, fun h => ⟨by omega, fun hG => ?_⟩, fun h => ⟨8, by omega, p172 (h0P hP) (by omega) (by omega) (by omega) ?_ fun y2 hy2 => ⟨hy2.r, fun c2 hG => ?_, fun c2 hG => ?_⟩⟩⟩
  · rw [if_neg (by omega), if_neg (by omega), if_neg (by omega), if_neg (by omega), if_neg (by omega), if_neg (by omega)] at q
    exact q.z hS hG
  · rw [if_pos h] at q
    rw [z0 140 _ (by decide)]
    exact q.z hS hG
  · rw [if_neg (by omega), if_pos h] at q
    rw [z0 140 _ (by decide), z0 132 _ (by decide), Int.zero_add]
    exact q.z hS hG
  · rw [if_neg (by omega), if_neg (by omega), if_pos h] at q
    rw [z0 132 _ (by decide)]
    exact q.z hS hG
  · rw [if_neg (by omega), if_neg (by omega), if_neg (by omega), if_pos h] at q
    rw [z0 140 _ (by decide)]
    exact q.z hS hG
  · rw [if_neg (by omega), if_neg (by omega), if_neg (by omega), if_neg (by omega), if_pos h, ← s1] at q
    rw [z0 136 _ (by decide)]
    exact q.z hS hG
  · rw [z0 140 _ (by decide), z0 132 _ (by decide), z0 132 _ (by decide), Int.zero_add]; exact ⟨⟨by omega, by omega⟩, ⟨by omega, by omega⟩⟩
  · have := hy2.f c2
    rw [z0 140 _ (by decide), z0 132 _ (by decide), z0 132 _ (by decide), Int.zero_add] at this
    rw [if_neg (by omega), if_neg (by omega), if_neg (by omega), if_neg (by omega), if_neg (by omega), if_pos h, if_neg this] at q
    exact q.z hS hG
  · have := hy2.t c2
    rw [z0 140 _ (by decide), z0 132 _ (by decide), z0 132 _ (by decide), Int.zero_add] at this
    rw [if_neg (by omega), if_neg (by omega), if_neg (by omega), if_neg (by omega), if_neg (by omega), if_pos h, if_pos this] at q
    exact q.z hS hG
theorem p173b {x : Int} {R : Int → Int} {Q : Int → XF → Prop} (hP : xPT F) (hd : 0 < d) (hT : mT (F 132)) (hS : mSA (F 132 5).toNat F) (hJ : mJ (F 132) (mRow F 0)) (hx : 0 ≤ x ∧ x < F 132 4) (q : Q (mHol (F 132) (mS (F 132)) (mRow F 0) x) F) : xMI X d 173 [.ref 131, vi 0, vi x] F Q := by
  have h5 := hT.2.2.2.2.2.1
  have hSb := hS.b hT (by omega)
  have ee : ∀ i, 0 ≤ i → i < 132 → F 140 (0 + i) = mRow F 0 i := fun i a b => (mRow_at ⟨a, b⟩).symm
  refine p173 hP hd hT hSb (by omega) hx ?_ fun y hy => ?_
  · intro c a b
    dsimp only
    rw [ee c a (by omega)]
    exact hJ.fr hT c a b
  · have hy2 : mFst (mS (F 132) 0 0) (fun s => mOn (F 132) (mRow F 0) (mS (F 132) 2 s) (mS (F 132) 3 s) x) y := by
      have conv : ∀ s, 0 ≤ s → s < F 131 17 → (mOn (F 132) (fun i => F 140 (0 + i)) (F 137 s) (F 138 s) x ↔ mOn (F 132) (mRow F 0) (mS (F 132) 2 s) (mS (F 132) 3 s) x) := fun s a b => by
        have s3 := hS.2.2 s a (by rw [← hS.1]; exact b)
        have sb := hSb.2.1 s a b
        unfold mOn
        dsimp only
        rw [ee _ (by omega) (by omega), ee _ (by omega) (by omega), s3.1, s3.2.1]
      rw [show mS (F 132) 0 0 = F 131 17 from hS.1.symm]
      rcases hy with ⟨h1, h2⟩ | ⟨h1, h2, h3, h4⟩
      · exact Or.inl ⟨h1, fun s a b c => h2 s a b ((conv s a b).mpr c)⟩
      · exact Or.inr ⟨h1, h2, (conv y h1 h2).mp h3, fun s a b c => h4 s a b ((conv s a (by omega)).mpr c)⟩
    have := mFst_f hy2
    unfold mHol at q
    rw [this]
    exact q
theorem p186 {x w : Int} {Q : Int → XF → Prop} (hP : xPT F) (hd : 9 < d) (hT : mT (F 132)) (hS : mSA (F 132 5).toNat F) (hJ : mJ (F 132) (mRow F 0)) (hx : inR x) (hw : inR w) (q : mQ F Q (aCrossing (F 132) (mS (F 132)) (mRow F 0) x w)) : xMI X d 186 [.ref 131, vi x, vi w] F Q := by
  have h4 := hT.2.2.2.2.1
  unfold aCrossing at q
  refine m186 hP ⟨8, by omega, p185 (h0P hP) (by omega) hx (by rw [h0t]; exact h4) fun y hy => ?_⟩
  rw [h0t] at hy
  refine ⟨hy.r, fun c1 => ?_, fun c1 hG => by rw [if_neg (hy.f (by omega))] at q; exact q.z hS hG⟩
  have g := hy.t c1
  rw [if_pos g] at q
  have z0 : ∀ p i, ¬ p = 131 → xup F 131 0 0 p i = F p i := fun p i h => xup_o h
  have lo : 0 ≤ w ∧ w ≤ 3 → ∀ hG : xPT (xup F 131 0 0), Q (xup F 131 0 0 140 (60 + 7 * x + w)) (xup F 131 0 0) := fun h hG => by
    rw [if_pos h, mRow_at (by omega), Int.zero_add] at q
    rw [z0 140 _ (by decide)]
    exact q.z hS hG
  have hi : 5 ≤ w ∧ w ≤ 7 → ∀ hG : xPT (xup F 131 0 0), Q (xup F 131 0 0 140 (60 + 7 * x + w - 1)) (xup F 131 0 0) := fun h hG => by
    rw [if_neg (by omega), if_neg (by omega), if_pos h, mRow_at (by omega), Int.zero_add] at q
    rw [z0 140 _ (by decide)]
    exact q.z hS hG
  refine ⟨hw, fun h hG => ?_, fun h => ⟨⟨by omega, by omega⟩, fun hG => lo (by omega) hG⟩, fun h => ⟨⟨by omega, by omega⟩, fun hG => lo (by omega) hG⟩, fun h => ⟨⟨by omega, by omega⟩, fun hG => lo (by omega) hG⟩, fun h => ⟨⟨by omega, by omega⟩, fun hG => lo (by omega) hG⟩, fun h => ⟨8, by omega, p173b (R := fun _ => 0) (h0P hP) (by omega) (by rw [h0t]; exact hT) (by rw [h0t]; exact h0s hS) (by rw [h0t, h0r]; exact hJ) (by rw [h0t]; exact g) fun hG => ?_⟩, fun h => ⟨⟨by omega, by omega⟩, fun hG => hi (by omega) hG⟩, fun h => ⟨⟨by omega, by omega⟩, fun hG => hi (by omega) hG⟩, fun h => ⟨⟨by omega, by omega⟩, fun hG => hi (by omega) hG⟩⟩
  · rw [if_neg (by omega), if_neg (by omega), if_neg (by omega)] at q
    exact q.z hS hG
  · rw [if_neg (by omega), if_pos h] at q
    rw [h0t, h0r]
    exact q.z hS hG
theorem p187 {s : Int} {Q : Int → XF → Prop} (hP : xPT F) (hd : 0 < d) (hs : inR s) (h : 0 ≤ F 131 17 ∧ F 131 17 ≤ 30) (q : ∀ y, mB y (0 ≤ s ∧ s < F 131 17) → Q y F) : xMI X d 187 [.ref 131, vi s] F Q :=
  m187 hP ⟨hs, ⟨by omega, by omega⟩, 0, hd, p132 hP ⟨⟨by omega, by omega⟩, ⟨by omega, by omega⟩, ⟨by omega, by omega⟩⟩ fun y h => ⟨h.z, fun _ => q y (by unfold mB at *; omega)⟩⟩
theorem p188 {s w : Int} {Q : Int → XF → Prop} (hP : xPT F) (hd : 9 < d) (hT : mT (F 132)) (hS : mSA (F 132 5).toNat F) (hs : inR s) (hw : inR w) (q : mQ F Q (aSection (F 132) (mS (F 132)) (mRow F 0) s w)) : xMI X d 188 [.ref 131, vi s, vi w] F Q := by
  have h5 := hT.2.2.2.2.2.1
  have hSb := hS.b hT (by omega)
  have e17 : xup F 131 0 0 131 17 = F 131 17 := xup_i (by decide)
  unfold aSection at q
  refine m188 hP ⟨8, by omega, p187 (h0P hP) (by omega) hs (by rw [e17]; exact hSb.1) fun y hy => ?_⟩
  rw [e17, hS.1] at hy
  refine ⟨hy.r, fun c1 => ?_, fun c1 hG => by rw [if_neg (hy.f (by omega))] at q; exact q.z hS hG⟩
  have g := hy.t c1
  have s3 : F 137 s = mS (F 132) 2 s ∧ F 138 s = mS (F 132) 3 s ∧ F 139 s = mS (F 132) 4 s := hS.2.2 s g.1 g.2
  have sb := hSb.2.1 s g.1 (by rw [hS.1]; exact g.2)
  have hn := hSb.1
  have hn1 := hS.1
  rw [if_pos g, ← s3.1, ← s3.2.1, ← s3.2.2] at q
  have z0 : ∀ p i, ¬ p = 131 → xup F 131 0 0 p i = F p i := fun p i h => xup_o h
  refine ⟨hw, fun h hG => ?_, fun h => ⟨by omega, fun hG => ?_⟩, fun h => ⟨by omega, fun hG => ?_⟩, fun h => ⟨by omega, fun hG => ?_⟩, fun h => ⟨by omega, by rw [z0 137 _ (by decide)]; omega, by omega, 8, by omega, p171 (h0P hP) (by omega) (by rw [z0 138 _ (by decide)]; omega) fun hG => ?_⟩⟩
  · rw [if_neg (by omega), if_neg (by omega), if_neg (by omega), if_neg (by omega)] at q
    exact q.z hS hG
  · rw [if_pos h] at q
    rw [z0 137 _ (by decide)]
    exact q.z hS hG
  · rw [if_neg (by omega), if_pos h] at q
    rw [z0 138 _ (by decide)]
    exact q.z hS hG
  · rw [if_neg (by omega), if_neg (by omega), if_pos h] at q
    rw [z0 139 _ (by decide)]
    exact q.z hS hG
  · rw [if_neg (by omega), if_neg (by omega), if_neg (by omega), if_pos h, mRow_at (by omega), mRow_at (by omega), Int.zero_add] at q
    rw [z0 137 _ (by decide), z0 138 _ (by decide), z0 140 _ (by decide), z0 140 _ (by decide), z0 132 _ (by decide)]
    exact q.z hS hG
theorem p190 {s x : Int} {Q : Int → XF → Prop} (hP : xPT F) (hd : 9 < d) (hT : mT (F 132)) (hS : mSA (F 132 5).toNat F) (hs : inR s) (hx : inR x) (q : mQ F Q (aNeed (F 132) (mS (F 132)) s x)) : xMI X d 190 [.ref 131, vi s, vi x] F Q := by
  have hT' := hT
  obtain ⟨h0, h1, _, _, h4, h5, _, _, hX, _⟩ := hT'
  have hSb := hS.b hT (by omega)
  have e17 : xup F 131 0 0 131 17 = F 131 17 := xup_i (by decide)
  unfold aNeed at q
  refine m190 hP ⟨8, by omega, p187 (h0P hP) (by omega) hs (by rw [e17]; exact hSb.1) fun y hy => ?_⟩
  rw [e17, hS.1] at hy
  refine ⟨hy.r, fun c1 hG => by rw [if_neg (fun h => hy.f c1 h.1)] at q; exact q.z hS hG, fun c1 => ⟨8, by omega, p185 (h0P hP) (by omega) hx (by rw [h0t]; exact h4) fun y2 hy2 => ?_⟩⟩
  rw [h0t] at hy2
  refine ⟨hy2.r, fun c2 hG => by rw [if_neg (fun h => hy2.f c2 h.2)] at q; exact q.z hS hG, fun c2 => ?_⟩
  have g := hy.t c1
  have g2 := hy2.t c2
  have s3 : F 137 s = mS (F 132) 2 s ∧ F 138 s = mS (F 132) 3 s ∧ F 139 s = mS (F 132) 4 s := hS.2.2 s g.1 g.2
  have sb := hSb.2.1 s g.1 (by rw [hS.1]; exact g.2)
  have hn := hSb.1
  have hn1 := hS.1
  have hXx := hX x g2.1 g2.2
  unfold mX at hXx
  have z0 : ∀ p i, ¬ p = 131 → xup F 131 0 0 p i = F p i := fun p i h => xup_o h
  rw [if_pos ⟨g, g2⟩, ← s3.2.2] at q
  refine ⟨8, by omega, p166 (h0P hP) (by omega) (by omega) (by omega) (by rw [h0t]; exact h1) (by rw [h0t]; omega) (by rw [z0 139 _ (by decide)]; omega) fun hG => ?_⟩
  rw [h0t, z0 139 _ (by decide)]
  exact q.z hS hG
theorem p191 {t : Int} {Q : Int → XF → Prop} (hP : xPT F) (hd : 0 < d) (ht : inR t) (q : ∀ y, mB y (0 ≤ t ∧ t ≤ 1999) → Q y F) : xMI X d 191 [vi t] F Q :=
  m191 hP ⟨ht, 0, hd, p132 hP ⟨⟨by omega, by omega⟩, ⟨by omega, by omega⟩, ⟨by omega, by omega⟩⟩ fun y h => ⟨h.z, fun _ => q y h⟩⟩
theorem l192 {s x t0 : Int} {Q : Int → XF → Prop} (hP : xPT F) (hd : 2 < d) (hT : mT (F 132)) (hx : 0 ≤ x ∧ x < F 132 4) (hs : 0 ≤ s ∧ s < 30) (he : 0 ≤ F 139 s ∧ F 139 s ≤ 100000) (a : Int) (q : Q a F) : ∀ (f : Nat) (t : Int), 0 ≤ t → t + f = 2000 → mPs (F 132) (F 139 s) x f t = a → xW X d 192 37 [.ref 131, vi s, vi x, vi t0, vi t] [] F (xqi Q) := by
  have hT' := hT
  obtain ⟨h0, h1, _, _, h4, h5, _, _, hX, _⟩ := hT'
  intro f
  induction f with
  | zero =>
    intro t h0 ht ha
    subst ha
    exact s192_37 hP ⟨⟨by omega, by omega⟩, fun _ _ => q, fun c => absurd (by omega) c⟩
  | succ f ih =>
    intro t h0 ht ha
    refine s192_37 hP ⟨⟨by omega, by omega⟩, fun c => absurd c (by omega), fun _ => ⟨2, hd, p169 hP (by omega) (by omega) (hX x hx.1 hx.2) (by omega) h1 hs he fun y hy => ⟨hy.r, fun c1 _ => ?_, fun c1 _ => ?_⟩⟩⟩
    · have := hy.v
      unfold mPs at ha
      rw [if_neg (by omega)] at ha
      exact ih (t + 1) (by omega) (by omega) ha
    · have := hy.v
      have := hy.z
      unfold mPs at ha
      rw [if_pos (by omega)] at ha
      subst ha
      exact q
theorem p192 {s x t : Int} {Q : Int → XF → Prop} (hP : xPT F) (hd : 9 < d) (hT : mT (F 132)) (hS : mSA (F 132 5).toNat F) (hs : inR s) (hx : inR x) (ht : inR t) (q : mQ F Q (aPass (F 132) (mS (F 132)) s x t)) : xMI X d 192 [.ref 131, vi s, vi x, vi t] F Q := by
  have hT' := hT
  obtain ⟨h0, h1, _, _, h4, h5, _, _, hX, _⟩ := hT'
  have hSb := hS.b hT (by omega)
  have e17 : xup F 131 0 0 131 17 = F 131 17 := xup_i (by decide)
  unfold aPass at q
  refine m192 hP ⟨8, by omega, p187 (h0P hP) (by omega) hs (by rw [e17]; exact hSb.1) fun y hy => ?_⟩
  rw [e17, hS.1] at hy
  refine ⟨hy.r, fun c1 hG => by rw [if_neg (fun h => hy.f c1 h.1)] at q; exact q.z hS hG, fun c1 => ⟨8, by omega, p185 (h0P hP) (by omega) hx (by rw [h0t]; exact h4) fun y2 hy2 => ?_⟩⟩
  rw [h0t] at hy2
  refine ⟨hy2.r, fun c2 => ?_, fun c2 hG => by rw [if_neg (fun h => hy2.f (by omega) h.2)] at q; exact q.z hS hG⟩
  have g := hy.t c1
  have g2 := hy2.t c2
  have s3 : F 137 s = mS (F 132) 2 s ∧ F 138 s = mS (F 132) 3 s ∧ F 139 s = mS (F 132) 4 s := hS.2.2 s g.1 g.2
  have sb := hSb.2.1 s g.1 (by rw [hS.1]; exact g.2)
  have hn := hSb.1
  have hn1 := hS.1
  have z0 : ∀ p i, ¬ p = 131 → xup F 131 0 0 p i = F p i := fun p i h => xup_o h
  rw [if_pos ⟨g, g2⟩, ← s3.2.2] at q
  refine ⟨8, by omega, p191 (h0P hP) (by omega) ht fun y3 hy3 => ⟨hy3.r, fun c3 hG => ?_, fun c3 hG => ?_⟩⟩
  · have g3 := hy3.t c3
    rw [if_pos g3] at q
    refine l192 hG (by omega) (by rw [h0t]; exact hT) (by rw [h0t]; exact g2) (by omega) (by rw [z0 139 _ (by decide)]; omega) _ (q.z hS hG) (2000 - t).toNat t g3.1 (by omega) ?_
    rw [h0t, z0 139 _ (by decide)]
  · rw [if_neg (hy3.f (by omega))] at q
    exact q.z hS hG
theorem p193 {x t : Int} {Q : Int → XF → Prop} (hP : xPT F) (hd : 9 < d) (hT : mT (F 132)) (hS : mSA (F 132 5).toNat F) (hx : inR x) (ht : inR t) (q : mQ F Q (aOpen (F 132) x t)) : xMI X d 193 [.ref 131, vi x, vi t] F Q := by
  have hT' := hT
  obtain ⟨h0, h1, _, _, h4, h5, _, _, hX, _⟩ := hT'
  unfold aOpen at q
  refine m193 hP ⟨8, by omega, p185 (h0P hP) (by omega) hx (by rw [h0t]; exact h4) fun y2 hy2 => ?_⟩
  rw [h0t] at hy2
  refine ⟨hy2.r, fun c2 => ?_, fun c2 hG => by rw [if_neg (hy2.f (by omega))] at q; exact q.z hS hG⟩
  have g2 := hy2.t c2
  rw [if_pos g2] at q
  refine ⟨8, by omega, p191 (h0P hP) (by omega) ht fun y3 hy3 => ⟨hy3.r, fun c3 => ?_, fun c3 hG => ?_⟩⟩
  · have g3 := hy3.t c3
    rw [if_pos g3] at q
    refine ⟨8, by omega, p167 (h0P hP) (by omega) (by omega) (by rw [h0t]; exact hX x g2.1 g2.2) (by omega) fun y hy => ⟨hy.r, fun c hG => ?_, fun c hG => ?_⟩⟩
    · rw [h0t] at hy
      have := hy.v
      rw [mV_f (hy.f c)] at q
      exact q.z hS hG
    · rw [h0t] at hy
      rw [mV_t (hy.t c)] at q
      exact q.z hS hG
  · rw [if_neg (hy3.f (by omega))] at q
    exact q.z hS hG
end REF14
