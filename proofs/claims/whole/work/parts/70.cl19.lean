section CL19
variable {X : List Int32} {d : Nat} {F : XF}
variable {T : Int → Int} {t : Nat} {Q : Int → XF → Prop}
/-! the class's questions as if -/
/-- all but the run aside, facts, trials and marshals is as it was -/
def cAs (F G : XF) : Prop := ∀ p i, ¬ (70 ≤ p ∧ p ≤ 130) → G p i = F p i
/-- the town told, and what is kept of it -/
def cO (F : XF) (t : Nat) (T : Int → Int) : Prop := F 0 0 = (t : Int) ∧ xob 9 t ∧ t + 17 ≤ 70 ∧ mT T ∧ T 7 ≤ 6 ∧ cTw F t T ∧ cFa F T ∧ cTr F T
theorem cO.of {G : XF} (h : cO F t T) (k : cAs F G) (a : cFa G T) (b : cTr G T) : cO G t T := by
  obtain ⟨h1, h2, h3, h4, h5, h6, _, _⟩ := h
  exact ⟨by rw [k 0 0 (by omega)]; exact h1, h2, h3, h4, h5, h6.of h4 fun p i z => k p i (by omega), a, b⟩
theorem cO.a {G : XF} (h : cO F t T) (k : cA F G) (b : cTr G T) : cAs F G ∧ cO G t T := by
  have e : cAs F G := fun p i z => k p i (by omega) (by omega)
  exact ⟨e, h.of e (h.2.2.2.2.2.2.1.of fun p i z => k p i (by omega) (by omega)) b⟩
theorem cO.f {G : XF} (h : cO F t T) (k : cAf F G) (b : cFa G T) : cAs F G ∧ cO G t T := by
  have e : cAs F G := fun p i z => k p i (by omega)
  exact ⟨e, h.of e b (h.2.2.2.2.2.2.2.of (k 104 1 (by omega)) fun p i z => k p i (by omega))⟩
theorem cAs.refl : cAs F F := fun _ _ _ => rfl
theorem cAs.trans {F G H : XF} (a : cAs F G) (b : cAs G H) : cAs F H := fun p i z => (b p i z).trans (a p i z)
/-- an answer, and how it leaves the class -/
def cQ (F : XF) (t : Nat) (T : Int → Int) (Q : Int → XF → Prop) (v : Int) : Prop := ∀ G, xPT G → cAs F G → cO G t T → Q v G
theorem cQ.go {v w : Int} {G : XF} (q : cQ F t T Q v) (hG : xPT G) (a : cAs F G) (b : cO G t T) (e : v = w) : Q w G := by rw [← e]; exact q G hG a b
theorem k128 {c : Int} (hP : xPT F) (hc : inR c) (h : cO F t T) (q : ∀ y, mB y (0 ≤ c ∧ c < T 5) → Q y F) : xMI X d 128 [.ref 0, vi c] F Q := by
  have h5 := h.2.2.2.1.2.2.2.2.2.1
  refine m128 hP ⟨hc, fun z _ => q 0 (mB.i0 fun w => by omega), fun z => ⟨t, h.1, h.2.1, ?_⟩⟩
  rw [h.2.2.2.2.2.1.1.2.2.2.2.2.1]
  exact ⟨hc, ⟨by omega, by omega⟩, fun z1 _ => q 0 (mB.i0 fun w => by omega), fun z1 _ => q 1 (mB.i1 ⟨by omega, by omega⟩)⟩
theorem k129 {c : Int} (hP : xPT F) (hc : inR c) (h : cO F t T) (q : ∀ y, mB y (0 ≤ c ∧ c < T 4) → Q y F) : xMI X d 129 [.ref 0, vi c] F Q := by
  have h5 := h.2.2.2.1.2.2.2.2.1
  refine m129 hP ⟨hc, fun z _ => q 0 (mB.i0 fun w => by omega), fun z => ⟨t, h.1, h.2.1, ?_⟩⟩
  rw [h.2.2.2.2.2.1.1.2.2.2.2.1]
  exact ⟨hc, ⟨by omega, by omega⟩, fun z1 _ => q 0 (mB.i0 fun w => by omega), fun z1 _ => q 1 (mB.i1 ⟨by omega, by omega⟩)⟩
theorem k131 {c : Int} (hP : xPT F) (hc : inR c) (q : ∀ y, mB y (0 ≤ c ∧ c ≤ 1999) → Q y F) : xMI X d 131 [vi c] F Q :=
  m131 hP ⟨hc, fun z _ => q 0 (mB.i0 fun w => by omega), fun z => ⟨hc, fun z1 _ => q 0 (mB.i0 fun w => by omega), fun z1 _ => q 1 (mB.i1 ⟨by omega, by omega⟩)⟩⟩
theorem f20 {Q : XF → Prop} (hP : xPT F) (hd : 6 < d) (h : cO F t T) (q : ∀ G, xPT G → cAs F G → cO G t T → G 98 1 = mEnd T → G 98 2 = mWe T → cFn G T (mLast T) → Q G) : xMV X d 20 [.ref 98, .ref t, .ref 70] F Q := by
  refine k20 hP hd h.2.1 h.2.2.1 h.2.2.2.1 h.2.2.2.2.2.1 h.2.2.2.2.2.2.1 fun G hG k a e => ?_
  have := h.f k a
  have b := a.2 e
  exact q G hG this.1 this.2 b.1 b.2.1 b.2.2
theorem k112 (hP : xPT F) (hd : 7 < d) (h : cO F t T) (q : cQ F t T Q (mEnd T)) : xMI X d 112 [.ref 0] F Q := by
  refine m112 hP ⟨t, h.1, h.2.1, 7, hd, f20 hP (by omega) h fun G hG a b e _ _ _ => ?_⟩
  rw [e]
  exact q G hG a b
theorem k115 {w : Int} (hP : xPT F) (hd : 7 < d) (hw : inR w) (h : cO F t T) (q : cQ F t T Q (aStretch T w)) : xMI X d 115 [.ref 0, vi w] F Q := by
  have h5 := h.2.2.2.1.2.2.2.2.2.1
  unfold aStretch at q
  have q0 := fun v e => q.go (w := v) hP cAs.refl h e
  refine m115 hP ⟨t, h.1, h.2.1, ?_⟩
  rw [h.2.2.2.2.2.1.1.2.2.2.2.2.1]
  refine ⟨⟨by omega, by omega⟩, fun z => ⟨hw, fun z1 _ => q0 _ (by rw [if_neg z, if_neg (by omega)]), fun z1 => ⟨hw, fun z2 => ⟨t, h.1, h.2.1, 7, hd, f20 hP (by omega) h fun G hG a b e _ fn => ⟨hw, fun z3 _ => ?_, fun z3 _ => ?_⟩⟩, fun z2 _ => q0 _ (by rw [if_neg z, if_neg (by omega)])⟩⟩, fun z _ => q0 _ (by rw [if_pos (by omega)])⟩
  · rw [(fn.1 (by omega)).2]
    rw [if_neg z, if_pos (by omega), if_neg z3] at q
    exact q G hG a b
  · rw [(fn.1 (by omega)).1]
    rw [if_neg z, if_pos (by omega), if_pos (by omega)] at q
    exact q G hG a b
theorem k121 {c w : Int} (hP : xPT F) (hd : 7 < d) (hc : inR c) (hw : inR w) (h : cO F t T) (q : cQ F t T Q (aHeld T c w)) : xMI X d 121 [.ref 0, vi c, vi w] F Q := by
  have h5 := h.2.2.2.1.2.2.2.2.2.1
  unfold aHeld at q
  have q0 := fun v e => q.go (w := v) hP cAs.refl h e
  refine m121 hP ⟨7, hd, k128 hP hc h fun y hy => ⟨hy.r, fun z _ => q0 _ (by rw [if_neg (fun u => hy.f z u.1)]), fun z => ⟨hw, fun z1 _ => q0 _ (by rw [if_neg (by omega)]), fun z1 => ⟨hw, fun z2 => ⟨t, h.1, h.2.1, 7, hd, f20 hP (by omega) h fun G hG a b e _ fn => ?_⟩, fun z2 _ => q0 _ (by rw [if_neg (by omega)])⟩⟩⟩⟩
  have hy' := hy.t z
  refine ⟨by omega, fun _ => ?_⟩
  rw [fn.2.1 c w hy'.1 hy'.2 (by omega) (by omega)]
  rw [if_pos ⟨hy', by omega⟩] at q
  exact q G hG a b
theorem k123 {x : Int} (hP : xPT F) (hd : 7 < d) (hx : inR x) (h : cO F t T) (q : cQ F t T Q (aLongest T x)) : xMI X d 123 [.ref 0, vi x] F Q := by
  have h4 := h.2.2.2.1.2.2.2.2.1
  unfold aLongest at q
  have q0 := fun v e => q.go (w := v) hP cAs.refl h e
  refine m123 hP ⟨7, hd, k129 hP hx h fun y hy => ⟨hy.r, fun z => ⟨t, h.1, h.2.1, 7, hd, f20 hP (by omega) h fun G hG a b e _ fn => ?_⟩, fun z _ => q0 _ (by rw [if_neg (hy.f (by omega))])⟩⟩
  have hy' := hy.t z
  refine ⟨by omega, fun _ => ?_⟩
  rw [(fn.2.2 x hy'.1 hy'.2).1]
  rw [if_pos hy'] at q
  exact q G hG a b
theorem k124 {sp : Int} (hP : xPT F) (hd : 14 < d) (hs : inR sp) (h : cO F t T) (q : cQ F t T Q (aMarshals T sp)) : xMI X d 124 [.ref 0, vi sp] F Q := by
  unfold aMarshals at q
  have q0 := fun v e => q.go (w := v) hP cAs.refl h e
  refine m124 hP ⟨hs, fun z _ => q0 _ (by rw [if_neg (by omega)]), fun z => ⟨hs, fun z1 => ⟨t, h.1, h.2.1, 14, hd, f20 hP (by omega) h fun G hG a b e _ fn => ⟨t, b.1, b.2.1, 14, hd, k25 hG (by omega) b.2.1 b.2.2.1 b.2.2.2.1 b.2.2.2.2.2.1 fn (by omega) fun H hH kH _ => ?_⟩⟩, fun z1 _ => q0 _ (by rw [if_neg (by omega)])⟩⟩
  rw [if_pos (by omega)] at q
  have k : cAs G H := fun p i u => kH p i (by omega)
  exact q H hH (a.trans k) (b.of k (b.2.2.2.2.2.2.1.of fun p i u => kH p i (by omega)) (b.2.2.2.2.2.2.2.of (kH 104 1 (by omega)) fun p i u => kH p i (by omega)))
theorem k122 {n : Int} (hP : xPT F) (hd : 7 < d) (hn : inR n) (h : cO F t T) (q : cQ F t T Q (aSlowest T n)) : xMI X d 122 [.ref 0, vi n] F Q := by
  have h5 := h.2.2.2.1.2.2.2.2.2.1
  unfold aSlowest at q
  have q0 := fun v e => q.go (w := v) hP cAs.refl h e
  refine m122 hP ⟨t, h.1, h.2.1, ?_⟩
  rw [h.2.2.2.2.2.1.1.2.2.2.2.2.1]
  refine ⟨⟨by omega, by omega⟩, fun z => ⟨hn, fun z1 _ => q0 _ (by rw [if_neg z, if_neg (by omega)]), fun z1 => ⟨hn, fun z2 => ⟨t, h.1, h.2.1, 7, hd, k91 hP (by omega) h.2.1 h.2.2.1 h.2.2.2.1 h.2.2.2.2.2.1 h.2.2.2.2.2.2.2 (by omega) fun G hG a b _ => ?_⟩, fun z2 _ => q0 _ (by rw [if_neg z, if_neg (by omega)])⟩⟩, fun z _ => q0 _ (by rw [if_pos (by omega)])⟩
  rw [if_neg z, if_pos (by omega)] at q
  exact q G hG (h.a a b).1 (h.a a b).2
theorem k120 {n : Int} (hP : xPT F) (hd : 7 < d) (hn : inR n) (h : cO F t T) (q : cQ F t T Q (aSmooth T n)) : xMI X d 120 [.ref 0, vi n] F Q := by
  have h5 := h.2.2.2.1.2.2.2.2.2.1
  unfold aSmooth at q
  have q0 := fun v e => q.go (w := v) hP cAs.refl h e
  refine m120 hP ⟨t, h.1, h.2.1, ?_⟩
  rw [h.2.2.2.2.2.1.1.2.2.2.2.2.1]
  refine ⟨⟨by omega, by omega⟩, fun z => ⟨hn, fun z1 _ => q0 _ (by rw [if_neg z, if_neg (by omega)]), fun z1 => ⟨hn, fun z2 => ⟨t, h.1, h.2.1, 7, hd, k89 hP (by omega) h.2.1 h.2.2.1 h.2.2.2.1 h.2.2.2.2.2.1 h.2.2.2.2.2.2.2 (by omega) fun G hG a b _ => ?_⟩, fun z2 _ => q0 _ (by rw [if_neg z, if_neg (by omega)])⟩⟩, fun z _ => q0 _ (by rw [if_pos (by omega)])⟩
  rw [if_neg z, if_pos (by omega)] at q
  exact q G hG (h.a a b).1 (h.a a b).2
theorem k116 (hP : xPT F) (hd : 3 < d) (h : cO F t T) (q : cQ F t T Q (aFewest T)) : xMI X d 116 [.ref 0] F Q := by
  have h5 := h.2.2.2.1.2.2.2.2.2.1
  unfold aFewest at q
  have q0 := fun v e => q.go (w := v) hP cAs.refl h e
  refine m116 hP ⟨t, h.1, h.2.1, ?_⟩
  rw [h.2.2.2.2.2.1.1.2.2.2.2.2.1]
  refine ⟨⟨by omega, by omega⟩, fun z => ⟨t, h.1, h.2.1, 3, hd, k78 hP (by omega) h.2.1 h.2.2.2.1 h.2.2.2.2.2.1 fun _ => q0 _ (by rw [if_neg z])⟩, fun z _ => q0 _ (by rw [if_pos (by omega)])⟩
theorem k117 {k w : Int} (hP : xPT F) (hd : 7 < d) (hk : inR k) (hw : inR w) (h : cO F t T) (q : cQ F t T Q (aBest T k w)) : xMI X d 117 [.ref 0, vi k, vi w] F Q := by
  have h5 := h.2.2.2.1.2.2.2.2.2.1
  unfold aBest at q
  have q0 := fun v e => q.go (w := v) hP cAs.refl h e
  have none : (mBt T k).1 = -1 → (mBt T k).2.1 = -1 ∧ (mBt T k).2.2 = -1 := by
    have bst : ∀ (cur : Int × Int × Int) (e a b : Int), (cur.1 = -1 → cur.2.1 = -1 ∧ cur.2.2 = -1) → (mBst cur e a b).1 = -1 → (mBst cur e a b).2.1 = -1 ∧ (mBst cur e a b).2.2 = -1 := fun cur e a b hc => by
      unfold mBst
      by_cases z : e = -1 ∨ (¬ cur.1 = -1 ∧ cur.1 ≤ e)
      · rw [if_pos z]; exact hc
      · rw [if_neg z]
        intro y
        exact absurd (Or.inl y) z
    have b1 : ∀ n : Nat, (mB1 T n).1 = -1 → (mB1 T n).2.1 = -1 ∧ (mB1 T n).2.2 = -1 := by
      intro n
      induction n with
      | zero => exact fun _ => ⟨rfl, rfl⟩
      | succ n ih => exact bst _ _ _ _ ih
    have b2i : ∀ (one : Int) (cur : Int × Int × Int), (cur.1 = -1 → cur.2.1 = -1 ∧ cur.2.2 = -1) → ∀ j : Nat, (mB2i T one cur j).1 = -1 → (mB2i T one cur j).2.1 = -1 ∧ (mB2i T one cur j).2.2 = -1 := by
      intro one cur hc j
      induction j with
      | zero => exact hc
      | succ j ih => exact bst _ _ _ _ ih
    have b2 : ∀ n : Nat, (mB2 T n).1 = -1 → (mB2 T n).2.1 = -1 ∧ (mB2 T n).2.2 = -1 := by
      intro n
      induction n with
      | zero => exact b1 _
      | succ n ih => exact b2i _ _ ih _
    unfold mBt
    split
    · exact b1 _
    split
    · exact b1 _
    · exact b2 _
  refine m117 hP ⟨t, h.1, h.2.1, ?_⟩
  rw [h.2.2.2.2.2.1.1.2.2.2.2.2.1]
  refine ⟨⟨by omega, by omega⟩, fun z => ⟨hk, fun z1 _ => q0 _ (by rw [if_neg z, if_neg (by omega)]), fun z1 => ⟨hk, fun z2 => ⟨hw, fun z3 _ => q0 _ (by rw [if_neg z, if_pos (by omega), if_neg (by omega)]), fun z3 => ⟨hw, fun z4 => ⟨t, h.1, h.2.1, 7, hd, k82 hP (by omega) h.2.1 h.2.2.1 h.2.2.2.1 (by omega) h.2.2.2.2.2.1 h.2.2.2.2.2.2.2 (by omega) fun G hG a b kn => ?_⟩, fun z4 _ => q0 _ (by rw [if_neg z, if_pos (by omega), if_neg (by omega)])⟩⟩, fun z2 _ => q0 _ (by rw [if_neg z, if_neg (by omega)])⟩⟩, fun z _ => q0 _ (by rw [if_pos (by omega)])⟩
  rw [if_neg z, if_pos (by omega), if_pos (by omega)] at q
  have e := b.2.1 k (by omega) kn
  have fin := fun v e => q.go (w := v) hG (h.a a b).1 (h.a a b).2 e
  rw [e.1, e.2.1, e.2.2]
  refine ⟨hw, fun y => ⟨hw, fun y1 => ⟨by omega, fun _ => fin _ ?_⟩, fun y1 => ⟨by omega, fun _ => fin _ ?_⟩⟩, fun y => ⟨by omega, fun _ => fin _ (by rw [if_pos (Or.inl (by omega))])⟩⟩
  · by_cases u : (mBt T k).1 = -1
    · rw [if_pos (Or.inr u), u, (none u).2]
    · rw [if_neg (by omega), if_neg y1]
  · by_cases u : (mBt T k).1 = -1
    · rw [if_pos (Or.inr u), u, (none u).1]
    · rw [if_neg (by omega), if_pos (by omega)]
theorem k118 {n w : Int} (hP : xPT F) (hd : 7 < d) (hn : inR n) (hw : inR w) (h : cO F t T) (q : cQ F t T Q (aBestStart T n w)) : xMI X d 118 [.ref 0, vi n, vi w] F Q := by
  have h5 := h.2.2.2.1.2.2.2.2.2.1
  unfold aBestStart at q
  have q0 := fun v e => q.go (w := v) hP cAs.refl h e
  refine m118 hP ⟨t, h.1, h.2.1, ?_⟩
  rw [h.2.2.2.2.2.1.1.2.2.2.2.2.1]
  refine ⟨⟨by omega, by omega⟩, fun z => ⟨hn, fun z1 _ => q0 _ (by rw [if_neg z, if_neg (by omega)]), fun z1 => ⟨hn, fun z2 => ⟨hw, fun z3 _ => q0 _ (by rw [if_neg z, if_pos (by omega), if_neg (by omega)]), fun z3 => ⟨hw, fun z4 => ⟨t, h.1, h.2.1, 7, hd, k86 hP (by omega) h.2.1 h.2.2.1 h.2.2.2.1 h.2.2.2.2.2.1 h.2.2.2.2.2.2.2 (by omega) fun G hG a b kn => ?_⟩, fun z4 _ => q0 _ (by rw [if_neg z, if_pos (by omega), if_neg (by omega)])⟩⟩, fun z2 _ => q0 _ (by rw [if_neg z, if_neg (by omega)])⟩⟩, fun z _ => q0 _ (by rw [if_pos (by omega)])⟩
  rw [if_neg z, if_pos (by omega), if_pos (by omega)] at q
  have fin := fun v e => q.go (w := v) hG (h.a a b).1 (h.a a b).2 e
  by_cases u : (mBs T (n + 1).toNat).1 = -1
  · refine ⟨hw, fun y _ => fin _ (by rw [if_pos u, u]), fun y => ⟨by rw [u]; exact ⟨by decide, by decide⟩, fun y1 => absurd u y1, fun y1 _ => fin _ (by rw [if_pos u, u])⟩⟩
  · have e := kn u
    refine ⟨hw, fun y _ => fin _ (by rw [if_neg u, if_pos y]), fun y => ⟨⟨by omega, by omega⟩, fun y1 => ⟨by omega, fun _ => ?_⟩, fun y1 => absurd u y1⟩⟩
    rw [e.1]
    exact fin _ (by rw [if_neg u, if_neg y])
theorem k119 {c u m : Int} (hP : xPT F) (hd : 7 < d) (hc : inR c) (hu : inR u) (hm : inR m) (h : cO F t T) (q : cQ F t T Q (aHarm T c u m)) : xMI X d 119 [.ref 0, vi c, vi u, vi m] F Q := by
  have h5 := h.2.2.2.1.2.2.2.2.2.1
  unfold aHarm at q
  have q0 := fun v e => q.go (w := v) hP cAs.refl h e
  refine m119 hP ⟨7, hd, k128 hP hc h fun y hy => ⟨hy.r, fun z => ⟨7, hd, k131 hP hu fun y2 hy2 => ⟨hy2.r, fun z1 _ => q0 _ (by rw [if_pos (hy.t z), if_neg (fun w => hy2.f z1 w.1)]), fun z1 => ⟨hm, fun z2 _ => q0 _ (by rw [if_pos (hy.t z), if_neg (by omega)]), fun z2 => ⟨hm, fun z3 => ⟨t, h.1, h.2.1, 7, hd, f20 hP (by omega) h fun G hG a b e _ fn => ?_⟩, fun z3 _ => q0 _ (by rw [if_pos (hy.t z), if_neg (by omega)])⟩⟩⟩⟩, fun z _ => q0 _ (by rw [if_neg (hy.f (by omega))])⟩⟩
  have hy' := hy.t z
  have hy2' := hy2.t z1
  rw [if_pos hy', if_pos ⟨hy2', by omega⟩] at q
  have eb := mEnd_b (T := T)
  have eb2 := mEnd_b (T := mBrT T c u m)
  rw [e]
  refine ⟨⟨by omega, by omega⟩, fun y1 => ⟨t, b.1, b.2.1, 7, hd, k88 hG (by omega) b.2.1 b.2.2.1 b.2.2.2.1 b.2.2.2.2.2.1 b.2.2.2.2.2.2.2 b.2.2.2.2.1 hy' hy2' (by omega) fun H hH kH rH => ?_⟩, fun y1 _ => ?_⟩
  · have ab := b.a kH rH
    rw [kH 98 1 (by omega) (by omega), e]
    refine ⟨⟨by omega, by omega⟩, fun y2 _ => ?_, fun y2 _ => ?_⟩
    · rw [if_neg (by omega)] at q
      exact q H hH (a.trans ab.1) ab.2
    · rw [if_pos (by omega)] at q
      exact q H hH (a.trans ab.1) ab.2
  · rw [if_pos (by omega)] at q
    exact q G hG a b
end CL19
