section REF19
variable {X : List Int32} {d : Nat} {F : XF}
/-- these splits, in place of those told -/
def mSp (T : Int → Int) (one two : Int) : Int → Int := fun i => if 108 ≤ i ∧ i < 138 then (if i - 108 = one ∨ i - 108 = two then 1 else 0) else T i
theorem mSp_o {T : Int → Int} {one two i : Int} (h : ¬ (108 ≤ i ∧ i < 138)) : mSp T one two i = T i := if_neg h
theorem mT_sp {T : Int → Int} {one two : Int} (h : mT T) : mT (mSp T one two) := by
  have hT := h
  obtain ⟨g0, g1, g2, g3, g4, g5, g6, g7, gX, gO, gl, gs, gg, gb⟩ := hT
  refine h.chg (fun j hj => mSp_o (by omega)) ?_ ?_ ?_ (fun c a b => ?_) fun k a b => ?_
  · rw [mSp_o (by omega)]; exact g1
  · rw [mSp_o (by omega)]; exact g3
  · rw [mSp_o (by omega)]; exact g7
  · unfold mSp
    rw [if_pos (by omega)]
    split <;> omega
  · rw [mSp_o (by omega)] at b
    exact (h.bk k a b).of (mSp_o (by omega)) (fun j p q => mSp_o (by omega))
theorem l208 {T : Int → Int} {one two : Int} {Q : Int → XF → Prop} (hd : 8 < d) (F0 : XF) (hT : mT T) (h1 : inR one) (h2 : inR two) (q : ∀ G, xPT G → mAd F0 G → G 132 = mSp T one two → mRow G 132 = mRun (mSp T one two) (mLast (mSp T one two)) → Q (mEnd (mSp T one two)) G) : ∀ (n k : Nat) (F : XF), xPT F → k + n = 30 → mAd F0 F → (∀ i, ¬ (108 ≤ i ∧ i < 138) → F 132 i = T i) → (∀ i : Int, 108 ≤ i → i < 108 + k → F 132 i = if i - 108 = one ∨ i - 108 = two then 1 else 0) → xW X d 208 2 [.ref 131, vi one, vi two, vi k] [] F (xqi Q) := by
  intro n
  induction n with
  | zero =>
    intro k F hP hk hA hT2 hs
    have e : F 132 = mSp T one two := funext fun i => by
      unfold mSp
      by_cases hi : 108 ≤ i ∧ i < 138
      · rw [if_pos hi]; exact hs i hi.1 (by omega)
      · rw [if_neg hi]; exact hT2 i hi
    exact s208_2 hP ⟨⟨by omega, by omega⟩, fun _ => ⟨8, hd, p198a F0 hP (by omega) (mT_sp hT) hA e fun G hG a b c _ => q G hG a b c⟩, fun c => absurd (by omega) c⟩
  | succ n ih =>
    intro k F hP hk hA hT2 hs
    have next : ∀ v, v = (if (k : Int) = one ∨ (k : Int) = two then 1 else 0) → xPT (xup F 132 (108 + (k : Int)) v) → xW X d 208 2 [.ref 131, vi one, vi two, vi ((k : Int) + 1)] [] (xup F 132 (108 + (k : Int)) v) (xqi Q) := fun v hv hG => by
      refine ih (k + 1) _ hG (by omega) (hA.up (by omega)) (fun i h => by rw [xup_i (by omega)]; exact hT2 i h) (fun i a b => ?_)
      by_cases hq : i = 108 + k
      · rw [hq, xup_s, hv, show 108 + (k : Int) - 108 = k by omega]
      · rw [xup_i hq]; exact hs i a (by omega)
    refine s208_2 hP ⟨⟨by omega, by omega⟩, fun c => absurd c (by omega), fun _ => ⟨⟨by omega, by omega⟩, h1, fun c => ⟨⟨by omega, by omega⟩, fun hG => next 1 (by rw [if_pos (Or.inl c)]) hG⟩, fun c => ⟨⟨by omega, by omega⟩, h2, fun c2 => ⟨⟨by omega, by omega⟩, fun hG => next 0 (by rw [if_neg (by omega)]) hG⟩, fun c2 => ⟨⟨by omega, by omega⟩, fun hG => next 1 (by rw [if_pos (by omega)]) hG⟩⟩⟩⟩
theorem p208 {T : Int → Int} {one two : Int} {Q : Int → XF → Prop} (hd : 8 < d) (F0 : XF) (hP : xPT F) (hT : mT T) (h1 : inR one) (h2 : inR two) (hA : mAd F0 F) (hF : ∀ i, ¬ (108 ≤ i ∧ i < 138) → F 132 i = T i) (q : ∀ G, xPT G → mAd F0 G → G 132 = mSp T one two → mRow G 132 = mRun (mSp T one two) (mLast (mSp T one two)) → Q (mEnd (mSp T one two)) G) : xMI X d 208 [.ref 131, vi one, vi two] F Q :=
  m208 hP fun _ => l208 hd F0 hT h1 h2 q 30 0 F hP (by omega) hA hF (fun i a b => by omega)
noncomputable def mBst (cur : Int × Int × Int) (e a b : Int) : Int × Int × Int := if e = -1 ∨ (¬ cur.1 = -1 ∧ cur.1 ≤ e) then cur else (e, a, b)
noncomputable def mB1 (T : Int → Int) : Nat → Int × Int × Int
  | 0 => (mEnd (mSp T (-1) (-1)), -1, -1)
  | k + 1 => mBst (mB1 T k) (mEnd (mSp T k (-1))) k (mB1 T k).2.2
noncomputable def mB2i (T : Int → Int) (one : Int) (cur : Int × Int × Int) : Nat → Int × Int × Int
  | 0 => cur
  | j + 1 => mBst (mB2i T one cur j) (mEnd (mSp T one (one + 1 + j))) one (one + 1 + j)
noncomputable def mB2 (T : Int → Int) : Nat → Int × Int × Int
  | 0 => mB1 T (T 5 - 1).toNat
  | k + 1 => mB2i T k (mB2 T k) (T 5 - 2 - k).toNat
noncomputable def mBt (T : Int → Int) (k : Int) : Int × Int × Int := if k = 0 then mB1 T 0 else if k = 1 then mB1 T (T 5 - 1).toNat else mB2 T (T 5 - 1).toNat
noncomputable def aBest (T : Int → Int) (k w : Int) : Int := if T 5 = 0 then -5 else if 0 ≤ k ∧ k ≤ 2 then (if 0 ≤ w ∧ w ≤ 2 then (if w = 0 ∨ (mBt T k).1 = -1 then (mBt T k).1 else if w = 1 then (mBt T k).2.1 else (mBt T k).2.2) else -2) else -3
def mBb (a : Int × Int × Int) : Prop := -1 ≤ a.1 ∧ a.1 ≤ 2000
theorem mBst_b {a : Int × Int × Int} {T : Int → Int} {p q : Int} (h : mBb a) : mBb (mBst a (mEnd T) p q) := by
  have := mEnd_b (T := T)
  unfold mBst mBb at *
  split
  · exact h
  · dsimp only; omega
theorem mB1_b {T : Int → Int} : ∀ k, mBb (mB1 T k)
  | 0 => mEnd_b
  | k + 1 => mBst_b (mB1_b k)
theorem mB2i_b {T : Int → Int} {one : Int} {cur : Int × Int × Int} (h : mBb cur) : ∀ j, mBb (mB2i T one cur j)
  | 0 => h
  | j + 1 => mBst_b (mB2i_b h j)
theorem mB2_b {T : Int → Int} : ∀ k, mBb (mB2 T k)
  | 0 => mB1_b _
  | k + 1 => mB2i_b (mB2_b k) _
section BEST
variable {k w : Int} {Q : Int → XF → Prop} (F0 : XF)
theorem c209 {r : Int × Int × Int} {u6 : Int} {v7 v8 : Value} (hP : xPT F) (hd : 8 < d) (hT : mT (F0 132)) (hw : 0 ≤ w ∧ w ≤ 2) (hA : mAd F0 F) (hr : mBb r) (q : mQ F0 Q (if w = 0 ∨ r.1 = -1 then r.1 else if w = 1 then r.2.1 else r.2.2)) : xW X d 209 211 [.ref 131, vi k, vi w, vi r.1, vi r.2.1, vi r.2.2, vi u6, v7, v8] [] F (xqi Q) := by
  unfold mBb at hr
  refine s209_211 hP ⟨8, hd, p207 (by omega) F0 hP hT hA fun G hG kb e s => ⟨⟨by omega, by omega⟩, fun c _ => ?_, fun c => ⟨⟨by omega, by omega⟩, fun c1 => ⟨⟨by omega, by omega⟩, fun c2 _ => ?_, fun c2 _ => ?_⟩, fun c1 _ => ?_⟩⟩⟩
  · rw [if_pos (Or.inl c)] at q; exact q G hG kb e s
  · rw [if_neg (by omega), if_neg c2] at q; exact q G hG kb e s
  · rw [if_neg (by omega), if_pos (by omega)] at q; exact q G hG kb e s
  · rw [if_pos (by omega)] at q; exact q G hG kb e s
theorem mBst_3 {X : List Int32} {d z pc : Nat} {cur : Int × Int × Int} {e a b : Int} {P : Int × Int × Int → Prop} (h1 : e = -1 → P cur) (h2 : ¬ e = -1 → cur.1 = -1 → P (e, a, b)) (h3 : ¬ e = -1 → ¬ cur.1 = -1 → e < cur.1 → P (e, a, b)) (h4 : ¬ e = -1 → ¬ cur.1 = -1 → ¬ e < cur.1 → P cur) : P (mBst cur e a b) := by
  unfold mBst
  by_cases q1 : e = -1
  · rw [if_pos (Or.inl q1)]; exact h1 q1
  · by_cases q2 : cur.1 = -1
    · rw [if_neg (by omega)]; exact h2 q1 q2
    · by_cases q3 : e < cur.1
      · rw [if_neg (by omega)]; exact h3 q1 q2 q3
      · rw [if_pos (by omega)]; exact h4 q1 q2 q3
/-- the inner loop of two splits -/
theorem l209i {one : Int} (hd : 9 < d) (hT : mT (F0 132)) (ho : 0 ≤ one ∧ one < 30) (r : Int × Int × Int) (q : ∀ G v8, xPT G → mAd F0 G → (∀ i, ¬ (108 ≤ i ∧ i < 138) → G 132 i = F0 132 i) → ∀ u7, xW X d 209 125 [.ref 131, vi k, vi w, vi r.1, vi r.2.1, vi r.2.2, vi (one + 1), vi u7, v8] [] G (xqi Q)) (cur : Int × Int × Int) (hcur : mBb cur) : ∀ (n j : Nat) (F : XF) (v8 : Value), xPT F → j + n = (F0 132 5 - 2 - one).toNat → mAd F0 F → (∀ i, ¬ (108 ≤ i ∧ i < 138) → F 132 i = F0 132 i) → mB2i (F0 132) one cur (F0 132 5 - 2 - one).toNat = r → xW X d 209 147 [.ref 131, vi k, vi w, vi (mB2i (F0 132) one cur j).1, vi (mB2i (F0 132) one cur j).2.1, vi (mB2i (F0 132) one cur j).2.2, vi one, vi (one + 1 + j), v8] [] F (xqi Q) := by
  have h5 := hT.2.2.2.2.2.1
  intro n
  induction n with
  | zero =>
    intro j F v8 hP hj hA hF hr
    have e5 := hF 5 (by omega)
    refine s209_147 hP ⟨9, hd, p154 hP ⟨⟨by omega, by omega⟩, by rw [e5]; constructor <;> omega, fun c _ => ?_, fun c => absurd (by rw [e5]; omega) c⟩⟩
    rw [show j = (F0 132 5 - 2 - one).toNat by omega, hr]
    exact q F v8 hP hA hF _
  | succ n ih =>
    intro j F v8 hP hj hA hF hr
    have e5 := hF 5 (by omega)
    have cb := mB2i_b (T := F0 132) (one := one) hcur j
    unfold mBb at cb
    have eb := mEnd_b (T := mSp (F0 132) one (one + 1 + j))
    refine s209_147 hP ⟨9, hd, p154 hP ⟨⟨by omega, by omega⟩, by rw [e5]; constructor <;> omega, fun c => absurd c (by rw [e5]; omega), fun _ => ⟨9, hd, p208 (by omega) F0 hP hT ⟨by omega, by omega⟩ ⟨by omega, by omega⟩ hA hF fun G hG aG e1 _ => ?_⟩⟩⟩
    have hF' : ∀ i, ¬ (108 ≤ i ∧ i < 138) → G 132 i = F0 132 i := fun i h => by rw [e1, mSp_o h]
    have go : ∀ v, xW X d 209 147 [.ref 131, vi k, vi w, vi (mB2i (F0 132) one cur (j + 1)).1, vi (mB2i (F0 132) one cur (j + 1)).2.1, vi (mB2i (F0 132) one cur (j + 1)).2.2, vi one, vi (one + 1 + j + 1), v] [] G (xqi Q) := fun v => by
      have := ih (j + 1) G v hG (by omega) aG hF' hr
      rw [show one + 1 + ((j + 1 : Nat) : Int) = one + 1 + j + 1 by omega] at this
      exact this
    have step : mB2i (F0 132) one cur (j + 1) = mBst (mB2i (F0 132) one cur j) (mEnd (mSp (F0 132) one (one + 1 + j))) one (one + 1 + j) := rfl
    rw [step] at go
    unfold mBst at go
    have take : ¬ (mEnd (mSp (F0 132) one (one + 1 + j)) = -1 ∨ (¬ (mB2i (F0 132) one cur j).1 = -1 ∧ (mB2i (F0 132) one cur j).1 ≤ mEnd (mSp (F0 132) one (one + 1 + j)))) → xW X d 209 188 [.ref 131, vi k, vi w, vi (mB2i (F0 132) one cur j).1, vi (mB2i (F0 132) one cur j).2.1, vi (mB2i (F0 132) one cur j).2.2, vi one, vi (one + 1 + j), vi (mEnd (mSp (F0 132) one (one + 1 + j)))] [] G (xqi Q) := fun hq => by
      refine s209_188 hG fun _ => ?_
      have := go (vi (mEnd (mSp (F0 132) one (one + 1 + j))))
      rw [if_neg hq] at this
      exact this
    refine ⟨⟨by omega, by omega⟩, fun c _ => ?_, fun c => ⟨⟨by omega, by omega⟩, fun c1 _ => take (by omega), fun c1 => ⟨⟨by omega, by omega⟩, ⟨by omega, by omega⟩, fun c2 _ => take (by omega), fun c2 _ => ?_⟩⟩⟩
    · rw [if_pos (Or.inl c)] at go; exact go _
    · rw [if_pos (Or.inr ⟨c1, by omega⟩)] at go; exact go _
/-- the outer loop of two splits -/
theorem l209o (hd : 9 < d) (hT : mT (F0 132)) (h1 : 1 ≤ F0 132 5) (hk : k = 2) (hw : 0 ≤ w ∧ w ≤ 2) (q : mQ F0 Q (if w = 0 ∨ (mB2 (F0 132) (F0 132 5 - 1).toNat).1 = -1 then (mB2 (F0 132) (F0 132 5 - 1).toNat).1 else if w = 1 then (mB2 (F0 132) (F0 132 5 - 1).toNat).2.1 else (mB2 (F0 132) (F0 132 5 - 1).toNat).2.2)) : ∀ (n j : Nat) (F : XF) (v7 v8 : Value), xPT F → (j : Int) + n = F0 132 5 - 1 → mAd F0 F → (∀ i, ¬ (108 ≤ i ∧ i < 138) → F 132 i = F0 132 i) → xW X d 209 125 [.ref 131, vi k, vi w, vi (mB2 (F0 132) j).1, vi (mB2 (F0 132) j).2.1, vi (mB2 (F0 132) j).2.2, vi j, v7, v8] [] F (xqi Q) := by
  have h5 := hT.2.2.2.2.2.1
  intro n
  induction n with
  | zero =>
    intro j F v7 v8 hP hj hA hF
    have e5 := hF 5 (by omega)
    rw [show (F0 132 5 - 1).toNat = j by omega] at q
    refine s209_125 hP ⟨⟨by omega, by omega⟩, fun c => absurd c (by omega), fun _ => ⟨9, hd, p154 hP ⟨⟨by omega, by omega⟩, by rw [e5]; constructor <;> omega, fun c _ => c209 F0 hP (by omega) hT hw hA (mB2_b j) q, fun c => absurd (by rw [e5]; omega) c⟩⟩⟩
  | succ n ih =>
    intro j F v7 v8 hP hj hA hF
    have e5 := hF 5 (by omega)
    refine s209_125 hP ⟨⟨by omega, by omega⟩, fun c => absurd c (by omega), fun _ => ⟨9, hd, p154 hP ⟨⟨by omega, by omega⟩, by rw [e5]; constructor <;> omega, fun c => absurd c (by rw [e5]; omega), fun _ _ => ?_⟩⟩⟩
    have := l209i (X := X) (k := k) (w := w) (Q := Q) F0 (one := j) hd hT (by omega) (mB2 (F0 132) (j + 1)) (fun G v8 hG aG fG u7 => by
      have := ih (j + 1) G (vi u7) v8 hG (by omega) aG fG
      rw [show ((j + 1 : Nat) : Int) = (j : Int) + 1 by omega] at this
      exact this) (mB2 (F0 132) j) (mB2_b j) (F0 132 5 - 2 - j).toNat 0 F v8 hP (by omega) hA hF rfl
    rw [show (j : Int) + 1 + ((0 : Nat) : Int) = j + 1 by omega] at this
    exact this
/-- the loop of one split -/
theorem l209a (hd : 9 < d) (hT : mT (F0 132)) (h1 : 1 ≤ F0 132 5) (hk : 1 ≤ k ∧ k ≤ 2) (hw : 0 ≤ w ∧ w ≤ 2) (q : mQ F0 Q (if w = 0 ∨ (mBt (F0 132) k).1 = -1 then (mBt (F0 132) k).1 else if w = 1 then (mBt (F0 132) k).2.1 else (mBt (F0 132) k).2.2)) : ∀ (n j : Nat) (F : XF) (v7 v8 : Value), xPT F → (j : Int) + n = F0 132 5 - 1 → mAd F0 F → (∀ i, ¬ (108 ≤ i ∧ i < 138) → F 132 i = F0 132 i) → xW X d 209 65 [.ref 131, vi k, vi w, vi (mB1 (F0 132) j).1, vi (mB1 (F0 132) j).2.1, vi (mB1 (F0 132) j).2.2, vi j, v7, v8] [] F (xqi Q) := by
  have h5 := hT.2.2.2.2.2.1
  intro n
  induction n with
  | zero =>
    intro j F v7 v8 hP hj hA hF
    have e5 := hF 5 (by omega)
    refine s209_65 hP ⟨⟨by omega, by omega⟩, fun c => absurd c (by omega), fun _ => ⟨9, hd, p154 hP ⟨⟨by omega, by omega⟩, by rw [e5]; constructor <;> omega, fun c _ => ?_, fun c => absurd (by rw [e5]; omega) c⟩⟩⟩
    by_cases k1 : k = 1
    · have eb : mBt (F0 132) k = mB1 (F0 132) j := by unfold mBt; rw [if_neg (by omega), if_pos k1, show (F0 132 5 - 1).toNat = j by omega]
      rw [eb] at q
      exact s209_125 hP ⟨⟨by omega, by omega⟩, fun c _ => c209 F0 hP (by omega) hT hw hA (mB1_b j) q, fun c => absurd (by omega) c⟩
    · have eb : mBt (F0 132) k = mB2 (F0 132) (F0 132 5 - 1).toNat := by unfold mBt; rw [if_neg (by omega), if_neg k1]
      rw [eb] at q
      have := l209o (X := X) F0 hd hT h1 (show k = 2 by omega) hw q (F0 132 5 - 1).toNat 0 F v7 v8 hP (by omega) hA hF
      have e : mB2 (F0 132) 0 = mB1 (F0 132) j := by
        show mB1 (F0 132) (F0 132 5 - 1).toNat = _
        rw [show (F0 132 5 - 1).toNat = j by omega]
      rw [e] at this
      exact this
  | succ n ih =>
    intro j F v7 v8 hP hj hA hF
    have e5 := hF 5 (by omega)
    have cb := mB1_b (T := F0 132) j
    unfold mBb at cb
    have eb := mEnd_b (T := mSp (F0 132) j (-1))
    refine s209_65 hP ⟨⟨by omega, by omega⟩, fun c => absurd c (by omega), fun _ => ⟨9, hd, p154 hP ⟨⟨by omega, by omega⟩, by rw [e5]; constructor <;> omega, fun c => absurd c (by rw [e5]; omega), fun _ => ⟨9, hd, p208 (by omega) F0 hP hT ⟨by omega, by omega⟩ ⟨by omega, by omega⟩ hA hF fun G hG aG e1 _ => ?_⟩⟩⟩⟩
    have hF' : ∀ i, ¬ (108 ≤ i ∧ i < 138) → G 132 i = F0 132 i := fun i h => by rw [e1, mSp_o h]
    have go : ∀ v7 v8, xW X d 209 65 [.ref 131, vi k, vi w, vi (mB1 (F0 132) (j + 1)).1, vi (mB1 (F0 132) (j + 1)).2.1, vi (mB1 (F0 132) (j + 1)).2.2, vi ((j : Int) + 1), v7, v8] [] G (xqi Q) := fun v7 v8 => ih (j + 1) G v7 v8 hG (by omega) aG hF'
    have step : mB1 (F0 132) (j + 1) = mBst (mB1 (F0 132) j) (mEnd (mSp (F0 132) j (-1))) j (mB1 (F0 132) j).2.2 := rfl
    rw [step] at go
    unfold mBst at go
    refine ⟨⟨by omega, by omega⟩, fun c _ => ?_, fun c => ⟨⟨by omega, by omega⟩, fun c1 _ => ?_, fun c1 => ⟨⟨by omega, by omega⟩, ⟨by omega, by omega⟩, fun c2 _ => ?_, fun c2 _ => ?_⟩⟩⟩
    · rw [if_pos (Or.inl c)] at go; exact go _ _
    · rw [if_neg (by omega)] at go; exact go _ _
    · rw [if_neg (by omega)] at go; exact go _ _
    · rw [if_pos (Or.inr ⟨c1, by omega⟩)] at go; exact go _ _
end BEST
theorem p209 {k w : Int} {Q : Int → XF → Prop} (hP : xPT F) (hd : 10 < d) (hT : mT (F 132)) (hS : mSA (F 132 5).toNat F) (hk : inR k) (hw : inR w) (q : mQ F Q (aBest (F 132) k w)) : xMI X d 209 [.ref 131, vi k, vi w] F Q := by
  have h5 := hT.2.2.2.2.2.1
  unfold aBest at q
  refine m209 hP ⟨9, by omega, p154 (h0P hP) ?_⟩
  rw [h0t]
  refine ⟨⟨by omega, by omega⟩, fun c => ?_, fun c hG => by rw [if_pos (by omega)] at q; exact q.z hS hG⟩
  rw [if_neg c] at q
  refine ⟨hk, 9, by omega, p132 (h0P hP) ⟨⟨by omega, by omega⟩, ⟨by omega, by omega⟩, ⟨by omega, by omega⟩⟩ fun y hy => ⟨hy.r, fun c1 => ?_, fun c1 hG => by rw [if_neg (hy.f (by omega))] at q; exact q.z hS hG⟩⟩
  have g := hy.t c1
  rw [if_pos g] at q
  refine ⟨hw, 9, by omega, p132 (h0P hP) ⟨⟨by omega, by omega⟩, ⟨by omega, by omega⟩, ⟨by omega, by omega⟩⟩ fun y2 hy2 => ⟨hy2.r, fun c2 => ?_, fun c2 hG => by rw [if_neg (hy2.f (by omega))] at q; exact q.z hS hG⟩⟩
  have g2 := hy2.t c2
  rw [if_pos g2] at q
  refine ⟨9, by omega, p206 F (h0P hP) (mKb.refl.up (by omega)) h0t fun G hG aG eG => ⟨9, by omega, p208 (T := F 132) (by omega) F hG hT ⟨by omega, by omega⟩ ⟨by omega, by omega⟩ aG (fun i _ => by rw [eG]) fun H hH aH eH _ _ => ?_⟩⟩
  have hF' : ∀ i, ¬ (108 ≤ i ∧ i < 138) → H 132 i = F 132 i := fun i h => by rw [eH, mSp_o h]
  by_cases k0 : k = 0
  · have e : mBt (F 132) k = mB1 (F 132) 0 := by unfold mBt; rw [if_pos k0]
    rw [e] at q
    exact s209_65 hH ⟨hk, fun _ _ => s209_125 hH ⟨hk, fun _ _ => c209 (r := mB1 (F 132) 0) F hH (by omega) hT g2 aH (mB1_b 0) q, fun c => absurd (by omega) c⟩, fun c => absurd (by omega) c⟩
  · exact l209a F (by omega) hT (by omega) (by omega) g2 q (F 132 5 - 1).toNat 0 H _ _ hH (by omega) aH hF'
end REF19
