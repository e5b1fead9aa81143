section CL13
variable {X : List Int32} {d : Nat} {F : XF}
variable {T : Int → Int} {t : Nat}
theorem mEnd_1 (hT : mT T) (h5 : 0 < T 5) : ¬ mEnd T = 0 := by
  intro h
  have e0 : mRun T 0 131 = 0 := by
    show mBeg T 131 = 0
    have := hT.2.2.2.2.2.1
    unfold mBeg mBg
    rw [if_neg (by omega), if_neg (by omega)]
  unfold mEnd at h
  by_cases z : mRun T (mLast T) 131 = T 5
  · rw [if_pos z] at h
    rw [show mLast T = 0 by omega, e0] at z
    omega
  · rw [if_neg z] at h
    omega
/-- the best of k splits is under way: so far it is cur -/
def cB (F : XF) (T : Int → Int) (k : Int) (cur : Int × Int × Int) : Prop := F 104 1 = k ∧ (∀ j, 0 ≤ j → j < k → F 122 j = (mBt T j).1 ∧ F 123 j = (mBt T j).2.1 ∧ F 124 j = (mBt T j).2.2) ∧ (F 122 k = cur.1 ∧ F 123 k = cur.2.1 ∧ F 124 k = cur.2.2) ∧ (∀ i, 0 ≤ i → i ≤ 60 → F 125 i = -2 ∨ F 125 i = mWv (mSet T 3 i)) ∧ (∀ i, 0 ≤ i → i ≤ 60 → F 126 i = -2 ∨ F 126 i = mV (mSm (mSet T 3 i))) ∧ (∀ v, 1 ≤ v → v ≤ 50 → F 127 v = -2 ∨ F 127 v = mEnd (mSet T 1 v))
theorem cB.of {G : XF} {k : Int} {cur : Int × Int × Int} (h : cB F T k cur) (e1 : G 104 1 = F 104 1) (e : ∀ p i, (122 ≤ p ∧ p ≤ 127) → G p i = F p i) : cB G T k cur := by
  obtain ⟨a, b, b', c, f, g⟩ := h
  refine ⟨by rw [e1]; exact a, fun k p q => ?_, ?_, fun i p q => by rw [e _ _ (by omega)]; exact c i p q, fun i p q => by rw [e _ _ (by omega)]; exact f i p q, fun i p q => by rw [e _ _ (by omega)]; exact g i p q⟩
  · rw [e _ _ (by omega), e _ _ (by omega), e _ _ (by omega)]
    exact b k p q
  · rw [e _ _ (by omega), e _ _ (by omega), e _ _ (by omega)]
    exact b'
theorem cB.tr {k : Int} {cur : Int × Int × Int} (h : cB F T k cur) (hk : 0 ≤ k ∧ k ≤ 2) (e : cur = mBt T k) : cTr F T := by
  obtain ⟨a, b, b', c, f, g⟩ := h
  refine ⟨by omega, fun j p q => ?_, c, f, g⟩
  by_cases z : j = k
  · rw [z, ← e]; exact b'
  · exact b j p (by omega)
def mCu (cur : Int × Int × Int) : Prop := cur.1 = -1 ∨ (1 ≤ cur.1 ∧ cur.1 ≤ 2000)
theorem k83 {many : Int} {Q : XF → Prop} (hP : xPT F) (hm : 0 ≤ many ∧ many ≤ 2) (h : cTr F T) (hk : F 104 1 = many - 1) (q : ∀ G, xPT G → (∀ p i, ¬ (p = 104 ∧ i = 1) → ¬ (122 ≤ p ∧ p ≤ 124) → G p i = F p i) → cB G T many (if many = 0 then (-1, -1, -1) else ((mBt T (many - 1)).1, (mBt T (many - 1)).2.1, -1)) → Q G) : xMV X d 83 [.ref 104, vi many] F Q := by
  obtain ⟨a, b, c, f, g⟩ := h
  have fin : ∀ (u v : Int) (cur : Int × Int × Int), cur = (u, v, -1) → (∀ i, 0 ≤ i → True) → xPT (xup (xup (xup (xup F 122 many u) 123 many v) 124 many (-1)) 104 1 many) → cur = (if many = 0 then (-1, -1, -1) else ((mBt T (many - 1)).1, (mBt T (many - 1)).2.1, -1)) → Q (xup (xup (xup (xup F 122 many u) 123 many v) 124 many (-1)) 104 1 many) := fun u v cur ec _ hG e => by
    rw [← e, ec] at q
    refine q _ hG (fun p i x y => by rw [xup_n (by omega), xup_o (by omega), xup_o (by omega), xup_o (by omega)]) ⟨xup_s, fun j x y => ?_, ⟨?_, ?_, ?_⟩, fun i x y => ?_, fun i x y => ?_, fun i x y => ?_⟩
    · rw [xup_o (by decide), xup_o (by decide), xup_o (by decide), xup_i (by omega), xup_o (by decide), xup_o (by decide), xup_i (by omega), xup_o (by decide), xup_o (by decide), xup_i (by omega), xup_o (by decide), xup_o (by decide)]
      exact b j x (by omega)
    · rw [xup_o (by decide), xup_o (by decide), xup_o (by decide), xup_s]
    · rw [xup_o (by decide), xup_o (by decide), xup_s]
    · rw [xup_o (by decide), xup_s]
    · rw [xup_o (by decide), xup_o (by decide), xup_o (by decide), xup_o (by decide)]; exact c i x y
    · rw [xup_o (by decide), xup_o (by decide), xup_o (by decide), xup_o (by decide)]; exact f i x y
    · rw [xup_o (by decide), xup_o (by decide), xup_o (by decide), xup_o (by decide)]; exact g i x y
  refine m83 hP ⟨⟨by omega, by omega⟩, fun z => ⟨by omega, by omega, by omega, fun hG => fin _ _ (-1, -1, -1) rfl (fun _ _ => trivial) hG (by rw [if_pos (by omega)])⟩, fun z => ⟨by omega, by omega, by omega, by omega, by omega, fun hG => fin _ _ _ rfl (fun _ _ => trivial) hG ?_⟩⟩
  have := b (many - 1) (by omega) (by omega)
  rw [if_neg (by omega), this.1, this.2.1]
theorem k85 {k e one two : Int} {cur : Int × Int × Int} {Q : XF → Prop} (hP : xPT F) (hk : 0 ≤ k ∧ k ≤ 2) (he : inR e) (h : cB F T k cur) (q : ∀ G, xPT G → (∀ p i, ¬ (122 ≤ p ∧ p ≤ 124) → G p i = F p i) → cB G T k (if e = -1 then cur else (e, one, two)) → Q G) : xMV X d 85 [.ref 104, vi e, vi one, vi two] F Q := by
  have h' := h
  obtain ⟨a, b, b', c, f, g⟩ := h'
  refine m85 hP ⟨he, fun z _ => q F hP (fun _ _ _ => rfl) (by rw [if_pos z]; exact h), fun z => ?_⟩
  rw [a]
  refine ⟨by omega, by omega, by omega, fun hG => q _ hG (fun p i x => by rw [xup_o (by omega), xup_o (by omega), xup_o (by omega)]) ?_⟩
  rw [if_neg z]
  refine ⟨by rw [xup_o (by decide), xup_o (by decide), xup_o (by decide)]; exact a, fun j x y => ?_, ⟨?_, ?_, ?_⟩, fun i x y => ?_, fun i x y => ?_, fun i x y => ?_⟩
  · rw [xup_o (by decide), xup_o (by decide), xup_i (by omega), xup_o (by decide), xup_i (by omega), xup_o (by decide), xup_i (by omega), xup_o (by decide), xup_o (by decide)]
    exact b j x (by omega)
  · rw [xup_o (by decide), xup_o (by decide), xup_s]
  · rw [xup_o (by decide), xup_s]
  · rw [xup_s]
  · rw [xup_o (by decide), xup_o (by decide), xup_o (by decide)]; exact c i x y
  · rw [xup_o (by decide), xup_o (by decide), xup_o (by decide)]; exact f i x y
  · rw [xup_o (by decide), xup_o (by decide), xup_o (by decide)]; exact g i x y
/-- what stays as plans are tried -/
def cPl (F : XF) (T T0 : Int → Int) : Prop := cTw F 105 T0 ∧ mT T0 ∧ ∀ i, ¬ (108 ≤ i ∧ i < 138) → T0 i = T i
theorem kTry {k v one two : Int} {T0 : Int → Int} {cur : Int × Int × Int} {Q : XF → Prop} (hP : xPT F) (hd : 6 < d) (hT : mT T) (h5 : 0 < T 5) (hk : 0 ≤ k ∧ k ≤ 2) (h : cB F T k cur) (hcu : mCu cur) (hpl : cPl F T T0) (hb : ∀ c : Nat, c < 30 → (mbit v c = true ↔ ((c : Int) = one ∨ (c : Int) = two))) (q : ∀ G, xPT G → cA F G → cB G T k (mBst cur (mEnd (mSp T one two)) one two) → mCu (mBst cur (mEnd (mSp T one two)) one two) → cPl G T (mSp T one two) → Q G) : ∃ j1, j1 < d ∧ xMI X j1 84 [.ref 104] (xup F 105 8 v) (fun y1 G1 => ∃ j2, j2 < d ∧ xMI X j2 57 [.ref 70, .ref 105, vi y1] G1 (fun y2 G2 => ∃ j3, j3 < d ∧ xMV X j3 85 [.ref 104, vi y2, vi one, vi two] G2 (fun G3 => xPT G3 → Q G3))) := by
  have hTs : mT (mSp T one two) := mT_sp hT
  have ws := hpl.1.sp (T := T) (v := v) (one := one) (two := two) hpl.2.1 hpl.2.2 hb
  have hP2 : xPT (xup F 105 8 v) := xPT_fld (k := 8) hP o105 (by decide) (by decide)
  have s5 : mSp T one two 5 = T 5 := mSp_o (by omega)
  have eb := mEnd_b (T := mSp T one two)
  have e1 := mEnd_1 hTs (by omega)
  have hB2 : cB (xup F 105 8 v) T k cur := h.of (xup_o (by decide)) fun p i z => xup_o (by omega)
  have go : ∀ lim : Int, (0 ≤ lim ∧ lim ≤ 2000) → lim = (if cur.1 = -1 then 2000 else cur.1 - 1) → ∃ j2, j2 < d ∧ xMI X j2 57 [.ref 70, .ref 105, vi lim] (xup F 105 8 v) (fun y2 G2 => ∃ j3, j3 < d ∧ xMV X j3 85 [.ref 104, vi y2, vi one, vi two] G2 (fun G3 => xPT G3 → Q G3)) := fun lim hl el => by
    refine ⟨6, hd, k57 hP2 (by omega) o70 rfl o105 hTs (by omega) ws hl fun K hK kK => ⟨6, hd, ?_⟩⟩
    have elb : mEl (mSp T one two) lim = -1 ∨ mEl (mSp T one two) lim = mEnd (mSp T one two) := by
      unfold mEl
      split
      · exact Or.inr rfl
      · exact Or.inl rfl
    refine k85 (cur := cur) (k := k) hK hk (by rcases elb with z | z <;> rw [z] <;> constructor <;> omega) (hB2.of (kK 104 1 (by omega)) fun p i z => kK p i (by omega)) fun H hH kH bH _ => ?_
    have key : (if mEl (mSp T one two) lim = -1 then cur else (mEl (mSp T one two) lim, one, two)) = mBst cur (mEnd (mSp T one two)) one two := by
      unfold mBst
      by_cases z : mEnd (mSp T one two) = -1 ∨ (¬ cur.1 = -1 ∧ cur.1 ≤ mEnd (mSp T one two))
      · rw [if_pos z, if_pos]
        unfold mEl
        rcases z with z | z
        · rw [z]; split <;> rfl
        · rw [if_neg z.1] at el
          rw [if_neg (by omega)]
      · have : mEl (mSp T one two) lim = mEnd (mSp T one two) := by
          unfold mEl
          rw [if_pos]
          by_cases y : cur.1 = -1
          · rw [if_pos y] at el; omega
          · rw [if_neg y] at el
            apply Classical.byContradiction
            intro w
            exact z (Or.inr ⟨y, by omega⟩)
        rw [if_neg z, this, if_neg (fun w => z (Or.inl w))]
    rw [key] at bH
    refine q H hH (fun p i a b => by rw [kH p i (by omega), kK p i (by omega), xup_o (by omega)]) bH ?_ ⟨(kK.tw hTs ws (by omega)).of hTs fun p i z => kH p i (by omega), hTs, fun i z => mSp_o z⟩
    unfold mBst mCu at *
    split
    · exact hcu
    · dsimp only
      omega
  obtain ⟨a, b, b', c, f, g⟩ := hB2
  refine ⟨6, hd, m84 hP2 ?_⟩
  rw [a, b'.1]
  unfold mCu at hcu
  refine ⟨by omega, ⟨by omega, by omega⟩, fun z => ⟨by omega, fun _ => go _ (by omega) (by rw [if_neg z])⟩, fun z _ => go 2000 (by omega) (by rw [if_pos (by omega)])⟩
theorem mB1_2 : ∀ k : Nat, (mB1 T k).2.2 = -1
  | 0 => rfl
  | k + 1 => by
    unfold mB1 mBst
    split
    · exact mB1_2 k
    · exact mB1_2 k
section BEST
variable {Q : XF → Prop}
theorem k82 {k : Int} (hP : xPT F) (hd : 6 < d) (ht : xob 9 t) (h7 : t + 17 ≤ 70) (hT : mT T) (h5 : 0 < T 5) (hw : cTw F t T) (hR : cTr F T) (hk : 0 ≤ k ∧ k ≤ 2) (q : ∀ G, xPT G → cA F G → cTr G T → k ≤ G 104 1 → Q G) : xMV X d 82 [.ref 104, .ref t, .ref 70, vi k] F Q := by
  have h30 := hT.2.2.2.2.2.1
  have cu0 : ∀ T', mT T' → T' 5 = T 5 → ∀ a b, mCu (mEnd T', a, b) := fun T' hT' e5 a b => by
    have := mEnd_b (T := T')
    have := mEnd_1 hT' (by omega)
    unfold mCu
    dsimp only
    omega
  have cu1 : ∀ n : Nat, mCu (mB1 T n) := by
    intro n
    induction n with
    | zero => exact cu0 (mSp T (-1) (-1)) (mT_sp hT) (mSp_o (by omega)) _ _
    | succ n ih =>
      have := cu0 (mSp T n (-1)) (mT_sp hT) (mSp_o (by omega)) 0 0
      unfold mB1 mBst
      unfold mCu at *
      split
      · exact ih
      · exact this
  have e5 : ∀ (G : XF) (T0 : Int → Int), cPl G T T0 → G 105 6 = T 5 := fun G T0 h => by rw [h.1.1.2.2.2.2.2.1]; exact h.2.2 5 (by omega)
  -- two splits, inner
  have c157 : ∀ (one : Nat) (w : (G : XF) → (T0 : Int → Int) → (two : Int) → xPT G → cA F G → cB G T 2 (mB2 T (one + 1)) → mCu (mB2 T (one + 1)) → cPl G T T0 → xW X d 82 137 [.ref 104, .ref t, .ref 70, vi k, vi ((one : Int) + 1), vi two] [] G (xqv Q)), (one : Int) < T 5 - 1 → ∀ (f j : Nat) (G : XF) (T0 : Int → Int), xPT G → cA F G → cB G T 2 (mB2i T one (mB2 T one) j) → mCu (mB2i T one (mB2 T one) j) → cPl G T T0 → (one : Int) + 1 + j + f = T 5 - 1 → xW X d 82 157 [.ref 104, .ref t, .ref 70, vi k, vi (one : Int), vi ((one : Int) + 1 + j)] [] G (xqv Q) := by
    intro one w ho f
    induction f with
    | zero =>
      intro j G T0 hG hA hB hC hp hj
      have e := e5 G T0 hp
      refine s82_157 hG ht o70 ⟨⟨by omega, by omega⟩, by rw [e]; constructor <;> omega, fun _ _ => ?_, fun z => absurd (by rw [e]; omega) z⟩
      have : mB2 T (one + 1) = mB2i T one (mB2 T one) j := by
        show mB2i T one (mB2 T one) (T 5 - 2 - one).toNat = _
        rw [show (T 5 - 2 - (one : Int)).toNat = j by omega]
      exact w G T0 _ hG hA (by rw [this]; exact hB) (by rw [this]; exact hC) hp
    | succ f ih =>
      intro j G T0 hG hA hB hC hp hj
      have e := e5 G T0 hp
      refine s82_157 hG ht o70 ⟨⟨by omega, by omega⟩, by rw [e]; constructor <;> omega, fun z => absurd z (by rw [e]; omega), fun _ => ?_⟩
      refine kTry (T := T) (T0 := T0) (cur := mB2i T one (mB2 T one) j) hG hd hT h5 (by omega) hB hC hp (fun c hc => ?_) fun H hH kH bH cH pH => ?_
      · rw [mbit_or, mbit_shl' (by omega) (by omega) (by omega), mbit_shl' (by omega) (by omega) (by omega)]
        by_cases y1 : (c : Int) = one
        · rw [decide_eq_true y1]; exact ⟨fun _ => Or.inl y1, fun _ => rfl⟩
        · rw [decide_eq_false y1, Bool.false_or, decide_eq_true_iff]
          exact ⟨fun z => Or.inr z, fun z => by rcases z with z | z; exact absurd z y1; exact z⟩
      · have := ih (j + 1) H _ hH (hA.trans kH) bH cH pH (by omega)
        rw [show (one : Int) + 1 + ((j + 1 : Nat) : Int) = (one : Int) + 1 + (j : Int) + 1 by omega] at this
        exact this
  have c137 : ∀ (f one : Nat) (G : XF) (T0 : Int → Int) (w5 : Value), xPT G → cA F G → cB G T 2 (mB2 T one) → mCu (mB2 T one) → cPl G T T0 → (one : Int) + f = T 5 - 1 → xW X d 82 137 [.ref 104, .ref t, .ref 70, vi k, vi (one : Int), w5] [] G (xqv Q) := by
    intro f
    induction f with
    | zero =>
      intro one G T0 w5 hG hA hB hC hp hj
      have e := e5 G T0 hp
      refine s82_137 hG ht o70 ⟨⟨by omega, by omega⟩, by rw [e]; constructor <;> omega, fun _ _ => q G hG hA (hB.tr (by omega) ?_) (by rw [hB.1]; omega), fun z => absurd (by rw [e]; omega) z⟩
      unfold mBt
      rw [if_neg (by omega), if_neg (by omega), show (T 5 - 1).toNat = one by omega]
    | succ f ih =>
      intro one G T0 w5 hG hA hB hC hp hj
      have e := e5 G T0 hp
      refine s82_137 hG ht o70 ⟨⟨by omega, by omega⟩, by rw [e]; constructor <;> omega, fun z => absurd z (by rw [e]; omega), fun _ _ => ?_⟩
      have := c157 one (fun H T1 two hH hA' hB' hC' hp' => ih (one + 1) H T1 (vi two) hH hA' hB' hC' hp' (by omega)) (by omega) (f + 1 - 1) 0 G T0 hG hA hB hC hp (by omega)
      rw [show (one : Int) + 1 + ((0 : Nat) : Int) = (one : Int) + 1 by omega] at this
      exact this
  have c116 : ∀ (G : XF) (T0 : Int → Int) (w4 w5 : Value), xPT G → cA F G → cTr G T → cPl G T T0 → (1 ≤ k → 1 ≤ G 104 1) → 0 ≤ G 104 1 → xW X d 82 116 [.ref 104, .ref t, .ref 70, vi k, w4, w5] [] G (xqv Q) := by
    intro G T0 w4 w5 hG hA hR hp h1 h0
    have b := hR.1
    refine s82_116 hG ht o70 ⟨⟨by omega, by omega⟩, fun z _ => q G hG hA hR (by omega), fun z => ⟨⟨by omega, by omega⟩, fun z1 _ => q G hG hA hR (by omega), fun z1 => ⟨6, hd, k83 hG (by omega) hR (by omega) fun H hH kH bH _ => ?_⟩⟩⟩
    rw [if_neg (by omega)] at bH
    have e : ((mBt T (2 - 1)).1, (mBt T (2 - 1)).2.1, -1) = mB2 T 0 := by
      show _ = mB1 T (T 5 - 1).toNat
      unfold mBt
      rw [if_neg (by omega), if_pos (by omega), ← mB1_2 (T := T) (T 5 - 1).toNat]
    rw [e] at bH
    exact c137 (T 5 - 1).toNat 0 H T0 w5 hH (hA.trans fun p i a b => kH p i (by omega) (by omega)) bH (cu1 _) ⟨hp.1.of hp.2.1 fun p i z => kH p i (by omega) (by omega), hp.2⟩ (by omega)
  have c66 : ∀ (f one : Nat) (G : XF) (T0 : Int → Int) (w5 : Value), xPT G → cA F G → cB G T 1 (mB1 T one) → cPl G T T0 → (one : Int) + f = T 5 - 1 → xW X d 82 66 [.ref 104, .ref t, .ref 70, vi k, vi (one : Int), w5] [] G (xqv Q) := by
    intro f
    induction f with
    | zero =>
      intro one G T0 w5 hG hA hB hp hj
      have e := e5 G T0 hp
      refine s82_66 hG ht o70 ⟨⟨by omega, by omega⟩, by rw [e]; constructor <;> omega, fun _ _ => c116 G T0 _ _ hG hA (hB.tr (by omega) ?_) hp (fun _ => by rw [hB.1]; omega) (by rw [hB.1]; omega), fun z => absurd (by rw [e]; omega) z⟩
      unfold mBt
      rw [if_neg (by omega), if_pos rfl, show (T 5 - 1).toNat = one by omega]
    | succ f ih =>
      intro one G T0 w5 hG hA hB hp hj
      have e := e5 G T0 hp
      refine s82_66 hG ht o70 ⟨⟨by omega, by omega⟩, by rw [e]; constructor <;> omega, fun z => absurd z (by rw [e]; omega), fun _ => ?_⟩
      refine kTry (T := T) (T0 := T0) (cur := mB1 T one) hG hd hT h5 (by omega) hB (cu1 one) hp (fun c hc => ?_) fun H hH kH bH cH pH => ?_
      · rw [mbit_shl' (by omega) (by omega) (by omega), decide_eq_true_iff]
        exact ⟨fun z => Or.inl z, fun z => by rcases z with z | z; exact z; omega⟩
      · refine ih (one + 1) H _ w5 hH (hA.trans kH) ?_ pH (by omega)
        have : mB1 T (one + 1) = mBst (mB1 T one) (mEnd (mSp T one (-1))) one (-1) := by
          show mBst (mB1 T one) (mEnd (mSp T one (-1))) one (mB1 T one).2.2 = _
          rw [mB1_2]
        rw [this]
        exact bH
  have c45 : ∀ (G : XF) (T0 : Int → Int) (w4 w5 : Value), xPT G → cA F G → cTr G T → cPl G T T0 → 0 ≤ G 104 1 → xW X d 82 45 [.ref 104, .ref t, .ref 70, vi k, w4, w5] [] G (xqv Q) := by
    intro G T0 w4 w5 hG hA hR hp h0
    have b := hR.1
    refine s82_45 hG ht o70 ⟨⟨by omega, by omega⟩, fun z _ => c116 G T0 _ _ hG hA hR hp (fun _ => z) h0, fun z => ⟨⟨by omega, by omega⟩, fun z1 _ => c116 G T0 _ _ hG hA hR hp (fun _ => by omega) h0, fun z1 => ⟨6, hd, k83 hG (by omega) hR (by omega) fun H hH kH bH _ => ?_⟩⟩⟩
    rw [if_neg (by omega)] at bH
    have e : ((mBt T (1 - 1)).1, (mBt T (1 - 1)).2.1, -1) = mB1 T 0 := by
      unfold mBt
      rw [if_pos (by omega)]
      rfl
    rw [e] at bH
    exact c66 (T 5 - 1).toNat 0 H T0 w5 hH (hA.trans fun p i a b => kH p i (by omega) (by omega)) bH ⟨hp.1.of hp.2.1 fun p i z => kH p i (by omega) (by omega), hp.2⟩ (by omega)
  refine m82 hP ht o70 ⟨6, hd, k72 hP (by omega) o105 ht hT (by omega) hw fun G hG kG wG => ?_⟩
  have gR : cTr G T := hR.of (kG 104 1 (by omega)) fun p i z => kG p i (by omega)
  have gA : cA F G := fun p i a b => kG p i (by omega)
  have b := gR.1
  refine ⟨⟨by omega, by omega⟩, fun z _ => c45 G T _ _ hG gA gR ⟨wG, hT, fun _ _ => rfl⟩ z, fun z => ⟨6, hd, k83 hG (by omega) gR (by omega) fun H hH kH bH => ⟨6, hd, ?_⟩⟩⟩
  rw [if_pos rfl] at bH
  have hTs : mT (mSp T (-1) (-1)) := mT_sp hT
  have wH : cTw H 105 T := wG.of hT fun p i z => kH p i (by omega) (by omega)
  have ws := wH.sp (T := T) (v := 0) (one := -1) (two := -1) hT (fun _ _ => rfl) fun c hc => by
    rw [mbit_0]
    refine ⟨fun z => ?_, fun z => ?_⟩
    · exact absurd z (by decide)
    · omega
  have hP2 : xPT (xup H 105 8 0) := xPT_fld (k := 8) hH o105 (by decide) (by decide)
  refine k57 hP2 (by omega) o70 rfl o105 hTs (by omega) ws (by omega) fun K hK kK => ⟨6, hd, ?_⟩
  rw [mEl_2]
  have eb := mEnd_b (T := mSp T (-1) (-1))
  have bK : cB K T 0 (-1, -1, -1) := bH.of (by rw [kK 104 1 (by omega), xup_o (by decide)]) fun p i z => by rw [kK p i (by omega), xup_o (by omega)]
  refine k85 (cur := (-1, -1, -1)) (k := 0) hK (by omega) ⟨by omega, by omega⟩ bK fun L hL kL bL _ => ?_
  have e : (if mEnd (mSp T (-1) (-1)) = -1 then ((-1 : Int), (-1 : Int), (-1 : Int)) else (mEnd (mSp T (-1) (-1)), -1, -1)) = mBt T 0 := by
    unfold mBt
    rw [if_pos rfl]
    show _ = (mEnd (mSp T (-1) (-1)), -1, -1)
    by_cases z : mEnd (mSp T (-1) (-1)) = -1
    · rw [if_pos z, z]
    · rw [if_neg z]
  rw [e] at bL
  refine c45 L (mSp T (-1) (-1)) _ _ hL (fun p i a b => ?_) (bL.tr (by omega) rfl) ⟨(kK.tw hTs ws (by omega)).of hTs fun p i z => kL p i (by omega), hTs, fun i z => mSp_o z⟩ (by rw [bL.1]; omega)
  rw [kL p i (by omega), kK p i (by omega), xup_o (by omega), kH p i (by omega) (by omega)]
  exact gA p i a b
end BEST
end CL13
