section CL14
variable {X : List Int32} {d : Nat} {F : XF}
variable {T : Int → Int} {t : Nat} {Q : Int → XF → Prop}
/-- all but the run aside and the plan's own fields is as it was -/
def cA5 (F G : XF) : Prop := ∀ p i, ¬ (70 ≤ p ∧ p < 98) → ¬ p = 105 → G p i = F p i
theorem no_end (h : ∀ m : Nat, (m : Int) ≤ 2000 → ¬ mRun T m 131 = T 5) : mEnd T = -1 := by
  rw [← mEl_2]
  exact mEl_n (by omega) h
/-- waits by the end, by a start -/
theorem k87 {T0 : Int → Int} {s : Int} (hP : xPT F) (hd : 5 < d) (hT0 : mT T0) (hs : 0 ≤ s ∧ s ≤ 999) (hw : cTw F 105 T0) (e : mSet T0 3 s = T) (q : ∀ G, xPT G → cA5 F G → cTw G 105 T → Q (mWv T) G) : xMI X d 87 [.ref 104, .ref 70, vi s] F Q := by
  have hT : mT T := by rw [← e]; exact mT_set hT0 (by omega)
  have hP2 : xPT (xup F 105 3 s) := xPT_fld (k := 3) hP o105 (by decide) (by decide)
  have w := hw.v3 (v := s) hT0
  rw [e] at w
  have h4 := hT.2.2.2.2.1
  have h5 := hT.2.2.2.2.2.1
  have gA : ∀ G, cK 70 28 (xup F 105 3 s) G → cA5 F G := fun G k p i a b => by rw [k p i (by omega), xup_o b]
  have none : ∀ G, xPT G → cK 70 28 (xup F 105 3 s) G → (∀ m : Nat, (m : Int) ≤ 2000 → ¬ mRun T m 131 = T 5) → Q (-1) G := fun G hG kG h => by
    have := q G hG (gA G kG) (kG.tw hT w (by omega))
    unfold mWv at this
    rw [if_pos (no_end h)] at this
    exact this
  have fin : ∀ (G : XF) (n : Nat) (x3 : Int), xPT G → cK 70 28 (xup F 105 3 s) G → cRu G 70 105 T n → cSt G 70 T (mRun T n) → n ≤ 2000 → (∀ m, m < n → ¬ mRun T m 131 = T 5) → (¬ mRun T n 131 = T 5 → ∀ m : Nat, (m : Int) ≤ 2000 → ¬ mRun T m 131 = T 5) → xW X d 87 68 [.ref 104, .ref 70, vi s, vi x3] [] G (xqi Q) := fun G n x3 hG kG ru st hn hno hre => by
    have gw : cTw G 105 T := kG.tw hT w (by omega)
    have J := (mRun_I hT n (by omega)).1.1.2.2.1
    refine s87_68 hG o70 ?_
    rw [ru.1.2.2.2.2.1, gw.1.2.2.2.2.2.1]
    refine ⟨⟨by omega, by omega⟩, ⟨by omega, by omega⟩, fun z _ => none G hG kG (hre (by omega)), fun z => ⟨5, hd, k52 hG o70 o105 hT gw ru.1.1 st fun _ => ?_⟩⟩
    have el : mLast T = n := mLast_u hn hno (Or.inr (by omega))
    have := q G hG (gA G kG) gw
    unfold mWv mWe at this
    rw [if_neg (by unfold mEnd; rw [el, if_pos (by omega)]; omega), el] at this
    exact this
  have loop : ∀ (f n : Nat) (G : XF), xPT G → cK 70 28 (xup F 105 3 s) G → cRu G 70 105 T n → cSt G 70 T (mRun T n) → cEv G 70 (fun _ => 0) → n + f = 2000 → (∀ m, m < n → ¬ mRun T m 131 = T 5) → xW X d 87 27 [.ref 104, .ref 70, vi s, vi (n : Int)] [] G (xqi Q) := by
    intro f
    induction f with
    | zero =>
      intro n G hG kG ru st ev hn hno
      refine s87_27 hG o70 ⟨⟨by omega, by omega⟩, fun _ _ => fin G n _ hG kG ru st (by omega) hno (fun w m hm => ?_), fun z => absurd (by omega) z⟩
      by_cases y : m = n
      · rw [y]; exact w
      · exact hno m (by omega)
    | succ f ih =>
      intro n G hG kG ru st ev hn hno
      have gw : cTw G 105 T := kG.tw hT w (by omega)
      have J := (mRun_I hT n (by omega)).1.1.2.2.1
      refine s87_27 hG o70 ?_
      rw [ru.1.2.2.2.2.1, gw.1.2.2.2.2.2.1]
      refine ⟨⟨by omega, by omega⟩, fun z => absurd z (by omega), fun _ => ⟨⟨by omega, by omega⟩, ⟨by omega, by omega⟩, fun z _ => fin G n _ hG kG ru st (by omega) hno (fun w => absurd (by omega) w), fun z => ⟨5, hd, k58 hG (by omega) o70 o105 hT gw ru (by omega) (by omega) fun y hy => ⟨hy.r, fun z3 _ => fin G n _ hG kG ru st (by omega) hno (fun w m hm => ?_), fun z3 => ⟨5, hd, k53 hG (by omega) o70 o105 hT (by omega) gw ru st (by omega) ev mEn_0 fun H hH kH rH sH wH eH nH _ hH2 => ?_⟩⟩⟩⟩⟩
      · by_cases y' : m < n
        · exact hno m y'
        · exact mTl8_n hT (by omega) (hy.t z3) w (by omega) hm
      · refine ih (n + 1) H hH2 (kG.trans kH) rH sH (eH.any rfl) (by omega) fun m hm => ?_
        by_cases y' : m < n
        · exact hno m y'
        · rw [show m = n by omega]; omega
  refine m87 hP o70 ⟨5, hd, k48 hP2 (by omega) o70 o105 hT (by omega) w fun G hG kG cG wG sG g2 g4 g5 eG => ⟨5, hd, k59 hG (by omega) o70 o105 hT (kG.tw hT w (by omega)) cG fun y hy => ⟨hy.r, fun z _ => loop 2000 0 G hG kG ⟨cG, g2, Or.inl g5⟩ sG (eG.any rfl) (by omega) (fun m hm => by omega), fun z _ => none G hG kG fun m hm => mHop_n hT (hy.t z) (by omega)⟩⟩⟩
theorem mEnd_gt {n : Nat} (hn : n < 2000) (h : ∀ m, m ≤ n → ¬ mRun T m 131 = T 5) : n < mLast T := by
  apply Classical.byContradiction
  intro z
  have p := mLast_p (T := T)
  rcases p.2.2 with y | y
  · omega
  · exact h (mLast T) (by omega) y
/-- whether no crossing ever holds a car, by a start -/
theorem k90 {T0 : Int → Int} {s : Int} (hP : xPT F) (hd : 5 < d) (hT0 : mT T0) (hs : 0 ≤ s ∧ s ≤ 999) (hw : cTw F 105 T0) (e : mSet T0 3 s = T) (q : ∀ G y, xPT G → cA5 F G → cTw G 105 T → mB y (mSm T) → Q y G) : xMI X d 90 [.ref 104, .ref 70, vi s] F Q := by
  have hT : mT T := by rw [← e]; exact mT_set hT0 (by omega)
  have hP2 : xPT (xup F 105 3 s) := xPT_fld (k := 3) hP o105 (by decide) (by decide)
  have w := hw.v3 (v := s) hT0
  rw [e] at w
  have h4 := hT.2.2.2.2.1
  have h5 := hT.2.2.2.2.2.1
  have gA : ∀ G, cK 70 28 (xup F 105 3 s) G → cA5 F G := fun G k p i a b => by rw [k p i (by omega), xup_o b]
  have fin : ∀ (G : XF) (n : Nat) (x3 : Int), xPT G → cK 70 28 (xup F 105 3 s) G → cRu G 70 105 T n → n ≤ 2000 → (∀ m, m < n → ¬ mRun T m 131 = T 5) → (∀ m, 1 ≤ m → m ≤ n → ¬ mAny T (mRun T m)) → (¬ mRun T n 131 = T 5 → ∀ m : Nat, (m : Int) ≤ 2000 → ¬ mRun T m 131 = T 5) → xW X d 90 68 [.ref 104, .ref 70, vi s, vi x3] [] G (xqi Q) := fun G n x3 hG kG ru hn hno hany hre => by
    have gw : cTw G 105 T := kG.tw hT w (by omega)
    have J := (mRun_I hT n (by omega)).1.1.2.2.1
    refine s90_68 hG o70 ?_
    rw [ru.1.2.2.2.2.1, gw.1.2.2.2.2.2.1]
    refine ⟨⟨by omega, by omega⟩, ⟨by omega, by omega⟩, fun z _ => q G 0 hG (gA G kG) gw (mB.i0 fun y => y.2 (no_end (hre (by omega)))), fun z _ => q G 1 hG (gA G kG) gw (mB.i1 ?_)⟩
    have el : mLast T = n := mLast_u hn hno (Or.inr (by omega))
    refine ⟨fun m a b => hany m a (by omega), ?_⟩
    unfold mEnd
    rw [el, if_pos (by omega)]
    omega
  have loop : ∀ (f n : Nat) (G : XF), xPT G → cK 70 28 (xup F 105 3 s) G → cRu G 70 105 T n → cEv G 70 (fun _ => 0) → G 70 5 = 0 → n + f = 2000 → (∀ m, m < n → ¬ mRun T m 131 = T 5) → (∀ m, 1 ≤ m → m ≤ n → ¬ mAny T (mRun T m)) → xW X d 90 18 [.ref 104, .ref 70, vi s, vi (n : Int)] [] G (xqi Q) := by
    intro f
    induction f with
    | zero =>
      intro n G hG kG ru ev g5 hn hno hany
      refine s90_18 hG o70 ⟨⟨by omega, by omega⟩, fun _ _ => fin G n _ hG kG ru (by omega) hno hany (fun w m hm => ?_), fun z => absurd (by omega) z⟩
      by_cases y : m = n
      · rw [y]; exact w
      · exact hno m (by omega)
    | succ f ih =>
      intro n G hG kG ru ev g5 hn hno hany
      have gw : cTw G 105 T := kG.tw hT w (by omega)
      have J := (mRun_I hT n (by omega)).1.1.2.2.1
      refine s90_18 hG o70 ?_
      rw [ru.1.2.2.2.2.1, gw.1.2.2.2.2.2.1]
      refine ⟨⟨by omega, by omega⟩, fun z => absurd z (by omega), fun _ => ⟨⟨by omega, by omega⟩, ⟨by omega, by omega⟩, fun z _ => fin G n _ hG kG ru (by omega) hno hany (fun w => absurd (by omega) w), fun z => ⟨5, hd, k58 hG (by omega) o70 o105 hT gw ru (by omega) (by omega) fun y hy => ⟨hy.r, fun z3 _ => fin G n _ hG kG ru (by omega) hno hany (fun w m hm => ?_), fun z3 => ⟨5, hd, k54 hG (by omega) o70 o105 hT (by omega) gw ru (by omega) ev mEn_0 fun H hH kH rH wH eH nH s5 => ?_⟩⟩⟩⟩⟩
      · by_cases y' : m < n
        · exact hno m y'
        · exact mTl8_n hT (by omega) (hy.t z3) w (by omega) hm
      · have no : ∀ m, m < n + 1 → ¬ mRun T m 131 = T 5 := fun m hm => by
          by_cases y' : m < n
          · exact hno m y'
          · rw [show m = n by omega]; omega
        have r5 := rH.2.2
        unfold cS5 at s5
        refine ⟨by rcases r5 with y' | y' <;> rw [y'] <;> exact ⟨by decide, by decide⟩, fun z5 hH2 => ih (n + 1) H hH2 (kG.trans kH) rH (eH.any rfl) z5 (by omega) no fun m a b => ?_, fun z5 _ => q H 0 hH (gA H (kG.trans kH)) ((kG.trans kH).tw hT w (by omega)) (mB.i0 fun y' => ?_)⟩
        · by_cases y' : m ≤ n
          · exact hany m a y'
          · rw [show m = n + 1 by omega]
            intro u
            have := s5.mpr (Or.inr u)
            omega
        · have h1 : H 70 5 = 1 := by rcases r5 with u | u; exact absurd u z5; exact u
          have gt := mEnd_gt (T := T) (n := n) (by omega) fun m hm => no m (by omega)
          rcases s5.mp h1 with u | u
          · omega
          · exact y'.1 (n + 1) (by omega) (by omega) u
  exact m90 hP o70 ⟨5, hd, k48 hP2 (by omega) o70 o105 hT (by omega) w fun G hG kG cG wG sG g2 g4 g5 eG _ => loop 2000 0 G hG kG ⟨cG, g2, Or.inl g5⟩ (eG.any rfl) g5 (by omega) (fun m hm => by omega) (fun m a b => by omega)⟩
theorem cA5.tr {G : XF} (a : cA5 F G) (h : cTr F T) : cTr G T := h.of (a 104 1 (by omega) (by omega)) fun p i z => a p i (by omega) (by omega)
/-- the best start up to n: which, with what waits -/
theorem k86 {n : Int} (hP : xPT F) (hd : 6 < d) (ht : xob 9 t) (h7 : t + 17 ≤ 70) (hT : mT T) (hw : cTw F t T) (hR : cTr F T) (hn : 0 ≤ n ∧ n ≤ 60) (q : ∀ G, xPT G → cA F G → cTr G T → (¬ (mBs T (n + 1).toNat).1 = -1 → G 125 (mBs T (n + 1).toNat).1 = (mBs T (n + 1).toNat).2 ∧ 0 ≤ (mBs T (n + 1).toNat).1 ∧ (mBs T (n + 1).toNat).1 ≤ 60) → Q (mBs T (n + 1).toNat).1 G) : xMI X d 86 [.ref 104, .ref t, .ref 70, vi n] F Q := by
  have loop : ∀ (f k : Nat) (u : Int) (G : XF) (w6 : Value), xPT G → cA F G → cTr G T → cTw G 105 (mSet T 3 u) → (0 ≤ u ∧ u ≤ 999) → (k : Int) + f = n + 1 → (¬ (mBs T k).1 = -1 → G 125 (mBs T k).1 = (mBs T k).2 ∧ 0 ≤ (mBs T k).1 ∧ (mBs T k).1 < k) → xW X d 86 14 [.ref 104, .ref t, .ref 70, vi n, vi (mBs T k).1, vi (k : Int), w6] [] G (xqi Q) := by
    intro f
    induction f with
    | zero =>
      intro k u G w6 hG hA hR hW hu hk hb
      rw [show (n + 1).toNat = k by omega] at q
      exact s86_14 hG ht o70 ⟨⟨by omega, by omega⟩, ⟨by omega, by omega⟩, fun _ _ => q G hG hA hR fun z => by have := hb z; omega, fun z => absurd (by omega) z⟩
    | succ f ih =>
      intro k u G w6 hG hA hR hW hu hk hb
      have hTk : mT (mSet T 3 k) := mT_set hT (by omega)
      have eb := mEnd_b (T := mSet T 3 k)
      have wb := mWe_b hTk
      have after : ∀ (H : XF) (u' : Int), xPT H → cA F H → cTr H T → cTw H 105 (mSet T 3 u') → (0 ≤ u' ∧ u' ≤ 999) → H 125 k = mWv (mSet T 3 k) → (¬ (mBs T k).1 = -1 → H 125 (mBs T k).1 = (mBs T k).2 ∧ 0 ≤ (mBs T k).1 ∧ (mBs T k).1 < k) → xW X d 86 53 [.ref 104, .ref t, .ref 70, vi n, vi (mBs T k).1, vi (k : Int), w6] [] H (xqi Q) := fun H u' hH kA kR kW hu' hv' hb' => by
        have step : mBs T (k + 1) = if mEnd (mSet T 3 k) = -1 ∨ (¬ (mBs T k).1 = -1 ∧ (mBs T k).2 ≤ mWe (mSet T 3 k)) then mBs T k else ((k : Int), mWe (mSet T 3 k)) := rfl
        have keep : (mEnd (mSet T 3 k) = -1 ∨ (¬ (mBs T k).1 = -1 ∧ (mBs T k).2 ≤ mWe (mSet T 3 k))) → ∀ w6, xW X d 86 14 [.ref 104, .ref t, .ref 70, vi n, vi (mBs T k).1, vi ((k : Int) + 1), w6] [] H (xqi Q) := fun z w6 => by
          rw [if_pos z] at step
          have := ih (k + 1) u' H w6 hH kA kR kW hu' (by omega) (by rw [step]; exact fun y => by have := hb' y; exact ⟨this.1, by omega, by omega⟩)
          rw [step] at this
          exact this
        have new : ¬ (mEnd (mSet T 3 k) = -1 ∨ (¬ (mBs T k).1 = -1 ∧ (mBs T k).2 ≤ mWe (mSet T 3 k))) → ∀ w6, xW X d 86 14 [.ref 104, .ref t, .ref 70, vi n, vi (k : Int), vi ((k : Int) + 1), w6] [] H (xqi Q) := fun z w6 => by
          rw [if_neg z] at step
          have := ih (k + 1) u' H w6 hH kA kR kW hu' (by omega) (by
            rw [step]
            dsimp only
            intro _
            refine ⟨?_, by omega, by omega⟩
            rw [hv']
            unfold mWv
            rw [if_neg (fun y => z (Or.inl y))])
          rw [step] at this
          exact this
        unfold mWv at hv'
        refine s86_53 hH ht o70 ⟨by omega, ?_⟩
        by_cases y : mEnd (mSet T 3 k) = -1
        · rw [if_pos y] at hv'
          rw [hv']
          exact ⟨⟨by omega, by omega⟩, fun _ _ => keep (Or.inl y) _, fun z => absurd rfl z⟩
        · rw [if_neg y] at hv'
          rw [hv']
          refine ⟨⟨by omega, by omega⟩, fun z => by omega, fun _ => ?_⟩
          by_cases y2 : (mBs T k).1 = -1
          · refine ⟨by rw [y2]; constructor <;> omega, fun z _ => new (fun w => ?_) _, fun z => absurd y2 z⟩
            rcases w with w | w
            · exact y w
            · exact w.1 y2
          · have hh := hb' y2
            rw [hh.1]
            have wv := kR.2.2.1 (mBs T k).1 hh.2.1 (by omega)
            have b2 : inR (mBs T k).2 := by
              rw [← hh.1]
              have hTj : mT (mSet T 3 (mBs T k).1) := mT_set hT (by omega)
              have e1 := mWe_b hTj
              rcases wv with v | v
              · rw [v]; exact ⟨by omega, by omega⟩
              · rw [v]
                unfold mWv
                split <;> constructor <;> omega
            refine ⟨⟨by omega, by omega⟩, fun z => absurd z y2, fun _ => ⟨by omega, by omega, ⟨by omega, by omega⟩, b2, fun z _ => keep (Or.inr ⟨y2, z⟩) _, fun z _ => new (fun w => ?_) _⟩⟩
            rcases w with w | w
            · exact y w
            · exact z w.2
      have rv := hR.2.2.1 k (by omega) (by omega)
      have inv : inR (G 125 k) := by
        rcases rv with z | z
        · rw [z]; exact ⟨by omega, by omega⟩
        · rw [z]
          unfold mWv
          split <;> constructor <;> omega
      refine s86_14 hG ht o70 ⟨⟨by omega, by omega⟩, ⟨by omega, by omega⟩, fun z => absurd z (by omega), fun _ => ⟨⟨by omega, by omega⟩, fun z => absurd z (by omega), fun _ => ⟨by omega, inv, fun z _ => after G u hG hA hR hW hu (by rcases rv with y | y; exact absurd y z; exact y) hb, fun z => ⟨6, hd, ?_⟩⟩⟩⟩
      refine k87 (T := mSet T 3 k) (T0 := mSet T 3 u) hG (by omega) (mT_set hT (by omega)) (by omega) hW mSet_2 fun K hK kK wK => ⟨by omega, fun hL => ?_⟩
      have kR := kK.tr hR
      refine after _ k hL (hA.trans fun p i a b => by rw [xup_o (by omega)]; exact kK p i a (by omega)) ⟨by rw [xup_o (by decide)]; exact kR.1, fun j a b => ?_, fun i a b => ?_, fun i a b => by rw [xup_o (by decide)]; exact kR.2.2.2.1 i a b, fun i a b => by rw [xup_o (by decide)]; exact kR.2.2.2.2 i a b⟩ (wK.of hTk fun p i z => xup_o (by omega)) (by omega) xup_s fun y => ?_
      · rw [xup_o (by decide)] at b
        rw [xup_o (by decide), xup_o (by decide), xup_o (by decide)]
        exact kR.2.1 j a b
      · by_cases y : i = k
        · rw [y, xup_s]; exact Or.inr rfl
        · rw [xup_i y]; exact kR.2.2.1 i a b
      · have := hb y
        rw [xup_i (by omega), kK _ _ (by omega) (by omega)]
        exact this
  have h3 := hT.2.2.2.1
  refine m86 hP ht o70 ⟨6, hd, k72 hP (by omega) o105 ht hT (by omega) hw fun G hG kG wG _ => loop (n + 1).toNat 0 (T 3) G _ hG (fun p i a b => kG p i (by omega)) (hR.of (kG 104 1 (by omega)) fun p i z => kG p i (by omega)) (by rw [mSet_id]; exact wG) h3 (by omega) fun z => absurd rfl z⟩
/-- the first smooth start -/
theorem k89 {n : Int} (hP : xPT F) (hd : 6 < d) (ht : xob 9 t) (h7 : t + 17 ≤ 70) (hT : mT T) (hw : cTw F t T) (hR : cTr F T) (hn : 0 ≤ n ∧ n ≤ 60) (q : ∀ G, xPT G → cA F G → cTr G T → Q (mSmF T (n + 1).toNat 0) G) : xMI X d 89 [.ref 104, .ref t, .ref 70, vi n] F Q := by
  obtain ⟨A, eA⟩ : ∃ A, A = mSmF T (n + 1).toNat 0 := ⟨_, rfl⟩
  rw [← eA] at q
  have loop : ∀ (f : Nat) (k u : Int) (G : XF), xPT G → cA F G → cTr G T → cTw G 105 (mSet T 3 u) → (0 ≤ u ∧ u ≤ 999) → 0 ≤ k → k + f = n + 1 → mSmF T f k = A → xW X d 89 11 [.ref 104, .ref t, .ref 70, vi n, vi k] [] G (xqi Q) := by
    intro f
    induction f with
    | zero =>
      intro k u G hG hA hR hW hu hk hf he
      have := q G hG hA hR
      rw [← he] at this
      exact s89_11 hG ht o70 ⟨⟨by omega, by omega⟩, ⟨by omega, by omega⟩, fun _ _ => this, fun z => absurd (by omega) z⟩
    | succ f ih =>
      intro k u G hG hA hR hW hu hk hf he
      have hTk : mT (mSet T 3 k) := mT_set hT (by omega)
      unfold mSmF at he
      have v01 := mV_01 (C := mSm (mSet T 3 k))
      have after : ∀ (H : XF) (u' : Int), xPT H → cA F H → cTr H T → cTw H 105 (mSet T 3 u') → (0 ≤ u' ∧ u' ≤ 999) → H 126 k = mV (mSm (mSet T 3 k)) → xW X d 89 58 [.ref 104, .ref t, .ref 70, vi n, vi k] [] H (xqi Q) := fun H u' hH kA kR kW hu' hv' => by
        refine s89_58 hH ht o70 ⟨by omega, ?_⟩
        rw [hv']
        refine ⟨by rcases v01 with z | z <;> rw [z] <;> exact ⟨by decide, by decide⟩, fun z _ => ?_, fun z _ => ?_⟩
        · rw [if_neg z] at he
          exact ih (k + 1) u' H hH kA kR kW hu' (by omega) (by omega) he
        · rw [if_pos (Classical.byContradiction z)] at he
          have := q H hH kA kR
          rw [← he] at this
          exact this
      have rv := hR.2.2.2.1 k hk (by omega)
      have inv : inR (G 126 k) := by
        rcases rv with z | z
        · rw [z]; exact ⟨by decide, by decide⟩
        · rw [z]; rcases v01 with y | y <;> rw [y] <;> exact ⟨by decide, by decide⟩
      refine s89_11 hG ht o70 ⟨⟨by omega, by omega⟩, ⟨by omega, by omega⟩, fun z => absurd z (by omega), fun _ => ⟨⟨by omega, by omega⟩, fun z => absurd z (by omega), fun _ => ⟨by omega, inv, fun z _ => after G u hG hA hR hW hu (by rcases rv with y | y; exact absurd y z; exact y), fun z => ⟨6, hd, ?_⟩⟩⟩⟩
      refine k90 (T := mSet T 3 k) (T0 := mSet T 3 u) hG (by omega) (mT_set hT (by omega)) (by omega) hW mSet_2 fun K y hK kK wK hy => ?_
      have kR := kK.tr hR
      have put : ∀ v : Int, v = mV (mSm (mSet T 3 k)) → xPT (xup K 126 k v) → xW X d 89 58 [.ref 104, .ref t, .ref 70, vi n, vi k] [] (xup K 126 k v) (xqi Q) := fun v ev hL => by
        refine after _ k hL (hA.trans fun p i a b => by rw [xup_o (by omega)]; exact kK p i a (by omega)) ⟨by rw [xup_o (by decide)]; exact kR.1, fun j a b => ?_, fun i a b => by rw [xup_o (by decide)]; exact kR.2.2.1 i a b, fun i a b => ?_, fun i a b => by rw [xup_o (by decide)]; exact kR.2.2.2.2 i a b⟩ (wK.of hTk fun p i z => xup_o (by omega)) ⟨by omega, by omega⟩ (by rw [xup_s]; exact ev)
        · rw [xup_o (by decide)] at b
          rw [xup_o (by decide), xup_o (by decide), xup_o (by decide)]
          exact kR.2.1 j a b
        · by_cases y : i = k
          · rw [y, xup_s]; exact Or.inr ev
          · rw [xup_i y]; exact kR.2.2.2.1 i a b
      exact ⟨hy.r, fun z => ⟨by omega, fun hL => put 0 (mV_f (hy.f z)).symm hL⟩, fun z => ⟨by omega, fun hL => put 1 (mV_t (hy.t z)).symm hL⟩⟩
  have h3 := hT.2.2.2.1
  refine m89 hP ht o70 ⟨6, hd, k72 hP (by omega) o105 ht hT (by omega) hw fun G hG kG wG _ => loop (n + 1).toNat 0 (T 3) G hG (fun p i a b => kG p i (by omega)) (hR.of (kG 104 1 (by omega)) fun p i z => kG p i (by omega)) (by rw [mSet_id]; exact wG) h3 (by omega) (by omega) eA.symm⟩
end CL14
