section CL16
variable {X : List Int32} {d : Nat} {F : XF}
variable {T : Int → Int} {t n : Nat} {Q : XF → Prop}
/-- all but the run aside and the facts is as it was -/
def cAf (F G : XF) : Prop := ∀ p i, ¬ (70 ≤ p ∧ p < 104) → G p i = F p i
/-- the facts of the whole run are found, if they aren't yet -/
theorem k20 (hP : xPT F) (hd : 6 < d) (ht : xob 9 t) (h7 : t + 17 ≤ 70) (hT : mT T) (hw : cTw F t T) (hA : cFa F T) (q : ∀ G, xPT G → cAf F G → cFa G T → G 98 0 = 1 → Q G) : xMV X d 20 [.ref 98, .ref t, .ref 70] F Q := by
  have h4 := hT.2.2.2.2.1
  have h5 := hT.2.2.2.2.2.1
  have fin : ∀ (G : XF) (n : Nat) (x3 : Int) (w4 w5 : Value), xPT G → cAf F G → cRu G 70 t T n → cSt G 70 T (mRun T n) → cFn G T n → n ≤ 2000 → (∀ m, m < n → ¬ mRun T m 131 = T 5) → (n = 2000 ∨ mRun T n 131 = T 5) → xW X d 20 121 [.ref 98, .ref t, .ref 70, vi x3, w4, w5] [] G (xqv Q) := fun G n x3 w4 w5 hG kG ru st fn hn hno hend => by
    have gw : cTw G t T := hw.of hT fun p i z => kG p i (by omega)
    have J := (mRun_I hT n (by omega)).1.1.2.2.1
    have el : mLast T = n := mLast_u hn hno hend
    have go : ∀ v : Int, v = mEnd T → ∃ j1, j1 < d ∧ xMI X j1 52 [.ref 70] (xup G 98 1 v) (fun y1 G1 => xPT (xup (xup G1 98 2 y1) 98 0 1) → Q (xup (xup G1 98 2 y1) 98 0 1)) := fun v ev => by
      have hP2 : xPT (xup G 98 1 v) := xPT_fld (k := 1) hG o98 (by decide) (by decide)
      refine ⟨6, hd, k52 (R := mRun T n) hP2 o70 ht hT (gw.of hT fun p i z => xup_o (by omega)) (by rw [xup_o (by decide)]; exact ru.1.1) (fun x k a b c e => ?_) fun hK => ?_⟩
      · have : cY 70 x = 70 + 12 + 6 + x.toNat := rfl
        rw [xup_o (by omega)]
        exact st x k a b c e
      · refine q _ hK (fun p i z => by rw [xup_o (by omega), xup_o (by omega), xup_o (by omega)]; exact kG p i z) ⟨Or.inr xup_s, fun _ => ⟨?_, ?_, ?_⟩⟩ xup_s
        · rw [xup_i (by decide), xup_i (by decide), xup_s]; exact ev
        · rw [xup_i (by decide), xup_s]
          unfold mWe
          rw [el]
        · rw [el]
          exact fn.of fun p i u v => by rw [xup_n (by omega), xup_n (by omega), xup_n (by omega)]
    refine s20_121 hG ht o70 ?_
    rw [ru.1.2.2.2.2.1, gw.1.2.2.2.2.2.1, ru.2.1]
    refine ⟨⟨by omega, by omega⟩, ⟨by omega, by omega⟩, fun z => go (-1) ?_, fun z => go n ?_⟩
    · unfold mEnd
      rw [el, if_neg (by omega)]
    · unfold mEnd
      rw [el, if_pos (by omega)]
  have whys : ∀ (n : Nat) (w : ∀ (G : XF) (x4 : Int) (w5 : Value), xPT G → cAf F G → cRu G 70 t T (n + 1) → cSt G 70 T (mRun T (n + 1)) → cEv G 70 (fun _ => 0) → cFn G T (n + 1) → xW X d 20 25 [.ref 98, .ref t, .ref 70, vi ((n : Int) + 1), vi x4, w5] [] G (xqv Q)), n < 2000 → ∀ (f : Nat) (c : Int) (G : XF) (w5 : Value), xPT G → cAf F G → cRu G 70 t T (n + 1) → cSt G 70 T (mRun T (n + 1)) → cEv G 70 (fun _ => 0) → cWh G 70 T (mRun T (n + 1)) → (0 < T 5 → G 98 3 = (mStr T n).1 ∧ G 98 4 = (mStr T n).2) → (∀ x, 0 ≤ x → x < T 4 → G 100 x = (mLg T x (n + 1)).1 ∧ G 101 x = (mLg T x (n + 1)).2 ∧ G 102 x = (mFi T x (n + 1)).1 ∧ G 103 x = (mFi T x (n + 1)).2) → 0 ≤ c → c + f = T 5 → (∀ k w, 0 ≤ k → k < T 5 → 0 ≤ w → w < 7 → G 99 (k * 7 + w) = mHw T k w (if k < c then n + 1 else n)) → xW X d 20 56 [.ref 98, .ref t, .ref 70, vi (n : Int), vi c, w5] [] G (xqv Q) := by
    intro n w hn f
    induction f with
    | zero =>
      intro c G w5 hG kG ru st ev wh s1 x1 hc hf hh
      have gw : cTw G t T := hw.of hT fun p i z => kG p i (by omega)
      refine s20_56 hG ht o70 ⟨⟨by omega, by omega⟩, by rw [gw.1.2.2.2.2.2.1]; constructor <;> omega, fun _ => ⟨6, hd, ?_⟩, fun z => absurd (by rw [gw.1.2.2.2.2.2.1]; omega) z⟩
      obtain ⟨m, hm⟩ : ∃ m, m = G 98 3 := ⟨_, rfl⟩
      by_cases z5 : 0 < T 5
      · have sb := mStr_b hT z5 (n := n) (by omega)
        have se := s1 z5
        refine k22 (m := (mStr T n).1) (a := (mStr T n).2) hG (by omega) ht hT gw ru (by omega) se.1 se.2 ⟨by omega, by omega⟩ fun H hH kH sH hH2 => w H c w5 hH2 (fun p i z => by rw [kH p i (by omega)]; exact kG p i z) ⟨ru.1.of hT (fun p i z => kH p i (by omega)) fun _ _ => rfl, by rw [kH 70 2 (by omega)]; exact ru.2.1, by rw [kH 70 5 (by omega)]; exact ru.2.2⟩ (fun x k a b c' e => by
          have : cY 70 x = 70 + 12 + 6 + x.toNat := rfl
          rw [kH _ _ (by omega)]; exact st x k a b c' e) (ev.of fun p i z => kH p i (by omega)) ⟨fun _ => ?_, fun k w a b c' e => ?_, fun x a b => ?_⟩
        · have := sH z5
          rw [this.1, this.2]
          have step : mStr T (n + 1) = if (mStr T n).1 < mStm T (n + 1) then (mStm T (n + 1), ((n + 1 : Nat) : Int)) else mStr T n := by rw [mStr]
          rw [step]
          by_cases y : (mStr T n).1 < mStm T (n + 1)
          · rw [if_pos y, if_pos y, if_pos y]; exact ⟨rfl, rfl⟩
          · rw [if_neg y, if_neg y, if_neg y]; exact ⟨rfl, rfl⟩
        · rw [kH _ _ (by omega), hh k w a b c' e, if_pos (by omega)]
        · rw [kH _ _ (by omega), kH _ _ (by omega), kH _ _ (by omega), kH _ _ (by omega)]
          exact x1 x a b
      · refine m22 hG ht o70 ?_
        rw [gw.1.2.2.2.2.2.1]
        refine ⟨⟨by omega, by omega⟩, fun z => by omega, fun _ _ hH2 => w G c w5 hH2 kG ru st ev ⟨fun z => absurd z z5, fun k w a b => by omega, x1⟩⟩
    | succ f ih =>
      intro c G w5 hG kG ru st ev wh s1 x1 hc hf hh
      have gw : cTw G t T := hw.of hT fun p i z => kG p i (by omega)
      have wb := mRun_w hT (n + 1) (by omega) c hc (by omega)
      have wc := wh c hc (by omega)
      have e8 : G (70 + 8) c = mRun T (n + 1) (30 + c) := wc
      refine s20_56 hG ht o70 ⟨⟨by omega, by omega⟩, by rw [gw.1.2.2.2.2.2.1]; constructor <;> omega, fun z => absurd z (by rw [gw.1.2.2.2.2.2.1]; omega), fun _ => ⟨by omega, ?_⟩⟩
      rw [e8]
      have hw1 : ∀ k w, mHw T k w (n + 1) = mHw T k w n + (if mRun T (n + 1) (30 + k) = w then 1 else 0) := fun k w => by rw [mHw]
      refine ⟨⟨by omega, by omega⟩, fun z _ => ?_, fun z => ⟨⟨by omega, by omega⟩, fun z1 => by omega, fun _ => ⟨by omega, by omega, fun hH => ?_⟩⟩⟩
      · refine ih (c + 1) G _ hG kG ru st ev wh s1 x1 (by omega) (by omega) fun k w a b p q => ?_
        rw [hh k w a b p q]
        by_cases y : k = c
        · rw [y, if_neg (by omega), if_pos (by omega), hw1, if_neg (by omega)]; omega
        · by_cases y2 : k < c
          · rw [if_pos y2, if_pos (by omega)]
          · rw [if_neg y2, if_neg (by omega)]
      · have kk : ∀ p i, ¬ p = 99 → xup G 99 (c * 7 + mRun T (n + 1) (30 + c)) (G 99 (c * 7 + mRun T (n + 1) (30 + c)) + 1) p i = G p i := fun p i z => xup_o z
        refine ih (c + 1) _ _ hH (fun p i z => by rw [kk p i (by omega)]; exact kG p i z) ⟨ru.1.of hT (fun p i z => kk p i (by omega)) fun _ _ => rfl, by rw [kk 70 2 (by omega)]; exact ru.2.1, by rw [kk 70 5 (by omega)]; exact ru.2.2⟩ (fun x k a b c' e => by
          have : cY 70 x = 70 + 12 + 6 + x.toNat := rfl
          rw [kk _ _ (by omega)]; exact st x k a b c' e) (ev.of fun p i z => kk p i (by omega)) (fun k a b => by rw [kk _ _ (by omega)]; exact wh k a b) (fun z => by rw [kk _ _ (by omega), kk _ _ (by omega)]; exact s1 z) (fun x a b => by rw [kk _ _ (by omega), kk _ _ (by omega), kk _ _ (by omega), kk _ _ (by omega)]; exact x1 x a b) (by omega) (by omega) fun k w a b p q => ?_
        have hk := hh k w a b p q
        by_cases y : k = c
        · subst y
          rw [if_neg (by omega)] at hk
          rw [if_pos (by omega), hw1]
          by_cases y2 : mRun T (n + 1) (30 + k) = w
          · rw [y2, xup_s, hk, if_pos rfl]
          · rw [xup_i (by omega), hk, if_neg y2]; omega
        · rw [xup_i (by omega), hk]
          by_cases y2 : k < c
          · rw [if_pos y2, if_pos (by omega)]
          · rw [if_neg y2, if_neg (by omega)]
  have loop : ∀ (f n : Nat) (G : XF) (w4 w5 : Value), xPT G → cAf F G → cRu G 70 t T n → cSt G 70 T (mRun T n) → cEv G 70 (fun _ => 0) → cFn G T n → n + f = 2000 → (∀ m, m < n → ¬ mRun T m 131 = T 5) → xW X d 20 25 [.ref 98, .ref t, .ref 70, vi (n : Int), w4, w5] [] G (xqv Q) := by
    intro f
    induction f with
    | zero =>
      intro n G w4 w5 hG kG ru st ev fn hn hno
      exact s20_25 hG ht o70 ⟨⟨by omega, by omega⟩, fun _ _ => fin G n _ _ _ hG kG ru st fn (by omega) hno (Or.inl (by omega)), fun z => absurd (by omega) z⟩
    | succ f ih =>
      intro n G w4 w5 hG kG ru st ev fn hn hno
      have gw : cTw G t T := hw.of hT fun p i z => kG p i (by omega)
      have J := (mRun_I hT n (by omega)).1.1.2.2.1
      refine s20_25 hG ht o70 ?_
      rw [ru.1.2.2.2.2.1, gw.1.2.2.2.2.2.1]
      refine ⟨⟨by omega, by omega⟩, fun z => absurd z (by omega), fun _ => ⟨⟨by omega, by omega⟩, ⟨by omega, by omega⟩, fun z _ => fin G n _ _ _ hG kG ru st fn (by omega) hno (Or.inr (by omega)), fun z => ⟨6, hd, k23 hG (by omega) ht h7 hT gw ru (by omega) fn.2.2 fun H hH kH xH => ⟨6, hd, ?_⟩⟩⟩⟩
      have hr : cRu H 70 t T n := ⟨ru.1.of hT (fun p i z => kH p i (by omega)) fun _ _ => rfl, by rw [kH 70 2 (by omega)]; exact ru.2.1, by rw [kH 70 5 (by omega)]; exact ru.2.2⟩
      refine k53 hH (by omega) o70 ht hT (by omega) (gw.of hT fun p i z => kH p i (by omega)) hr (fun x k a b c e => by
        have : cY 70 x = 70 + 12 + 6 + x.toNat := rfl
        rw [kH _ _ (by omega)]; exact st x k a b c e) (by omega) (ev.of fun p i z => kH p i (by omega)) mEn_0 fun K hK kK rK sK wK eK nK _ hK2 => ?_
      refine whys n (fun L x4 w5 hL kL rL sL eL fL => ?_) (by omega) (T 5).toNat 0 K w5 hK2 (fun p i z => by rw [kK p i (by omega), kH p i (by omega)]; exact kG p i z) rK sK (eK.any rfl) wK (fun z => ?_) (fun x a b => ?_) (by omega) (by omega) fun k w a b p q => ?_
      · refine ih (n + 1) L _ w5 hL kL rL sL eL fL (by omega) fun m hm => ?_
        by_cases y' : m < n
        · exact hno m y'
        · rw [show m = n by omega]; omega
      · rw [kK _ _ (by omega), kK _ _ (by omega), kH _ _ (by omega), kH _ _ (by omega)]
        exact fn.1 z
      · rw [kK _ _ (by omega), kK _ _ (by omega), kK _ _ (by omega), kK _ _ (by omega)]
        exact xH x a b
      · rw [if_neg (by omega), kK _ _ (by omega), kH _ _ (by omega)]
        exact fn.2.1 k w a b p q
  have a0 := hA.1
  refine m20 hP ht o70 ⟨by rcases a0 with z | z <;> rw [z] <;> exact ⟨by decide, by decide⟩, fun z => ⟨6, hd, k21 hP fun G hG kG g3 g4 gh gx => ⟨6, hd, k48 hG (by omega) o70 ht hT (by omega) (hw.of hT fun p i z => kG p i (by omega)) fun H hH kH cH wH sH g2 _ g5 eH => ⟨6, hd, ?_⟩⟩⟩, fun z _ => q F hP (fun _ _ _ => rfl) hA (by rcases a0 with y | y; exact absurd y z; exact y)⟩
  have hw2 : cTw H t T := hw.of hT fun p i z => by rw [kH p i (by omega)]; exact kG p i (by omega)
  have ru : cRu H 70 t T 0 := ⟨cH, g2, Or.inl g5⟩
  refine k22 (m := -1) (a := 0) hH (by omega) ht hT hw2 ru (by omega) (by rw [kH _ _ (by omega)]; exact g3) (by rw [kH _ _ (by omega)]; exact g4) ⟨by decide, by decide⟩ fun K hK kK sK hK2 => loop 2000 0 K _ _ hK2 (fun p i z => by rw [kK p i (by omega), kH p i (by omega)]; exact kG p i (by omega)) ⟨ru.1.of hT (fun p i z => kK p i (by omega)) fun _ _ => rfl, by rw [kK 70 2 (by omega)]; exact ru.2.1, by rw [kK 70 5 (by omega)]; exact ru.2.2⟩ (fun x k a b c e => by
      have : cY 70 x = 70 + 12 + 6 + x.toNat := rfl
      rw [kK _ _ (by omega)]; exact sH x k a b c e) ((eH.any rfl).of fun p i z => by
        exact kK p i (by omega)) ⟨fun z => ?_, fun k w a b c e => ?_, fun x a b => ?_⟩ (by omega) (fun m hm => by omega)
  · have := sK z
    have s0 := mStm_0 hT (by omega)
    rw [if_pos (by omega), if_pos (by omega)] at this
    rw [this.1, this.2]
    exact ⟨rfl, rfl⟩
  · rw [kK _ _ (by omega), kH _ _ (by omega), gh _ (by omega) (by omega)]
    rfl
  · rw [kK _ _ (by omega), kK _ _ (by omega), kK _ _ (by omega), kK _ _ (by omega), kH _ _ (by omega), kH _ _ (by omega), kH _ _ (by omega), kH _ _ (by omega)]
    exact gx x a (by omega)
end CL16
