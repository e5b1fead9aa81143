section CL15
variable {X : List Int32} {d : Nat} {F : XF}
variable {T : Int → Int} {t n : Nat} {Q : XF → Prop}
theorem o98 : xob (xkd0 98) 98 := ⟨by decide, rfl⟩
/-- what is seen of a run up to its tick n -/
def cFn (F : XF) (T : Int → Int) (n : Nat) : Prop := (0 < T 5 → F 98 3 = (mStr T n).1 ∧ F 98 4 = (mStr T n).2) ∧ (∀ c w, 0 ≤ c → c < T 5 → 0 ≤ w → w < 7 → F 99 (c * 7 + w) = mHw T c w n) ∧ (∀ x, 0 ≤ x → x < T 4 → F 100 x = (mLg T x n).1 ∧ F 101 x = (mLg T x n).2 ∧ F 102 x = (mFi T x n).1 ∧ F 103 x = (mFi T x n).2)
/-- what is known of the whole run -/
def cFa (F : XF) (T : Int → Int) : Prop := (F 98 0 = 0 ∨ F 98 0 = 1) ∧ (F 98 0 = 1 → F 98 1 = mEnd T ∧ F 98 2 = mWe T ∧ cFn F T (mLast T))
theorem cFn.of {G : XF} (h : cFn F T n) (e : ∀ p i, (98 ≤ p ∧ p ≤ 103) → ¬ (p = 98 ∧ (i = 0 ∨ i = 1 ∨ i = 2)) → G p i = F p i) : cFn G T n := by
  obtain ⟨a, b, c⟩ := h
  refine ⟨fun z => by rw [e 98 3 (by omega) (by omega), e 98 4 (by omega) (by omega)]; exact a z, fun x w p q u v => by rw [e _ _ (by omega) (by omega)]; exact b x w p q u v, fun x p q => by rw [e _ _ (by omega) (by omega), e _ _ (by omega) (by omega), e _ _ (by omega) (by omega), e _ _ (by omega) (by omega)]; exact c x p q⟩
theorem cFa.of {G : XF} (h : cFa F T) (e : ∀ p i, (98 ≤ p ∧ p ≤ 103) → G p i = F p i) : cFa G T := by
  obtain ⟨a, b⟩ := h
  have e0 : ∀ i, G 98 i = F 98 i := fun i => e 98 i (by omega)
  refine ⟨by rw [e0]; exact a, fun z => ?_⟩
  rw [e0] at z
  rw [e0, e0]
  exact ⟨(b z).1, (b z).2.1, (b z).2.2.of fun p i u _ => e p i u⟩
theorem k19 (hP : xPT F) (q : ∀ G, xPT G → (∀ p i, ¬ (p = 98 ∧ i = 0) → G p i = F p i) → (∀ T, cFa G T) → Q G) : xMV X d 19 [.ref 98] F Q :=
  m19 hP fun hG => q _ hG (fun p i z => xup_n z) fun T => ⟨Or.inl xup_s, fun z => by rw [xup_s] at z; omega⟩
theorem k21 (hP : xPT F) (q : ∀ G, xPT G → (∀ p i, ¬ (98 ≤ p ∧ p ≤ 103) → G p i = F p i) → G 98 3 = -1 → G 98 4 = 0 → (∀ i, 0 ≤ i → i < 210 → G 99 i = 0) → (∀ x, 0 ≤ x → x < 10 → G 100 x = 0 ∧ G 101 x = 0 ∧ G 102 x = -1 ∧ G 103 x = -1) → Q G) : xMV X d 21 [.ref 98] F Q := by
  have l : (xln0 99 : Int) = 210 := by decide
  have two : ∀ (f : Nat) (x : Int) (G : XF), xPT G → 0 ≤ x → x + f = 10 → (∀ p i, ¬ (98 ≤ p ∧ p ≤ 103) → G p i = F p i) → G 98 3 = -1 → G 98 4 = 0 → (∀ i, 0 ≤ i → i < 210 → G 99 i = 0) → (∀ y, 0 ≤ y → y < x → G 100 y = 0 ∧ G 101 y = 0 ∧ G 102 y = -1 ∧ G 103 y = -1) → xW X d 21 36 [.ref 98, vi x] [] G (xqv Q) := by
    intro f
    induction f with
    | zero =>
      intro x G hG hx hf k a b c e
      exact s21_36 hG ⟨⟨by omega, by omega⟩, fun _ _ => q G hG k a b c fun y p q => e y p (by omega), fun z => absurd (by omega) z⟩
    | succ f ih =>
      intro x G hG hx hf k a b c e
      refine s21_36 hG ⟨⟨by omega, by omega⟩, fun z => absurd z (by omega), fun _ => ⟨by omega, by omega, by omega, by omega, fun hH => ih (x + 1) _ hH (by omega) (by omega) (fun p i z => by rw [xup_o (by omega), xup_o (by omega), xup_o (by omega), xup_o (by omega)]; exact k p i z) (by rw [xup_o (by decide), xup_o (by decide), xup_o (by decide), xup_o (by decide)]; exact a) (by rw [xup_o (by decide), xup_o (by decide), xup_o (by decide), xup_o (by decide)]; exact b) (fun i p q => by rw [xup_o (by decide), xup_o (by decide), xup_o (by decide), xup_o (by decide)]; exact c i p q) fun y p q => ?_⟩⟩
      by_cases z : y = x
      · rw [z]
        refine ⟨?_, ?_, ?_, ?_⟩
        · rw [xup_o (by decide), xup_o (by decide), xup_o (by decide), xup_s]
        · rw [xup_o (by decide), xup_o (by decide), xup_s]
        · rw [xup_o (by decide), xup_s]
        · rw [xup_s]
      · have := e y p (by omega)
        refine ⟨?_, ?_, ?_, ?_⟩
        · rw [xup_o (by decide), xup_o (by decide), xup_o (by decide), xup_i z]; exact this.1
        · rw [xup_o (by decide), xup_o (by decide), xup_i z, xup_o (by decide)]; exact this.2.1
        · rw [xup_o (by decide), xup_i z, xup_o (by decide), xup_o (by decide)]; exact this.2.2.1
        · rw [xup_i z, xup_o (by decide), xup_o (by decide), xup_o (by decide)]; exact this.2.2.2
  have one : ∀ (f : Nat) (x : Int) (G : XF), xPT G → 0 ≤ x → x + f = 210 → (∀ p i, ¬ (98 ≤ p ∧ p ≤ 103) → G p i = F p i) → G 98 3 = -1 → G 98 4 = 0 → (∀ i, 0 ≤ i → i < x → G 99 i = 0) → xW X d 21 12 [.ref 98, vi x] [] G (xqv Q) := by
    intro f
    induction f with
    | zero =>
      intro x G hG hx hf k a b c
      exact s21_12 hG ⟨⟨by omega, by omega⟩, by rw [l]; constructor <;> omega, fun _ _ => two 10 0 G hG (by omega) (by omega) k a b (fun i p q => c i p (by omega)) (fun y p q => by omega), fun z => absurd (by rw [l]; omega) z⟩
    | succ f ih =>
      intro x G hG hx hf k a b c
      refine s21_12 hG ⟨⟨by omega, by omega⟩, by rw [l]; constructor <;> omega, fun z => absurd z (by rw [l]; omega), fun _ => ⟨by omega, fun hH => ih (x + 1) _ hH (by omega) (by omega) (fun p i z => by rw [xup_o (by omega)]; exact k p i z) (by rw [xup_o (by decide)]; exact a) (by rw [xup_o (by decide)]; exact b) fun i p q => ?_⟩⟩
      by_cases z : i = x
      · rw [z, xup_s]
      · rw [xup_i z]; exact c i p (by omega)
  exact m21 hP fun hG => one 210 0 _ hG (by omega) (by omega) (fun p i z => by rw [xup_o (by omega), xup_o (by omega)]) (by rw [xup_i (by decide), xup_s]) xup_s fun i p q => by omega
theorem k22 {m a : Int} (hP : xPT F) (hd : 0 < d) (ht : xob 9 t) (hT : mT T) (hw : cTw F t T) (h : cRu F 70 t T n) (hn : n ≤ 2000) (hm : F 98 3 = m) (ha : F 98 4 = a) (hr : inR m) (q : ∀ G, xPT G → (∀ p i, ¬ (p = 98 ∧ (i = 3 ∨ i = 4)) → G p i = F p i) → (0 < T 5 → G 98 3 = (if m < mStm T n then mStm T n else m) ∧ G 98 4 = (if m < mStm T n then (n : Int) else a)) → Q G) : xMV X d 22 [.ref 98, .ref t, .ref 70] F Q := by
  have h5 := hT.2.2.2.2.2.1
  refine m22 hP ht o70 ?_
  rw [hw.1.2.2.2.2.2.1]
  refine ⟨⟨by omega, by omega⟩, fun z => ⟨0, hd, k49 hP o70 ht hT hw h.1 (by omega) ?_⟩, fun z _ => q F hP (fun _ _ _ => rfl) fun y => by omega⟩
  rw [h.1.2.2.2.1 0 (by omega) (by omega), hm]
  have e : mRun T n 0 - (mRun T n (T 5 - 1) - T (78 + (T 5 - 1))) = mStm T n := rfl
  have sb := mStm_b hT z hn
  rw [e]
  refine ⟨⟨by omega, by omega⟩, hr, fun y _ => q F hP (fun _ _ _ => rfl) fun _ => by rw [if_neg (by omega), if_neg (by omega)]; exact ⟨hm, ha⟩, fun y hG => q _ hG (fun p i u => by rw [xup_n (by omega), xup_n (by omega)]) fun _ => ?_⟩
  rw [if_pos (by omega), if_pos (by omega)]
  refine ⟨by rw [xup_i (by decide), xup_s], ?_⟩
  rw [xup_s, xup_o (by decide)]
  exact h.2.1
theorem k23 (hP : xPT F) (hd : 0 < d) (ht : xob 9 t) (h7 : t + 17 ≤ 70) (hT : mT T) (hw : cTw F t T) (h : cRu F 70 t T n) (hn : n ≤ 2000) (hx : ∀ x, 0 ≤ x → x < T 4 → F 100 x = (mLg T x n).1 ∧ F 101 x = (mLg T x n).2 ∧ F 102 x = (mFi T x n).1 ∧ F 103 x = (mFi T x n).2) (q : ∀ G, xPT G → (∀ p i, ¬ (100 ≤ p ∧ p ≤ 103) → G p i = F p i) → (∀ x, 0 ≤ x → x < T 4 → G 100 x = (mLg T x (n + 1)).1 ∧ G 101 x = (mLg T x (n + 1)).2 ∧ G 102 x = (mFi T x (n + 1)).1 ∧ G 103 x = (mFi T x (n + 1)).2) → Q G) : xMV X d 23 [.ref 98, .ref t, .ref 70] F Q := by
  have h4 := hT.2.2.2.2.1
  have loop : ∀ (f : Nat) (x : Int) (G : XF), xPT G → 0 ≤ x → x + f = T 4 → (∀ p i, ¬ (100 ≤ p ∧ p ≤ 103) → G p i = F p i) → (∀ y, 0 ≤ y → y < T 4 → G 100 y = (mLg T y (if y < x then n + 1 else n)).1 ∧ G 101 y = (mLg T y (if y < x then n + 1 else n)).2 ∧ G 102 y = (mFi T y (if y < x then n + 1 else n)).1 ∧ G 103 y = (mFi T y (if y < x then n + 1 else n)).2) → xW X d 23 2 [.ref 98, .ref t, .ref 70, vi x] [] G (xqv Q) := by
    intro f
    induction f with
    | zero =>
      intro x G hG h0 hf k e
      have gw : cTw G t T := hw.of hT fun p i z => k p i (by omega)
      refine s23_2 hG ht o70 ⟨⟨by omega, by omega⟩, by rw [gw.1.2.2.2.2.1]; constructor <;> omega, fun _ _ => q G hG k fun y p q => ?_, fun z => absurd (by rw [gw.1.2.2.2.2.1]; omega) z⟩
      have := e y p q
      rw [if_pos (by omega)] at this
      exact this
    | succ f ih =>
      intro x G hG h0 hf k e
      have gw : cTw G t T := hw.of hT fun p i z => k p i (by omega)
      have gr : cCo G 70 t T (mRun T n) := h.1.of hT (fun p i z => k p i (by omega)) fun _ _ => rfl
      have g2 : G 70 2 = (n : Int) := by rw [k 70 2 (by omega)]; exact h.2.1
      have ex := e x h0 (by omega)
      rw [if_neg (by omega)] at ex
      have lb := mLg_b (T := T) (x := x) n
      have fb := mFi_b (T := T) (x := x) n
      have oth : ∀ (H : XF), (∀ p i, ¬ ((100 ≤ p ∧ p ≤ 103) ∧ i = x) → H p i = G p i) → (H 100 x = (mLg T x (n + 1)).1 ∧ H 101 x = (mLg T x (n + 1)).2 ∧ H 102 x = (mFi T x (n + 1)).1 ∧ H 103 x = (mFi T x (n + 1)).2) → xPT H → xW X d 23 2 [.ref 98, .ref t, .ref 70, vi (x + 1)] [] H (xqv Q) := fun H kH hx hH => by
        refine ih (x + 1) H hH (by omega) (by omega) (fun p i z => by rw [kH p i (by omega)]; exact k p i z) fun y p q => ?_
        by_cases z : y = x
        · rw [z, if_pos (by omega)]; exact hx
        · rw [kH _ _ (by omega), kH _ _ (by omega), kH _ _ (by omega), kH _ _ (by omega)]
          have := e y p q
          by_cases u : y < x
          · rw [if_pos u] at this
            rw [if_pos (by omega)]; exact this
          · rw [if_neg u] at this
            rw [if_neg (by omega)]; exact this
      refine s23_2 hG ht o70 ⟨⟨by omega, by omega⟩, by rw [gw.1.2.2.2.2.1]; constructor <;> omega, fun z => absurd z (by rw [gw.1.2.2.2.2.1]; omega), fun _ => ⟨0, hd, k50 hG o70 hT gr (by omega) fun y hy => ⟨hy.r, fun z => ?_, fun z => ⟨by omega, fun hH => ?_⟩⟩⟩⟩
      · have yes := mV_t (hy.t z)
        have l1 : (mLg T x (n + 1)) = (max (mLg T x n).1 ((mLg T x n).2 + 1), (mLg T x n).2 + 1) := by
          rw [mLg, if_pos yes]
        have f1 : mFi T x (n + 1) = ((if (mFi T x n).1 = -1 then (n : Int) else (mFi T x n).1), (n : Int)) := by
          rw [mFi, if_pos yes]
        rw [ex.1, ex.2.1, ex.2.2.1]
        have k79 : ∀ H : XF, xPT H → (∀ p i, ¬ ((100 ≤ p ∧ p ≤ 103) ∧ i = x) → H p i = G p i) → H 100 x = max (mLg T x n).1 ((mLg T x n).2 + 1) → H 101 x = (mLg T x n).2 + 1 → H 102 x = (if (mFi T x n).1 = -1 then (n : Int) else (mFi T x n).1) → xW X d 23 79 [.ref 98, .ref t, .ref 70, vi x] [] H (xqv Q) := fun H hH kH a b c => by
          refine s23_79 hH ht o70 ⟨by omega, ?_⟩
          have : H 70 2 = (n : Int) := by rw [kH 70 2 (by omega)]; exact g2
          rw [this]
          refine fun hK => oth _ (fun p i z => by rw [xup_n (by omega)]; exact kH p i z) ?_ hK
          rw [l1, f1, xup_o (by decide), xup_o (by decide), xup_o (by decide), xup_s]
          exact ⟨a, b, c, rfl⟩
        refine ⟨by omega, by omega, by omega, by omega, ⟨by omega, by omega⟩, ⟨by omega, by omega⟩, by omega, by omega, ⟨by omega, by omega⟩, fun z1 hH => ?_, fun z1 => ⟨by omega, fun hH => ?_⟩⟩
        · refine k79 _ hH (fun p i u => by rw [xup_n (by omega), xup_n (by omega)]) xup_s (by rw [xup_o (by decide), xup_s]) ?_
          rw [xup_o (by decide), xup_o (by decide), if_neg z1]
          exact ex.2.2.1
        · refine k79 _ hH (fun p i u => by rw [xup_n (by omega), xup_n (by omega), xup_n (by omega)]) (by rw [xup_o (by decide), xup_s]) (by rw [xup_o (by decide), xup_o (by decide), xup_s]) ?_
          rw [xup_s, xup_o (by decide), xup_o (by decide), if_pos (by omega)]
          exact g2
      · have no := mV_f (hy.f (by omega))
        refine oth _ (fun p i u => xup_n (by omega)) ?_ hH
        have l1 : (mLg T x (n + 1)) = (max (mLg T x n).1 0, 0) := by
          rw [mLg, if_neg (by rw [no]; decide)]
        have f1 : mFi T x (n + 1) = mFi T x n := by
          rw [mFi, if_neg (by rw [no]; decide)]
        rw [l1, f1, xup_o (by decide), xup_s, xup_o (by decide), xup_o (by decide)]
        exact ⟨by rw [ex.1]; dsimp only; omega, rfl, ex.2.2.1, ex.2.2.2⟩
  exact m23 hP ht o70 fun _ => loop (T 4).toNat 0 F hP (by omega) (by omega) (fun _ _ _ => rfl) fun y p q => by rw [if_neg (by omega)]; exact hx y p q
end CL15
