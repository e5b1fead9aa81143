section CL2
variable {X : List Int32} {d : Nat} {F : XF}
/-- all but the cells from o on, n of them, is as it was -/
def cK (o n : Nat) (F G : XF) : Prop := ∀ p i, ¬ (o ≤ p ∧ p < o + n) → G p i = F p i
theorem cK.trans {o n : Nat} {F G H : XF} (a : cK o n F G) (b : cK o n G H) : cK o n F H := fun p i h => (b p i h).trans (a p i h)
theorem cK.refl {o n : Nat} {F : XF} : cK o n F F := fun _ _ _ => rfl
theorem cK.up {o n p : Nat} {F G : XF} {i v : Int} (a : cK o n F G) (h : o ≤ p ∧ p < o + n) : cK o n F (xup G p i v) := a.trans fun q j hq => xup_n (by omega)
theorem cK.sub {o n o' n' : Nat} {F G : XF} (a : cK o n F G) (h : o' ≤ o ∧ o + n ≤ o' + n') : cK o' n' F G := fun p i hp => a p i (by omega)
theorem cK.tw {o n t : Nat} {T : Int → Int} {F G : XF} (a : cK o n F G) (hT : mT T) (h : cTw F t T) (hd : t + 17 ≤ o ∨ o + n ≤ t) : cTw G t T := h.of hT fun p i hp => a p i (by omega)
theorem k74 {t : Nat} {T : Int → Int} {c u m : Int} {Q : XF → Prop} (hP : xPT F) (ht : xob 9 t) (hT : mT T) (h6 : T 7 ≤ 6) (hw : cTw F t T) (q : ∀ G, xPT G → cK t 17 F G → cTw G t (mBrT T c u m) → Q G) : xMV X d 74 [.ref t, vi c, vi u, vi m] F Q := by
  have h4 := hT.2.2.2.2.1
  have h5 := hT.2.2.2.2.2.1
  have g6 := hT.2.2.2.2.2.2.1
  have h7 := hT.2.2.2.2.2.2.2.1
  obtain ⟨a, b, e, s, g, k⟩ := hw
  have e7 := a.2.2.2.2.2.2.2
  refine m74 hP ht ?_
  rw [e7]
  refine ⟨⟨by omega, by omega⟩, fun cc => absurd cc (by omega), fun _ => ⟨⟨by omega, by omega⟩, ⟨by omega, by omega⟩, ⟨by omega, by omega⟩, fun hG => q _ hG ((((cK.refl.up (by omega)).up (by omega)).up (by omega)).up (by omega)) ?_⟩⟩
  have o : ∀ i, ¬ i = 7 → (i < 142 + 3 * T 7 ∨ 142 + 3 * T 7 + 2 < i) → mBrT T c u m i = T i := fun i x y => mBrT_o h7.1 x y
  have z := mBrT_0 (c := c) (t := u) (m := m) h7.1
  have f0 : ∀ i, ¬ i = 11 → xup (xup (xup (xup F (t + 4) (T 7) c) (t + 5) (T 7) u) (t + 6) (T 7) m) t 11 (T 7 + 1) t i = F t i := fun i h => by rw [xup_i h, xup_o (by omega), xup_o (by omega), xup_o (by omega)]
  refine ⟨?_, fun x p r => ?_, fun x p r => ?_, fun x p => ?_, fun x p r => ?_, fun x p r => ?_⟩
  · rw [f0 0 (by decide), f0 1 (by decide), f0 2 (by decide), f0 3 (by decide), f0 4 (by decide), f0 6 (by decide), f0 9 (by decide), xup_s, mBrT_7, o 0 (by omega) (by omega), o 1 (by omega) (by omega), o 2 (by omega) (by omega), o 3 (by omega) (by omega), o 4 (by omega) (by omega), o 5 (by omega) (by omega), o 6 (by omega) (by omega)]
    omega
  · rw [o 4 (by omega) (by omega)] at r
    have := b x p r
    unfold cCr cX at *
    have fx : ∀ i, xup (xup (xup (xup F (t + 4) (T 7) c) (t + 5) (T 7) u) (t + 6) (T 7) m) t 11 (T 7 + 1) (t + 1 + 6 + x.toNat) i = F (t + 1 + 6 + x.toNat) i := fun i => by rw [xup_o (by omega), xup_o (by omega), xup_o (by omega), xup_o (by omega)]
    rw [fx, fx, fx, fx, fx, fx, fx, o _ (by omega) (by omega), o _ (by omega) (by omega), o _ (by omega) (by omega), o _ (by omega) (by omega), o _ (by omega) (by omega), o _ (by omega) (by omega), o _ (by omega) (by omega)]
    exact this
  · rw [o 5 (by omega) (by omega)] at r
    rw [xup_o (by omega), xup_o (by omega), xup_o (by omega), xup_o (by omega), o _ (by omega) (by omega)]
    exact e x p r
  · rw [f0 8 (by decide), o _ (by omega) (by omega)]
    exact s x p
  · rw [o 6 (by omega) (by omega)] at r
    rw [xup_o (by omega), xup_o (by omega), xup_o (by omega), xup_o (by omega), o _ (by omega) (by omega)]
    exact g x p r
  · rw [mBrT_7] at r
    by_cases hq : x = T 7
    · subst hq
      rw [z.1, z.2.1, z.2.2]
      refine ⟨?_, ?_, ?_⟩
      · rw [xup_o (by omega), xup_o (by omega), xup_o (by omega), xup_s]
      · rw [xup_o (by omega), xup_o (by omega), xup_s]
      · rw [xup_o (by omega), xup_s]
    · have := k x p (by omega)
      rw [o _ (by omega) (by omega), o _ (by omega) (by omega), o _ (by omega) (by omega)]
      refine ⟨?_, ?_, ?_⟩
      · rw [xup_o (by omega), xup_o (by omega), xup_o (by omega), xup_i hq]; exact this.1
      · rw [xup_o (by omega), xup_o (by omega), xup_i hq, xup_o (by omega)]; exact this.2.1
      · rw [xup_o (by omega), xup_i hq, xup_o (by omega), xup_o (by omega)]; exact this.2.2
theorem k6 {o0 o1 : Nat} {Q : XF → Prop} (hP : xPT F) (h0 : xob 1 o0) (h1 : xob 1 o1) (hne : ¬ o1 = o0) (q : ∀ G, xPT G → (∀ p i, ¬ p = o0 → G p i = F p i) → (∀ i, 0 ≤ i → i < 7 → G o0 i = F o1 i) → Q G) : xMV X d 6 [.ref o0, .ref o1] F Q := by
  refine m6 hP h0 h1 fun hG => q _ hG (fun p i h => by rw [xup_o h, xup_o h, xup_o h, xup_o h, xup_o h, xup_o h, xup_o h]) (fun i a b => ?_)
  rcases (show i = 0 ∨ i = 1 ∨ i = 2 ∨ i = 3 ∨ i = 4 ∨ i = 5 ∨ i = 6 by omega) with h | h | h | h | h | h | h
  · subst h
    rw [xup_i (by decide), xup_i (by decide), xup_i (by decide), xup_i (by decide), xup_i (by decide), xup_i (by decide), xup_s]
  · subst h
    rw [xup_i (by decide), xup_i (by decide), xup_i (by decide), xup_i (by decide), xup_i (by decide), xup_s, xup_o hne]
  · subst h
    rw [xup_i (by decide), xup_i (by decide), xup_i (by decide), xup_i (by decide), xup_s, xup_o hne, xup_o hne]
  · subst h
    rw [xup_i (by decide), xup_i (by decide), xup_i (by decide), xup_s, xup_o hne, xup_o hne, xup_o hne]
  · subst h
    rw [xup_i (by decide), xup_i (by decide), xup_s, xup_o hne, xup_o hne, xup_o hne, xup_o hne]
  · subst h
    rw [xup_i (by decide), xup_s, xup_o hne, xup_o hne, xup_o hne, xup_o hne, xup_o hne]
  · subst h
    rw [xup_s, xup_o hne, xup_o hne, xup_o hne, xup_o hne, xup_o hne, xup_o hne]
theorem xcopy_o {q o p : Nat} {sp dp n j : Int} (h : ¬ p = o) : xcopy F q sp o dp n p j = F p j := by unfold xcopy; rw [if_neg (fun z => h z.1)]
theorem xcopy_s {q o : Nat} {n j : Int} (h : 0 ≤ j ∧ j < n) : xcopy F q 0 o 0 n o j = F q j := by
  unfold xcopy
  rw [if_pos ⟨rfl, by omega, by omega⟩]
  congr 1
  omega
section TAKE
variable {o0 o1 : Nat} {T : Int → Int}
theorem l72 {Q : XF → Prop} (F0 : XF) (hd : 0 < d) (h0 : xob 9 o0) (h1 : xob 9 o1) (hT : mT T) (hdis : o0 + 17 ≤ o1 ∨ o1 + 17 ≤ o0) (hw : cTw F0 o1 T) (q : ∀ G, xPT G → cK o0 17 F0 G → cTw G o0 T → Q G) : ∀ (n k : Nat) (F : XF), xPT F → (k : Int) + n = T 4 → cK o0 17 F0 F → (F o0 0 = T 0 ∧ F o0 1 = T 1 ∧ F o0 2 = T 2 ∧ F o0 3 = T 3 ∧ F o0 4 = T 4) → (∀ x : Int, 0 ≤ x → x < k → cCr F (cX o0 x) T x) → xW X d 72 42 [.ref o0, .ref o1, vi k] [] F (xqv Q) := by
  have h4 := hT.2.2.2.2.1
  have h5 := hT.2.2.2.2.2.1
  have h6 := hT.2.2.2.2.2.2.1
  have h7 := hT.2.2.2.2.2.2.2.1
  intro n
  induction n with
  | zero =>
    intro k F hP hk hK hs hx
    have w := hK.tw hT hw (by omega)
    obtain ⟨a, b, e, s, g, kk⟩ := w
    refine s72_42 hP h0 h1 ⟨⟨by omega, by omega⟩, by rw [hs.2.2.2.2]; constructor <;> omega, fun _ hG => q _ hG (fun p i h => ?_) ?_, fun c => absurd (by omega) c⟩
    · rw [xcopy_o (by omega), xcopy_o (by omega), xcopy_o (by omega), xup_o (by omega), xcopy_o (by omega), xup_o (by omega), xup_o (by omega), xcopy_o (by omega), xup_o (by omega)]
      exact hK p i h
    · refine ⟨?_, fun x p r => ?_, fun x p r => ?_, fun x p => ?_, fun x p r => ?_, fun x p r => ?_⟩
      · simp only [xcopy, xup]
        simp
        simp only [show ¬ o1 = o0 by omega, show ¬ o1 = o0 + 2 by omega, show ¬ o1 = o0 + 3 by omega, false_and, if_false]
        omega
      · have := hx x p (by omega)
        unfold cCr cX at *
        obtain ⟨t0, t1, t2, t3, t4, t5, t6⟩ := this
        refine ⟨?_, ?_, ?_, ?_, ?_, ?_, ?_⟩
        all_goals rw [xcopy_o (by omega), xcopy_o (by omega), xcopy_o (by omega), xup_o (by omega), xcopy_o (by omega), xup_o (by omega), xup_o (by omega), xcopy_o (by omega), xup_o (by omega)]
        all_goals assumption
      · rw [xcopy_o (by omega), xcopy_o (by omega), xcopy_o (by omega), xup_o (by omega), xcopy_o (by omega), xup_o (by omega), xup_o (by omega), xcopy_s (by omega), xup_o (by omega)]
        exact e x p r
      · rw [xcopy_o (by omega), xcopy_o (by omega), xcopy_o (by omega), xup_i (by decide), xcopy_o (by omega), xup_i (by decide), xup_s, xcopy_o (by omega), xup_o (by omega)]
        exact s x p
      · rw [xcopy_o (by omega), xcopy_o (by omega), xcopy_o (by omega), xup_o (by omega), xcopy_s (by omega), xup_o (by omega), xup_o (by omega), xcopy_o (by omega), xup_o (by omega)]
        exact g x p r
      · have := kk x p r
        refine ⟨?_, ?_, ?_⟩
        · rw [xcopy_o (by omega), xcopy_o (by omega), xcopy_s (by omega), xup_o (by omega), xcopy_o (by omega), xup_o (by omega), xup_o (by omega), xcopy_o (by omega), xup_o (by omega)]
          exact this.1
        · rw [xcopy_o (by omega), xcopy_s (by omega), xcopy_o (by omega), xup_o (by omega), xcopy_o (by omega), xup_o (by omega), xup_o (by omega), xcopy_o (by omega), xup_o (by omega)]
          exact this.2.1
        · rw [xcopy_s (by omega), xcopy_o (by omega), xcopy_o (by omega), xup_o (by omega), xcopy_o (by omega), xup_o (by omega), xup_o (by omega), xcopy_o (by omega), xup_o (by omega)]
          exact this.2.2
  | succ n ih =>
    intro k F hP hk hK hs hx
    have w := hK.tw hT hw (by omega)
    refine s72_42 hP h0 h1 ⟨⟨by omega, by omega⟩, by rw [hs.2.2.2.2]; constructor <;> omega, fun c => absurd c (by omega), fun _ => ⟨⟨by omega, by omega⟩, ⟨by omega, by omega⟩, 0, hd, k6 hP (cX_ob h0 (by omega) (by omega)) (cX_ob h1 (by omega) (by omega)) (by omega) fun G hG k1 e1 _ => ?_⟩⟩
    refine ih (k + 1) G hG (by omega) (hK.trans fun p i h => k1 p i (by omega)) (by rw [k1 o0 _ (by omega), k1 o0 _ (by omega), k1 o0 _ (by omega), k1 o0 _ (by omega), k1 o0 _ (by omega)]; exact hs) fun x a b => ?_
    by_cases hq : x = k
    · subst hq
      have := w.2.1 k (by omega) (by omega)
      unfold cCr cX at *
      rw [e1 0 (by omega) (by omega), e1 1 (by omega) (by omega), e1 2 (by omega) (by omega), e1 3 (by omega) (by omega), e1 4 (by omega) (by omega), e1 5 (by omega) (by omega), e1 6 (by omega) (by omega)]
      exact this
    · have := hx x a (by omega)
      unfold cCr cX at *
      have fx : ∀ i, G (o0 + 1 + 6 + x.toNat) i = F (o0 + 1 + 6 + x.toNat) i := fun i => k1 _ i (by omega)
      rw [fx, fx, fx, fx, fx, fx, fx]
      exact this
theorem k72 {Q : XF → Prop} (hP : xPT F) (hd : 0 < d) (h0 : xob 9 o0) (h1 : xob 9 o1) (hT : mT T) (hdis : o0 + 17 ≤ o1 ∨ o1 + 17 ≤ o0) (hw : cTw F o1 T) (q : ∀ G, xPT G → cK o0 17 F G → cTw G o0 T → Q G) : xMV X d 72 [.ref o0, .ref o1] F Q := by
  have h4 := hT.2.2.2.2.1
  have hne : ¬ o1 = o0 := by omega
  have a := hw.1
  refine m72 hP h0 h1 fun hG => l72 F hd h0 h1 hT hdis hw q (T 4).toNat 0 _ hG (by omega) (fun p i h => ?_) ?_ (fun x p r => by omega)
  · rw [xup_o (by omega), xup_o (by omega), xup_o (by omega), xup_o (by omega), xup_o (by omega)]
  · refine ⟨?_, ?_, ?_, ?_, ?_⟩
    · rw [xup_i (by decide), xup_i (by decide), xup_i (by decide), xup_i (by decide), xup_s]; exact a.1
    · rw [xup_i (by decide), xup_i (by decide), xup_i (by decide), xup_s, xup_o hne]; exact a.2.1
    · rw [xup_i (by decide), xup_i (by decide), xup_s, xup_o hne, xup_o hne]; exact a.2.2.1
    · rw [xup_i (by decide), xup_s, xup_o hne, xup_o hne, xup_o hne]; exact a.2.2.2.1
    · rw [xup_s, xup_o hne, xup_o hne, xup_o hne, xup_o hne]; exact a.2.2.2.2.1
end TAKE
/-! sections at s -/
def cSA (T : Int → Int) (k : Nat) (F : XF) (s : Nat) : Prop := F s 0 = mL T k 0 0 ∧ (∀ c : Int, 0 ≤ c → c < k → F (s + 4) c = mL T k 1 c) ∧ (∀ x, 0 ≤ x → x < mL T k 0 0 → F (s + 1) x = mL T k 2 x ∧ F (s + 2) x = mL T k 3 x ∧ F (s + 3) x = mL T k 4 x)
def cNd (T : Int → Int) (F : XF) (s : Nat) : Prop := ∀ e x, 0 ≤ e → e < mS T 0 0 → 0 ≤ x → x < T 4 → F (s + 5) (e * 10 + x) = mNeed T (mS T 4 e) x
theorem mS_b {T : Int → Int} (hT : mT T) : (0 ≤ mS T 0 0 ∧ mS T 0 0 ≤ T 5) ∧ (0 < T 5 → 1 ≤ mS T 0 0) ∧ (∀ c, 0 ≤ c → c < T 5 → 0 ≤ mS T 1 c ∧ mS T 1 c < mS T 0 0) ∧ (∀ s, 0 ≤ s → s < mS T 0 0 → 0 ≤ mS T 2 s ∧ mS T 2 s < T 5 ∧ 0 ≤ mS T 3 s ∧ mS T 3 s < T 5 ∧ 1 ≤ mS T 4 s ∧ mS T 4 s ≤ 2400) := by
  have h5 := hT.2.2.2.2.2.1
  have b := mL_b (T := T) hT (T 5).toNat (by omega)
  unfold mS
  refine ⟨by omega, fun h => b.2.1 (by omega), fun c p q => b.2.2.1 c p (by omega), fun s p q => ?_⟩
  have := b.2.2.2 s p q
  omega
section SEC
variable {T : Int → Int} {s t : Nat}
theorem l65 {Q : XF → Prop} (F0 : XF) (hs : xob 7 s) (ht : xob 9 t) (hT : mT T) (hdis : s + 6 ≤ t ∨ t + 17 ≤ s) (hw : cTw F0 t T) (q : ∀ G w, xPT G → cK s 6 F0 G → cSA T (T 5).toNat G s → xW X d 65 137 [.ref s, .ref t, vi 0, w] [] G (xqv Q)) : ∀ (n k : Nat) (F : XF) (w : Value), xPT F → (k : Int) + n = T 5 → cK s 6 F0 F → cSA T k F s → xW X d 65 7 [.ref s, .ref t, vi k, w] [] F (xqv Q) := by
  have hT' := hT
  obtain ⟨_, _, h2, _, _, h5, _, _, _, _, hl, hsp, _⟩ := hT'
  intro n
  induction n with
  | zero =>
    intro k F w hP hk hK hS
    have e6 : F t 6 = T 5 := by rw [hK t 6 (by omega)]; exact hw.1.2.2.2.2.2.1
    refine s65_7 hP hs ht ⟨⟨by omega, by omega⟩, by rw [e6]; constructor <;> omega, fun _ _ => q F w hP hK ?_, fun c => absurd (by omega) c⟩
    rw [show (T 5).toNat = k by omega]
    exact hS
  | succ n ih =>
    intro k F w hP hk hK hS
    have tw := hK.tw hT hw (by omega)
    have e6 := tw.1.2.2.2.2.2.1
    have e2 := tw.1.2.2.1
    have es := tw.2.2.1 k (by omega) (by omega)
    have b := mL_b (T := T) hT k (by omega)
    obtain ⟨s1, s2, s3⟩ := hS
    have lead : (k = 0 ∨ T (108 + (k : Int) - 1) = 1) → ∀ w, xW X d 65 32 [.ref s, .ref t, vi k, w] [] F (xqv Q) := by
      intro hc w
      refine s65_32 hP hs ht ?_
      rw [s1, xup_o (show ¬ t + 2 = s + 1 by omega), es]
      refine ⟨⟨by omega, by omega⟩, ⟨by omega, by omega⟩, ⟨by omega, by omega⟩, fun hG => ?_⟩
      refine s65_105 hG hs ht ?_
      rw [xup_s]
      refine ⟨⟨by omega, by omega⟩, ⟨by omega, by omega⟩, fun hG2 => ih (k + 1) _ _ hG2 (by omega) (((((hK.up (by omega)).up (by omega)).up (by omega)).up (by omega)).up (by omega)) ?_⟩
      unfold cSA
      simp only [mL, if_pos hc]
      refine ⟨?_, fun c a b => ?_, fun x a b => ?_⟩
      · rw [xup_o (by omega), xup_o (by omega), xup_s]
      · by_cases hq : c = k
        · rw [if_pos hq, hq, xup_s]; omega
        · rw [if_neg hq, xup_i hq, xup_o (by omega), xup_o (by omega), xup_o (by omega), xup_o (by omega)]
          exact s2 c a (by omega)
      · by_cases hq : x = mL T k 0 0
        · rw [if_pos hq, if_pos hq, if_pos hq, hq]
          refine ⟨?_, ?_, ?_⟩
          · rw [xup_o (by omega), xup_o (by omega), xup_o (by omega), xup_o (by omega), xup_s]
          · rw [xup_o (by omega), show mL T k 0 0 + 1 - 1 = mL T k 0 0 by omega, xup_s]
          · rw [xup_o (by omega), xup_o (by omega), xup_o (by omega), xup_s]
        · rw [if_neg hq, if_neg hq, if_neg hq]
          have := s3 x a (by omega)
          refine ⟨?_, ?_, ?_⟩
          · rw [xup_o (by omega), xup_o (by omega), xup_o (by omega), xup_o (by omega), xup_i hq]; exact this.1
          · rw [xup_o (by omega), xup_i (by omega), xup_o (by omega), xup_o (by omega), xup_o (by omega)]; exact this.2.1
          · rw [xup_o (by omega), xup_o (by omega), xup_o (by omega), xup_i hq, xup_o (by omega)]; exact this.2.2
    refine s65_7 hP hs ht ⟨⟨by omega, by omega⟩, by rw [e6]; constructor <;> omega, fun c => absurd c (by omega), fun _ => ⟨⟨by omega, by omega⟩, fun c _ => lead (Or.inl (by omega)) w, fun c => ⟨xand_r, fun c1 => ?_, fun c1 _ => lead (Or.inr ?_) w⟩⟩⟩
    · have hb := tw.2.2.2.1 (k - 1) (by omega)
      rw [show 108 + ((k - 1 : Nat) : Int) = 108 + (k : Int) - 1 by omega] at hb
      have xb := xbit' (v := F t 8) (k := (k : Int) - 1) (by omega) (by omega)
      rw [show ((k : Int) - 1).toNat = k - 1 by omega] at xb
      have hc : ¬ (k = 0 ∨ T (108 + (k : Int) - 1) = 1) := by
        rintro (h | h)
        · omega
        · rw [xb] at c1
          by_cases hq : mbit (F t 8) (k - 1) = true
          · rw [if_pos hq] at c1; omega
          · rw [if_neg hq] at hb; omega
      have bk := b.2.1 (by omega)
      rw [s1, e2, es]
      refine ⟨⟨by omega, by omega⟩, ⟨by omega, by omega⟩, ⟨by omega, by omega⟩, fun hG => ?_⟩
      have f0 : xup F (s + 3) (mL T k 0 0 - 1) (F (s + 3) (mL T k 0 0 - 1) + (T 2 + T (78 + (k : Int)))) s 0 = mL T k 0 0 := by rw [xup_o (by omega)]; exact s1
      refine s65_105 hG hs ht ?_
      rw [f0]
      refine ⟨⟨by omega, by omega⟩, ⟨by omega, by omega⟩, fun hG2 => ih (k + 1) _ _ hG2 (by omega) (((hK.up (by omega)).up (by omega)).up (by omega)) ?_⟩
      unfold cSA
      simp only [mL, if_neg hc]
      refine ⟨?_, fun c a b => ?_, fun x a b => ?_⟩
      · rw [xup_o (by omega), xup_o (by omega), xup_o (by omega)]; exact s1
      · by_cases hq : c = k
        · rw [if_pos hq, hq, xup_s]
        · rw [if_neg hq, xup_i hq, xup_o (by omega), xup_o (by omega)]
          exact s2 c a (by omega)
      · have := s3 x a (by omega)
        refine ⟨?_, ?_, ?_⟩
        · rw [xup_o (by omega), xup_o (by omega), xup_o (by omega)]; exact this.1
        · by_cases hq : x = mL T k 0 0 - 1
          · rw [if_pos hq, hq, xup_o (by omega), xup_s]
          · rw [if_neg hq, xup_o (by omega), xup_i hq, xup_o (by omega)]; exact this.2.1
        · by_cases hq : x = mL T k 0 0 - 1
          · rw [if_pos hq, xup_o (by omega), xup_o (by omega)]
            subst hq
            rw [xup_s, this.2.2]; omega
          · rw [if_neg hq, xup_o (by omega), xup_o (by omega), xup_i hq]; exact this.2.2
    · have hb := tw.2.2.2.1 (k - 1) (by omega)
      rw [show 108 + ((k - 1 : Nat) : Int) = 108 + (k : Int) - 1 by omega] at hb
      have xb := xbit' (v := F t 8) (k := (k : Int) - 1) (by omega) (by omega)
      rw [show ((k : Int) - 1).toNat = k - 1 by omega] at xb
      rw [xb] at c1
      by_cases hq : mbit (F t 8) (k - 1) = true
      · rw [if_pos hq] at hb; exact hb
      · rw [if_neg hq] at c1; omega
theorem l65b {Q : XF → Prop} (F0 : XF) (hd : 0 < d) (hs : xob 7 s) (ht : xob 9 t) (hT : mT T) (hdis : s + 6 ≤ t ∨ t + 17 ≤ s) (hw : cTw F0 t T) (q : ∀ G, xPT G → cK s 6 F0 G → cSA T (T 5).toNat G s → cNd T G s → Q G) : ∀ (n k : Nat) (F : XF) (w : Value), xPT F → (k : Int) + n = mS T 0 0 → cK s 6 F0 F → cSA T (T 5).toNat F s → (∀ e x : Int, 0 ≤ e → e < k → 0 ≤ x → x < T 4 → F (s + 5) (e * 10 + x) = mNeed T (mS T 4 e) x) → xW X d 65 137 [.ref s, .ref t, vi k, w] [] F (xqv Q) := by
  have hT' := hT
  obtain ⟨_, h1, _, _, h4, h5, _, _, hX, _⟩ := hT'
  have b := mS_b hT
  intro n
  induction n with
  | zero =>
    intro k F w hP hk hK hS hN
    have s1 : F s 0 = mS T 0 0 := hS.1
    exact s65_137 hP hs ht ⟨⟨by omega, by omega⟩, by rw [s1]; constructor <;> omega, fun _ _ => q F hP hK hS fun e x a b => hN e x a (by omega), fun c => absurd (by omega) c⟩
  | succ n ih =>
    intro k F w hP hk hK hS hN
    have s1 : F s 0 = mS T 0 0 := hS.1
    refine s65_137 hP hs ht ⟨⟨by omega, by omega⟩, by rw [s1]; constructor <;> omega, fun c => absurd c (by omega), fun _ _ => ?_⟩
    have inner : ∀ (m i : Nat) (F : XF), xPT F → (i : Int) + m = T 4 → cK s 6 F0 F → cSA T (T 5).toNat F s → (∀ e x : Int, 0 ≤ e → e < k → 0 ≤ x → x < T 4 → F (s + 5) (e * 10 + x) = mNeed T (mS T 4 e) x) → (∀ x : Int, 0 ≤ x → x < i → F (s + 5) ((k : Int) * 10 + x) = mNeed T (mS T 4 k) x) → xW X d 65 147 [.ref s, .ref t, vi k, vi i] [] F (xqv Q) := by
      intro m
      induction m with
      | zero =>
        intro i F hP hi hK hS hN hM
        have e4 : F t 4 = T 4 := by rw [hK t 4 (by omega)]; exact hw.1.2.2.2.2.1
        refine s65_147 hP hs ht ⟨⟨by omega, by omega⟩, by rw [e4]; constructor <;> omega, fun _ _ => ih (k + 1) F _ hP (by omega) hK hS fun e x a b p q => ?_, fun c => absurd (by omega) c⟩
        by_cases hq : e = k
        · subst hq; exact hM x p (by omega)
        · exact hN e x a (by omega) p q
      | succ m ihm =>
        intro i F hP hi hK hS hN hM
        have tw := hK.tw hT hw (by omega)
        have e4 := tw.1.2.2.2.2.1
        have ex : F (s + 3) k = mS T 4 k := (hS.2.2 k (by omega) (show (k : Int) < mS T 0 0 by omega)).2.2
        have eb := b.2.2.2 k (by omega) (by omega)
        refine s65_147 hP hs ht ⟨⟨by omega, by omega⟩, by rw [e4]; constructor <;> omega, fun c => absurd c (by omega), fun _ => ⟨⟨by omega, by omega⟩, 0, hd, ?_⟩⟩
        rw [ex]
        refine k76 hP ht hT tw (by omega) (by omega) ⟨⟨by omega, by omega⟩, fun hG => ihm (i + 1) _ hG (by omega) (hK.up (by omega)) ?_ (fun e x a b p q => ?_) (fun x a b => ?_)⟩
        · refine ⟨by rw [xup_o (by omega)]; exact hS.1, fun c p q => by rw [xup_o (by omega)]; exact hS.2.1 c p q, fun x p q => by rw [xup_o (by omega), xup_o (by omega), xup_o (by omega)]; exact hS.2.2 x p q⟩
        · rw [xup_i (by omega)]; exact hN e x a b p q
        · by_cases hq : x = i
          · rw [hq, xup_s]
          · rw [xup_i (by omega)]; exact hM x a (by omega)
    exact inner (T 4).toNat 0 F hP (by omega) hK hS hN (fun x a b => by omega)
theorem k65 {Q : XF → Prop} (hP : xPT F) (hd : 0 < d) (hs : xob 7 s) (ht : xob 9 t) (hT : mT T) (hdis : s + 6 ≤ t ∨ t + 17 ≤ s) (hw : cTw F t T) (q : ∀ G, xPT G → cK s 6 F G → cSA T (T 5).toNat G s → cNd T G s → Q G) : xMV X d 65 [.ref s, .ref t] F Q := by
  have h5 := hT.2.2.2.2.2.1
  have b := mS_b hT
  refine m65 hP hs ht fun hG => l65 F hs ht hT hdis hw (fun G w hG kG sG => l65b F hd hs ht hT hdis hw q (mS T 0 0).toNat 0 G w hG (by omega) kG sG (fun e x a b => by omega)) (T 5).toNat 0 _ _ hG (by omega) (cK.refl.up (by omega)) ⟨by rw [xup_s]; rfl, fun c a b => by omega, fun x a b => by simp [mL] at b; omega⟩
theorem k66 {e x : Int} {Q : Int → XF → Prop} (hP : xPT F) (hs : xob 7 s) (hT : mT T) (hN : cNd T F s) (he : 0 ≤ e ∧ e < mS T 0 0) (hx : 0 ≤ x ∧ x < T 4) (q : Q (mNeed T (mS T 4 e) x) F) : xMI X d 66 [.ref s, vi e, vi x] F Q := by
  have h4 := hT.2.2.2.2.1
  have h5 := hT.2.2.2.2.2.1
  have b := mS_b hT
  refine m66 hP hs ⟨⟨by omega, by omega⟩, fun _ => ?_⟩
  rw [hN e x he.1 he.2 hx.1 hx.2]
  exact q
end SEC
end CL2
