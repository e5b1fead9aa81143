section REF16
variable {X : List Int32} {d : Nat} {F : XF}
def mBk (T : Int → Int) (k : Int) : Prop := 0 ≤ T (142 + 3 * k) ∧ T (142 + 3 * k) < T 5 ∧ 0 ≤ T (142 + 3 * k + 1) ∧ T (142 + 3 * k + 1) ≤ 1999 ∧ 1 ≤ T (142 + 3 * k + 2) ∧ T (142 + 3 * k + 2) ≤ 500
theorem mT.chg {T T' : Int → Int} (h : mT T) (e : ∀ i, (i = 0 ∨ i = 2 ∨ i = 4 ∨ i = 5 ∨ i = 6 ∨ (8 ≤ i ∧ i < 108) ∨ (138 ≤ i ∧ i < 142)) → T' i = T i) (h1 : 1 ≤ T' 1 ∧ T' 1 ≤ 50) (h3 : 0 ≤ T' 3 ∧ T' 3 ≤ 999) (h7 : 0 ≤ T' 7 ∧ T' 7 ≤ 7) (hs : ∀ c, 0 ≤ c → c < 30 → T' (108 + c) = 0 ∨ T' (108 + c) = 1) (hb : ∀ k, 0 ≤ k → k < T' 7 → mBk T' k) : mT T' := by
  obtain ⟨g0, _, g2, _, g4, g5, g6, _, gX, gO, gl, _, gg, _⟩ := h
  have e0 := e 0 (by omega)
  have e4 := e 4 (by omega)
  have e5 := e 5 (by omega)
  have e6 := e 6 (by omega)
  refine ⟨by rw [e0]; exact g0, h1, by rw [e 2 (by omega)]; exact g2, h3, by rw [e4]; exact g4, by rw [e5]; exact g5, by rw [e6]; exact g6, h7, fun x a b => ?_, fun x y a b c => ?_, fun c a b => ?_, hs, fun k a b => ?_, hb⟩
  · rw [e4] at b
    have := gX x a b
    unfold mX at this ⊢
    rw [e0, e (8 + 7 * x) (by omega), e (8 + 7 * x + 1) (by omega), e (8 + 7 * x + 2) (by omega), e (8 + 7 * x + 3) (by omega), e (8 + 7 * x + 4) (by omega), e (8 + 7 * x + 5) (by omega), e (8 + 7 * x + 6) (by omega)]
    exact this
  · rw [e4] at c
    rw [e (8 + 7 * x) (by omega), e (8 + 7 * x + 1) (by omega), e (8 + 7 * y) (by omega)]
    exact gO x y a b c
  · rw [e5] at b
    rw [e (78 + c) (by omega)]
    exact gl c a b
  · rw [e6] at b
    rw [e (138 + k) (by omega), e0]
    exact gg k a b
theorem mT.bk {T : Int → Int} (h : mT T) : ∀ k, 0 ≤ k → k < T 7 → mBk T k := h.2.2.2.2.2.2.2.2.2.2.2.2.2
theorem mBk.of {T T' : Int → Int} {k : Int} (h : mBk T k) (e5 : T' 5 = T 5) (e : ∀ j, 0 ≤ j → j < 3 → T' (142 + 3 * k + j) = T (142 + 3 * k + j)) : mBk T' k := by
  have a := e 0 (by omega) (by omega)
  rw [Int.add_zero] at a
  unfold mBk at *
  rw [e5, a, e 1 (by omega) (by omega), e 2 (by omega) (by omega)]
  exact h
theorem mT_set {T : Int → Int} {i v : Int} (h : mT T) (hi : (i = 1 ∧ 1 ≤ v ∧ v ≤ 50) ∨ (i = 3 ∧ 0 ≤ v ∧ v ≤ 999) ∨ (i = 7 ∧ 0 ≤ v ∧ v ≤ T 7) ∨ (108 ≤ i ∧ i < 138 ∧ (v = 0 ∨ v = 1))) : mT (mSet T i v) := by
  have hT := h
  obtain ⟨g0, g1, g2, g3, g4, g5, g6, g7, gX, gO, gl, gs, gg, gb⟩ := hT
  refine h.chg (fun j hj => mSet_n (by omega)) ?_ ?_ ?_ (fun c a b => ?_) fun k a b => ?_
  · by_cases q : i = 1
    · rw [q, mSet_s]; omega
    · rw [mSet_n (by omega)]; exact g1
  · by_cases q : i = 3
    · rw [q, mSet_s]; omega
    · rw [mSet_n (by omega)]; exact g3
  · by_cases q : i = 7
    · rw [q, mSet_s]; omega
    · rw [mSet_n (by omega)]; exact g7
  · by_cases q : i = 108 + c
    · rw [q, mSet_s]; omega
    · rw [mSet_n (by omega)]; exact gs c a b
  · have hk : k < T 7 := by
      by_cases q : i = 7
      · rw [q, mSet_s] at b; omega
      · rw [mSet_n (by omega)] at b; exact b
    exact (h.bk k a hk).of (mSet_n (by omega)) (fun j p q => mSet_n (by omega))
/-- one more is broken -/
def mBrT (T : Int → Int) (c t m : Int) : Int → Int := mSet (mSet (mSet (mSet T (142 + 3 * T 7) c) (142 + 3 * T 7 + 1) t) (142 + 3 * T 7 + 2) m) 7 (T 7 + 1)
theorem mBrT_o {T : Int → Int} {c t m i : Int} (h7 : 0 ≤ T 7) (h : ¬ i = 7) (h2 : i < 142 + 3 * T 7 ∨ 142 + 3 * T 7 + 2 < i) : mBrT T c t m i = T i := by
  unfold mBrT
  rw [mSet_n h, mSet_n (by omega), mSet_n (by omega), mSet_n (by omega)]
theorem mBrT_7 {T : Int → Int} {c t m : Int} : mBrT T c t m 7 = T 7 + 1 := mSet_s
theorem mBrT_0 {T : Int → Int} {c t m : Int} (h7 : 0 ≤ T 7) : mBrT T c t m (142 + 3 * T 7) = c ∧ mBrT T c t m (142 + 3 * T 7 + 1) = t ∧ mBrT T c t m (142 + 3 * T 7 + 2) = m := by
  unfold mBrT
  refine ⟨?_, ?_, ?_⟩
  · rw [mSet_n (by omega), mSet_n (by omega), mSet_n (by omega), mSet_s]
  · rw [mSet_n (by omega), mSet_n (by omega), mSet_s]
  · rw [mSet_n (by omega), mSet_s]
theorem mT_brt {T : Int → Int} {c t m : Int} (h : mT T) (h6 : T 7 ≤ 6) (hc : 0 ≤ c ∧ c < T 5) (ht : 0 ≤ t ∧ t ≤ 1999) (hm : 1 ≤ m ∧ m ≤ 500) : mT (mBrT T c t m) := by
  have hT := h
  obtain ⟨g0, g1, g2, g3, g4, g5, g6, g7, gX, gO, gl, gs, gg, gb⟩ := hT
  refine h.chg (fun j hj => mBrT_o g7.1 (by omega) (by omega)) ?_ ?_ ?_ (fun c a b => ?_) fun k a b => ?_
  · rw [mBrT_o g7.1 (by omega) (by omega)]; exact g1
  · rw [mBrT_o g7.1 (by omega) (by omega)]; exact g3
  · rw [mBrT_7]; omega
  · rw [mBrT_o g7.1 (by omega) (by omega)]; exact gs c a b
  · rw [mBrT_7] at b
    have e5 : mBrT T c t m 5 = T 5 := mBrT_o g7.1 (by omega) (by omega)
    by_cases q : k = T 7
    · subst q
      have z := mBrT_0 (c := c) (t := t) (m := m) g7.1
      unfold mBk
      rw [z.1, z.2.1, z.2.2, e5]
      omega
    · exact (h.bk k a (by omega)).of e5 fun j p q => mBrT_o g7.1 (by omega) (by omega)
/-- all but what is told, the acts and the run is as it was -/
def mKc (F G : XF) : Prop := (∀ p i, (p < 131 ∨ p = 133 ∨ p = 134 ∨ 141 < p) → G p i = F p i) ∧ (∀ i, ¬ i = 0 → ¬ i = 12 → ¬ i = 17 → ¬ i = 20 → ¬ i = 21 → ¬ i = 22 → G 131 i = F 131 i)
theorem mKc.trans {F G H : XF} (a : mKc F G) (b : mKc G H) : mKc F H := ⟨fun p i h => (b.1 p i h).trans (a.1 p i h), fun i h0 h1 h2 h3 h4 h5 => (b.2 i h0 h1 h2 h3 h4 h5).trans (a.2 i h0 h1 h2 h3 h4 h5)⟩
theorem mKr.c {F G : XF} (a : mKr F G) : mKc F G := ⟨fun p i h => a.1 p i (by omega), fun i h0 _ h2 h3 h4 h5 => a.2 i h0 h2 h3 h4 h5⟩
/-- what is told is kept behind the acts -/
def mPush (F G : XF) : Prop := (F 131 12 < 10 ∧ G 131 12 = F 131 12 + 1 ∧ (∀ j i, 0 ≤ j → j < F 131 12 → 0 ≤ i → i < 163 → G 135 (163 * j + i) = F 135 (163 * j + i)) ∧ (∀ i, 0 ≤ i → i < 163 → G 135 (163 * F 131 12 + i) = F 132 i)) ∨ (F 131 12 = 10 ∧ G 131 12 = 10 ∧ (∀ j i, 0 ≤ j → j < 9 → 0 ≤ i → i < 163 → G 135 (163 * j + i) = F 135 (163 * (j + 1) + i)) ∧ (∀ i, 0 ≤ i → i < 163 → G 135 (163 * 9 + i) = F 132 i))
theorem l153b {c : Int} {Q : XF → Prop} (F0 : XF) (hc : 0 ≤ c ∧ c < 10) (q : ∀ G, xPT G → (∀ p i, ¬ p = 135 → ¬ (p = 131 ∧ i = 12) → G p i = F0 p i) → G 131 12 = c + 1 → (∀ i, ¬ (163 * c ≤ i ∧ i < 163 * c + 163) → G 135 i = F0 135 i) → (∀ i, 0 ≤ i → i < 163 → G 135 (163 * c + i) = F0 132 i) → Q G) : ∀ (n k : Nat) (F : XF), xPT F → k + n = 163 → F 131 12 = c → (∀ p i, ¬ p = 135 → ¬ (p = 131 ∧ i = 12) → F p i = F0 p i) → (∀ i, ¬ (163 * c ≤ i ∧ i < 163 * c + 163) → F 135 i = F0 135 i) → (∀ i : Int, 0 ≤ i → i < k → F 135 (163 * c + i) = F0 132 i) → xW X d 153 52 [.ref 131, vi k] [] F (xqv Q) := by
  intro n
  induction n with
  | zero =>
    intro k F hP hk hF hK h1 h2
    refine s153_52 hP ⟨⟨by omega, by omega⟩, fun _ hG => q _ hG (fun p i a b => ?_) ?_ (fun i a => ?_) (fun i a b => ?_), fun c => absurd (by omega) c⟩
    · rw [xup_n (by omega)]; exact hK p i a b
    · rw [xup_s, hF]
    · rw [xup_o (by decide)]; exact h1 i a
    · rw [xup_o (by decide)]; exact h2 i a (by omega)
  | succ n ih =>
    intro k F hP hk hF hK h1 h2
    rw [← hF] at hc h1 h2
    refine s153_52 hP ⟨⟨by omega, by omega⟩, fun c => absurd c (by omega), fun _ => ⟨⟨by omega, by omega⟩, ⟨by omega, by omega⟩, fun hG => ih (k + 1) _ hG (by omega) ?_ (fun p i a b => ?_) (fun i a => ?_) (fun i a b => ?_)⟩⟩
    · rw [xup_o (by decide), hF]
    · rw [xup_n (by omega)]; exact hK p i a b
    · rw [xup_i (by omega)]; exact h1 i (by omega)
    · rw [← hF]
      by_cases hq : i = k
      · rw [hq, xup_s, hK 132 _ (by decide) (by omega)]
      · rw [xup_i (by omega)]; exact h2 i a (by omega)
theorem l153a {Q : XF → Prop} (F0 : XF) (q : ∀ G, xPT G → (∀ p i, ¬ p = 135 → ¬ (p = 131 ∧ i = 12) → G p i = F0 p i) → G 131 12 = F0 131 12 - 1 → (∀ i, 0 ≤ i → i < 1467 → G 135 i = F0 135 (i + 163)) → xW X d 153 52 [.ref 131, vi 0] [] G (xqv Q)) : ∀ (n k : Nat) (F : XF), xPT F → k + n = 1467 → (∀ p i, ¬ p = 135 → F p i = F0 p i) → (∀ i : Int, 0 ≤ i → i < k → F 135 i = F0 135 (i + 163)) → (∀ i : Int, k ≤ i → F 135 i = F0 135 i) → xW X d 153 11 [.ref 131, vi k] [] F (xqv Q) := by
  intro n
  induction n with
  | zero =>
    intro k F hP hk hK h1 h2
    refine s153_11 hP ⟨⟨by omega, by omega⟩, fun _ hG => q _ hG (fun p i a b => ?_) ?_ (fun i a b => ?_), fun c => absurd (by omega) c⟩
    · rw [xup_n (by omega)]; exact hK p i a
    · rw [xup_s, hK 131 12 (by decide)]
    · rw [xup_o (by decide)]; exact h1 i a (by omega)
  | succ n ih =>
    intro k F hP hk hK h1 h2
    refine s153_11 hP ⟨⟨by omega, by omega⟩, fun c => absurd c (by omega), fun _ => ⟨⟨by omega, by omega⟩, ⟨by omega, by omega⟩, fun hG => ih (k + 1) _ hG (by omega) (fun p i a => ?_) (fun i a b => ?_) (fun i a => ?_)⟩⟩
    · rw [xup_o a]; exact hK p i a
    · by_cases hq : i = k
      · rw [hq, xup_s, h2 _ (by omega)]
      · rw [xup_i hq]; exact h1 i a (by omega)
    · rw [xup_i (by omega)]; exact h2 i (by omega)
theorem p153 {Q : XF → Prop} (hP : xPT F) (hc : 0 ≤ F 131 12 ∧ F 131 12 ≤ 10) (q : ∀ G, xPT G → (∀ p i, ¬ p = 135 → ¬ (p = 131 ∧ i = 12) → G p i = F p i) → mPush F G → Q G) : xMV X d 153 [.ref 131] F Q := by
  refine m153 hP ⟨⟨by omega, by omega⟩, fun c hG => ?_, fun c hG => ?_⟩
  · refine l153b (c := F 131 12) F (by omega) (fun G hG k1 e1 k2 k3 => q G hG k1 (Or.inl ⟨by omega, e1, fun j i a b p r => k2 _ (by omega), k3⟩)) 163 0 F hG (by omega) rfl (fun _ _ _ _ => rfl) (fun _ _ => rfl) (fun i a b => by omega)
  · refine l153a F (fun G hG k1 e1 k2 => ?_) 1467 0 F hG (by omega) (fun _ _ _ => rfl) (fun i a b => by omega) (fun _ _ => rfl)
    refine l153b (c := 9) G (by omega) (fun H hH k3 e3 k4 k5 => q H hH (fun p i a b => (k3 p i a b).trans (k1 p i a b)) (Or.inr ⟨by omega, e3, fun j i a b p r => ?_, fun i a b => ?_⟩)) 163 0 G hG (by omega) (by omega) (fun _ _ _ _ => rfl) (fun _ _ => rfl) (fun i a b => by omega)
    · rw [k4 _ (by omega), k2 _ (by omega) (by omega)]; congr 1; omega
    · rw [k5 i a b, k1 132 i (by decide) (by omega)]
/-- an act: what is told is kept, then T' is told, and the run begins anew -/
def mAct (F : XF) (T' : Int → Int) (Q : XF → Prop) : Prop := ∀ G, xPT G → mKc F G → mPush F G → G 132 = T' → mNow G 0 → Q G
theorem mAct_of {T' : Int → Int} {Q : XF → Prop} (q : mAct F T' Q) (hT : mT T') (hd : 1 < d) {G H : XF} (hH : xPT H) (k1 : ∀ p i, ¬ p = 135 → ¬ (p = 131 ∧ i = 12) → G p i = xup F 131 0 0 p i) (hp : mPush (xup F 131 0 0) G) (k2 : ∀ p i, ¬ p = 132 → H p i = G p i) (e : H 132 = T') : xMV X d 170 [.ref 131, vi 0] H Q := by
  refine mNow_begin hH hd (by rw [e]; exact hT) fun K hK k3 n3 => q K hK ?_ ?_ (k3.t.trans e) n3
  · refine ⟨fun p i h => ?_, fun i h0 h1 h2 h3 h4 h5 => ?_⟩
    · rw [k3.1 p i (by omega), k2 p i (by omega), k1 p i (by omega) (by omega), xup_n (by omega)]
    · rw [k3.2 i h0 h2 h3 h4 h5, k2 131 i (by decide), k1 131 i (by decide) (by omega), xup_n (by omega)]
  · have e12 : xup F 131 0 0 131 12 = F 131 12 := xup_i (by decide)
    have e135 : ∀ i, xup F 131 0 0 135 i = F 135 i := fun i => xup_o (by decide)
    have e132 : ∀ i, xup F 131 0 0 132 i = F 132 i := fun i => xup_o (by decide)
    have g12 : K 131 12 = G 131 12 := by rw [k3.2 12 (by decide) (by decide) (by decide) (by decide) (by decide), k2 131 _ (by decide)]
    have g135 : ∀ i, K 135 i = G 135 i := fun i => by rw [k3.1 135 i (by omega), k2 135 i (by decide)]
    unfold mPush at *
    rw [e12] at hp
    simp only [e135, e132] at hp
    rw [g12]
    simp only [g135]
    exact hp
theorem p157 {t : Int} {Q : Int → XF → Prop} (hP : xPT F) (hd : 9 < d) (hT : mT (F 132)) (hc : 0 ≤ F 131 12 ∧ F 131 12 ≤ 10) (hS : mSA (F 132 5).toNat F) (ht : inR t) (q0 : ¬ (0 ≤ t ∧ t ≤ 999) → mQ F Q (-3)) (q1 : (0 ≤ t ∧ t ≤ 999) → mAct F (mSet (F 132) 3 t) (Q (F 132 3))) : xMI X d 157 [.ref 131, vi t] F Q := by
  refine m157 hP ⟨ht, 8, by omega, p132 (h0P hP) ⟨⟨by omega, by omega⟩, ⟨by omega, by omega⟩, ⟨by omega, by omega⟩⟩ fun y hy => ⟨hy.r, fun c => ?_, fun c hG => (q0 (hy.f (by omega))).z hS hG⟩⟩
  have g := hy.t c
  have e12 : xup F 131 0 0 131 12 = F 131 12 := xup_i (by decide)
  refine ⟨8, by omega, p153 (h0P hP) (by rw [e12]; exact hc) fun G hG k1 hp => ⟨8, by omega, ?_⟩⟩
  have e : G 132 = F 132 := funext fun i => by rw [k1 132 i (by decide) (by omega), xup_o (by decide)]
  have hH : xPT (xup G 132 3 t) := xPT_arr hG (by decide)
  refine mAct_of (T' := mSet (F 132) 3 t) (Q := fun K => xPT K → Q (G 132 3) K) (fun K hK a b c d _ => ?_) (mT_set hT (by omega)) (by omega) hH k1 hp (fun p i h => xup_o h) ?_
  · rw [e]; exact q1 g K hK a b c d
  · funext i
    unfold mSet
    by_cases hi : i = 3
    · rw [if_pos hi, hi, xup_s]
    · rw [if_neg hi, xup_i hi, e]
theorem xup_ms {G : XF} {T : Int → Int} {o : Nat} {i v : Int} (e : G o = T) : xup G o i v o = mSet T i v := by
  funext j
  unfold mSet
  by_cases hj : j = i
  · rw [if_pos hj, hj, xup_s]
  · rw [if_neg hj, xup_i hj, e]
theorem p156 {c : Int} {Q : Int → XF → Prop} (hP : xPT F) (hd : 9 < d) (hT : mT (F 132)) (hc : 0 ≤ F 131 12 ∧ F 131 12 ≤ 10) (hS : mSA (F 132 5).toNat F) (ht : inR c) (q0 : ¬ (0 ≤ c ∧ c ≤ F 132 5 - 2) → mQ F Q (-2)) (q1 : (0 ≤ c ∧ c ≤ F 132 5 - 2) → mAct F (mSet (F 132) (108 + c) (1 - F 132 (108 + c))) (Q (mS (mSet (F 132) (108 + c) (1 - F 132 (108 + c))) 0 0))) : xMI X d 156 [.ref 131, vi c] F Q := by
  have h5 := hT.2.2.2.2.2.1
  have hsp := hT.2.2.2.2.2.2.2.2.2.2.2.1
  refine m156 hP ⟨ht, 8, by omega, p154 (h0P hP) ⟨by rw [h0t]; constructor <;> omega, 8, by omega, p132 (h0P hP) ⟨⟨by omega, by omega⟩, ⟨by omega, by omega⟩, by rw [h0t]; exact ⟨by omega, by omega⟩⟩ fun y hy => ?_⟩⟩
  rw [h0t] at hy
  refine ⟨hy.r, fun c1 => ?_, fun c hG => (q0 (hy.f (by omega))).z hS hG⟩
  have g := hy.t c1
  have e12 : xup F 131 0 0 131 12 = F 131 12 := xup_i (by decide)
  refine ⟨8, by omega, p153 (h0P hP) (by rw [e12]; exact hc) fun G hG k1 hp => ⟨⟨by omega, by omega⟩, ⟨by omega, by omega⟩, 8, by omega, ?_⟩⟩
  have e : G 132 = F 132 := funext fun i => by rw [k1 132 i (by decide) (by omega), xup_o (by decide)]
  rw [e]
  refine mAct_of (F := F) (T' := mSet (F 132) (108 + c) (1 - F 132 (108 + c))) (Q := fun K => xPT K → Q (K 131 17) K) (fun K hK a b c d _ => ?_) (mT_set hT (Or.inr (Or.inr (Or.inr ⟨by omega, by omega, ?_⟩)))) (by omega) (xPT_arr hG (by decide)) k1 hp (fun p i h => xup_o h) (xup_ms e)
  · have := q1 g K hK a b c d
    have e17 := d.2.2.2.2.1
    rw [c] at e17
    rw [e17]
    exact this
  · have := hsp _ g.1 (by omega)
    omega
theorem p159 {t m : Int} {Q : Int → XF → Prop} (hP : xPT F) (hd : 0 < d) (ht : inR t) (hm : inR m) (q : ∀ y, mB y ((0 ≤ t ∧ t ≤ 1999) ∧ (1 ≤ m ∧ m ≤ 500)) → Q y F) : xMI X d 159 [vi t, vi m] F Q := by
  refine m159 hP ⟨ht, 0, hd, p132 hP ⟨⟨by omega, by omega⟩, ⟨by omega, by omega⟩, ⟨by omega, by omega⟩⟩ fun y hy => ⟨hy.r, fun c _ => q 0 (mB.i0 fun h => hy.f c h.1), fun c => ⟨hm, 0, hd, p132 hP ⟨⟨by omega, by omega⟩, ⟨by omega, by omega⟩, ⟨by omega, by omega⟩⟩ fun y2 hy2 => ⟨hy2.r, fun c2 _ => q 0 (mB.i0 fun h => hy2.f c2 h.2), fun c2 _ => q 1 (mB.i1 ⟨hy.t c, hy2.t c2⟩)⟩⟩⟩⟩
theorem p158 {c t m : Int} {Q : XF → Prop} (hP : xPT F) (h7 : 0 ≤ F 132 7 ∧ F 132 7 ≤ 6) (q : ∀ G, xPT G → (∀ p i, ¬ p = 132 → G p i = F p i) → G 132 = mBrT (F 132) c t m → Q G) : xMV X d 158 [.ref 131, vi c, vi t, vi m] F Q := by
  refine m158 hP ⟨⟨by omega, by omega⟩, ⟨by omega, by omega⟩, ⟨by omega, by omega⟩, fun hG => q _ hG (fun p i h => by rw [xup_o h, xup_o h, xup_o h, xup_o h]) ?_⟩
  rw [xup_ms (xup_ms (xup_ms (xup_ms rfl)))]
  unfold mBrT
  rw [xup_i (by omega), xup_i (by omega), xup_i (by omega)]
theorem p160 {c t m : Int} {Q : Int → XF → Prop} (hP : xPT F) (hd : 9 < d) (hT : mT (F 132)) (h6 : F 132 7 ≤ 6) (hc : 0 ≤ F 131 12 ∧ F 131 12 ≤ 10) (hS : mSA (F 132 5).toNat F) (ic : inR c) (it : inR t) (im : inR m) (q2 : ¬ (0 ≤ c ∧ c < F 132 5) → mQ F Q (-2)) (q3 : (0 ≤ c ∧ c < F 132 5) → ¬ ((0 ≤ t ∧ t ≤ 1999) ∧ (1 ≤ m ∧ m ≤ 500)) → mQ F Q (-3)) (q4 : (0 ≤ c ∧ c < F 132 5) → ((0 ≤ t ∧ t ≤ 1999) ∧ (1 ≤ m ∧ m ≤ 500)) → F 132 7 = 6 → mQ F Q (-4)) (q1 : (0 ≤ c ∧ c < F 132 5) → ((0 ≤ t ∧ t ≤ 1999) ∧ (1 ≤ m ∧ m ≤ 500)) → F 132 7 < 6 → mAct F (mBrT (F 132) c t m) (Q (F 132 7 + 1))) : xMI X d 160 [.ref 131, vi c, vi t, vi m] F Q := by
  have h5 := hT.2.2.2.2.2.1
  have h7 := hT.2.2.2.2.2.2.2.1
  refine m160 hP ⟨8, by omega, p155 (h0P hP) (by omega) ic (by rw [h0t]; exact h5) fun y hy => ?_⟩
  rw [h0t] at hy
  refine ⟨hy.r, fun c1 => ⟨8, by omega, p159 (h0P hP) (by omega) it im fun y2 hy2 => ⟨hy2.r, fun c2 => ?_, fun c2 hG => (q3 (hy.t c1) (hy2.f (by omega))).z hS hG⟩⟩, fun c1 hG => (q2 (hy.f (by omega))).z hS hG⟩
  have g := hy.t c1
  have g2 := hy2.t c2
  rw [h0t]
  refine ⟨⟨by omega, by omega⟩, fun c3 => ?_, fun c3 hG => (q4 g g2 (by omega)).z hS hG⟩
  have e12 : xup F 131 0 0 131 12 = F 131 12 := xup_i (by decide)
  refine ⟨8, by omega, p153 (h0P hP) (by rw [e12]; exact hc) fun G hG k1 hp => ⟨8, by omega, ?_⟩⟩
  have e : G 132 = F 132 := funext fun i => by rw [k1 132 i (by decide) (by omega), xup_o (by decide)]
  refine p158 hG (by rw [e]; omega) fun H hH k2 e2 => ⟨8, by omega, ?_⟩
  rw [e] at e2
  refine mAct_of (F := F) (T' := mBrT (F 132) c t m) (Q := fun K => xPT K → Q (K 132 7) K) (fun K hK a b c d _ => ?_) (mT_brt hT (by omega) g g2.1 g2.2) (by omega) hH k1 hp k2 e2
  have := q1 g g2 (by omega) K hK a b c d
  rw [c, mBrT_7]
  exact this
theorem p161 {Q : Int → XF → Prop} (hP : xPT F) (hd : 9 < d) (hT : mT (F 132)) (hc : 0 ≤ F 131 12 ∧ F 131 12 ≤ 10) (hS : mSA (F 132 5).toNat F) (q0 : F 132 7 = 0 → mQ F Q (-5)) (q1 : 0 < F 132 7 → mAct F (mSet (F 132) 7 (F 132 7 - 1)) (Q (F 132 7 - 1))) : xMI X d 161 [.ref 131] F Q := by
  have h7 := hT.2.2.2.2.2.2.2.1
  refine m161 hP ⟨⟨by omega, by omega⟩, fun c => ?_, fun c hG => (q0 (by omega)).z hS hG⟩
  have e12 : xup F 131 0 0 131 12 = F 131 12 := xup_i (by decide)
  refine ⟨8, by omega, p153 (h0P hP) (by rw [e12]; exact hc) fun G hG k1 hp => ⟨8, by omega, ?_⟩⟩
  have e : G 132 = F 132 := funext fun i => by rw [k1 132 i (by decide) (by omega), xup_o (by decide)]
  rw [e]
  refine mAct_of (F := F) (T' := mSet (F 132) 7 (F 132 7 - 1)) (Q := fun K => xPT K → Q (K 132 7) K) (fun K hK a b c d _ => ?_) (mT_set hT (by omega)) (by omega) (xPT_arr hG (by decide)) k1 hp (fun p i h => xup_o h) (xup_ms e)
  have := q1 (by omega) K hK a b c d
  rw [c, mSet_s]
  exact this
/-- what was told ahead of the j-th act -/
def mSnap (F : XF) (j : Int) : Int → Int := fun i => if 0 ≤ i ∧ i < 163 then F 135 (163 * j + i) else F 132 i
theorem l162 {c : Int} {Q : Int → XF → Prop} (hd : 2 < d) (F0 : XF) (hc : 0 ≤ c ∧ c < 10) (hT : mT (mSnap F0 c)) (q : ∀ G, xPT G → (∀ p i, (p < 131 ∨ p = 133 ∨ p = 134 ∨ p = 135 ∨ 141 < p) → G p i = F0 p i) → (∀ i, ¬ i = 0 → ¬ i = 17 → ¬ i = 20 → ¬ i = 21 → ¬ i = 22 → G 131 i = F0 131 i) → G 132 = mSnap F0 c → mNow G 0 → Q c G) (h12 : F0 131 12 = c) : ∀ (n k : Nat) (F : XF), xPT F → k + n = 163 → (∀ p i, ¬ p = 132 → F p i = F0 p i) → (∀ i : Int, 0 ≤ i → i < k → F 132 i = F0 135 (163 * c + i)) → (∀ i : Int, ¬ (0 ≤ i ∧ i < k) → F 132 i = F0 132 i) → xW X d 162 27 [.ref 131, vi k] [] F (xqi Q) := by
  intro n
  induction n with
  | zero =>
    intro k F hP hk hK h1 h2
    have e : F 132 = mSnap F0 c := funext fun i => by
      unfold mSnap
      by_cases hi : 0 ≤ i ∧ i < 163
      · rw [if_pos hi]; exact h1 i hi.1 (by omega)
      · rw [if_neg hi]; exact h2 i (by omega)
    refine s162_27 hP ⟨⟨by omega, by omega⟩, fun _ => ⟨2, hd, mNow_begin hP (by omega) (by rw [e]; exact hT) fun G hG k1 n1 _ => ?_⟩, fun c => absurd (by omega) c⟩
    have := q G hG (fun p i h => by rw [k1.1 p i (by omega), hK p i (by omega)]) (fun i h0 h1 h2 h3 h4 => by rw [k1.2 i h0 h1 h2 h3 h4, hK 131 i (by decide)]) (k1.t.trans e) n1
    rw [k1.2 12 (by decide) (by decide) (by decide) (by decide) (by decide), hK 131 12 (by decide), h12]
    exact this
  | succ n ih =>
    intro k F hP hk hK h1 h2
    have e12 : F 131 12 = c := by rw [hK 131 12 (by decide), h12]
    refine s162_27 hP ⟨⟨by omega, by omega⟩, fun c => absurd c (by omega), fun _ => ⟨by rw [e12]; omega, ⟨by omega, by omega⟩, fun hG => ih (k + 1) _ hG (by omega) (fun p i h => ?_) (fun i a b => ?_) (fun i a => ?_)⟩⟩
    · rw [xup_o h]; exact hK p i h
    · by_cases hq : i = k
      · rw [hq, xup_s, e12, hK 135 _ (by decide)]
      · rw [xup_i hq]; exact h1 i a (by omega)
    · rw [xup_i (by omega)]; exact h2 i (by omega)
theorem p162 {Q : Int → XF → Prop} (hP : xPT F) (hd : 9 < d) (hc : 0 ≤ F 131 12 ∧ F 131 12 ≤ 10) (hS : mSA (F 132 5).toNat F) (hT : 0 < F 131 12 → mT (mSnap F (F 131 12 - 1))) (q0 : F 131 12 = 0 → mQ F Q (-5)) (q1 : 0 < F 131 12 → ∀ G, xPT G → mKc F G → G 131 12 = F 131 12 - 1 → G 135 = F 135 → G 132 = mSnap F (F 131 12 - 1) → mNow G 0 → Q (F 131 12 - 1) G) : xMI X d 162 [.ref 131] F Q := by
  refine m162 hP ⟨⟨by omega, by omega⟩, fun c hG => ?_, fun c hG => (q0 (by omega)).z hS hG⟩
  have es : mSnap (xup (xup F 131 0 0) 131 12 (F 131 12 - 1)) (F 131 12 - 1) = mSnap F (F 131 12 - 1) := by
    funext i
    unfold mSnap
    rw [xup_o (by decide), xup_o (by decide), xup_o (by decide), xup_o (by decide)]
  refine l162 (c := F 131 12 - 1) (by omega) (xup (xup F 131 0 0) 131 12 (F 131 12 - 1)) (by omega) (by rw [es]; exact hT (by omega)) (fun G hG k1 k2 e n => q1 (by omega) G hG ⟨fun p i h => ?_, fun i h0 h1 h2 h3 h4 h5 => ?_⟩ ?_ ?_ (e.trans es) n) xup_s 163 0 _ hG (by omega) (fun _ _ _ => rfl) (fun i a b => by omega) (fun _ _ => rfl)
  · rw [k1 p i (by omega), xup_n (by omega), xup_n (by omega)]
  · rw [k2 i h0 h2 h3 h4 h5, xup_n (by omega), xup_n (by omega)]
  · rw [k2 12 (by decide) (by decide) (by decide) (by decide) (by decide), xup_s]
  · funext i
    rw [k1 135 i (by omega), xup_o (by decide), xup_o (by decide)]
end REF16
