section CL4
variable {X : List Int32} {d : Nat} {F : XF}
theorem xob6 {r : Nat} (h : xob 6 r) : r = 42 ∨ r = 70 := by
  have : ∀ o, o < 146 → xkd0 o = 6 → o = 42 ∨ o = 70 := by decide +kernel
  exact this r h.1 h.2
theorem xob9 {t : Nat} (h : xob 9 t) : t = 1 ∨ t = 20 ∨ t = 105 := by
  have : ∀ o, o < 146 → xkd0 o = 9 → o = 1 ∨ o = 20 ∨ o = 105 := by decide +kernel
  exact this t h.1 h.2
abbrev cY (r : Nat) (x : Int) : Nat := r + 12 + 6 + x.toNat
theorem cY_ob {r : Nat} (h : xob 6 r) {x : Int} (h0 : 0 ≤ x) (h1 : x < 10) : xob 8 (cY r x) := by
  have a := xtg_6_11 r h.1 h.2
  exact xel16 (r + 12) a.1.1 a.1.2 x.toNat (by omega)
/-- the run r on the town t: fronts, sections, who entered and left, holders -/
def cCo (F : XF) (r t : Nat) (T R : Int → Int) : Prop := F r 0 = (t : Int) ∧ cSA T (T 5).toNat F (r + 1) ∧ cNd T F (r + 1) ∧ (∀ c, 0 ≤ c → c < T 5 → F (r + 7) c = R c) ∧ F r 3 = R 131 ∧ (∀ e, 0 ≤ e → e < mS T 0 0 → mNe T (R (mS T 2 e)) (F (r + 9) (mS T 2 e)) ∧ mNl T (R (mS T 3 e) - T (78 + mS T 3 e)) (F (r + 10) (mS T 3 e))) ∧ (∀ i, 0 ≤ i → i < T 4 → F (r + 11) i = mCn T (mS T) R i (mS T 0 0).toNat)
def cWh (F : XF) (r : Nat) (T R : Int → Int) : Prop := ∀ c, 0 ≤ c → c < T 5 → F (r + 8) c = R (30 + c)
def cSt (F : XF) (r : Nat) (T R : Int → Int) : Prop := ∀ x k, 0 ≤ x → x < T 4 → 0 ≤ k → k < 7 → F (cY r x) k = R (60 + 7 * x + k)
/-- the events: of the run that is told; the one aside keeps none -/
def cEv (F : XF) (r : Nat) (E : Int → Int) : Prop := (r = 42 → F (r + 13) 0 = E (-1) ∧ ∀ j, 0 ≤ j → j < E (-1) → F (r + 13 + 1) j = E (4 * j) ∧ F (r + 13 + 2) j = E (4 * j + 1) ∧ F (r + 13 + 3) j = E (4 * j + 2) ∧ F (r + 13 + 4) j = E (4 * j + 3)) ∧ (r = 70 → F (r + 13) 0 = 0)
theorem cCo.cars {r t : Nat} {T R : Int → Int} (h : cCo F r t T R) (hT : mT T) : F (r + 1) 0 = mS T 0 0 ∧ (∀ c, 0 ≤ c → c < T 5 → F (r + 1 + 4) c = mS T 1 c) ∧ (∀ e, 0 ≤ e → e < mS T 0 0 → F (r + 1 + 1) e = mS T 2 e ∧ F (r + 1 + 2) e = mS T 3 e ∧ F (r + 1 + 3) e = mS T 4 e) := by
  have h5 := hT.2.2.2.2.2.1
  exact ⟨h.2.1.1, fun c a b => h.2.1.2.1 c a (by omega), h.2.1.2.2⟩
theorem cCo.of {G : XF} {r t : Nat} {T R R' : Int → Int} (h : cCo F r t T R) (hT : mT T) (e : ∀ p i, ((p = r ∧ (i = 0 ∨ i = 3)) ∨ (r < p ∧ p ≤ r + 6) ∨ p = r + 7 ∨ p = r + 9 ∨ p = r + 10 ∨ p = r + 11) → G p i = F p i) (eR : ∀ i, (0 ≤ i ∧ i < 30) ∨ i = 131 → R' i = R i) : cCo G r t T R' := by
  have h5 := hT.2.2.2.2.2.1
  have sb := mS_b hT
  obtain ⟨a, b, c, f, g, k, l⟩ := h
  refine ⟨by rw [e r 0 (by omega)]; exact a, ⟨by rw [e _ _ (by omega)]; exact b.1, fun x p q => by rw [e _ _ (by omega)]; exact b.2.1 x p q, fun x p q => by rw [e _ _ (by omega), e _ _ (by omega), e _ _ (by omega)]; exact b.2.2 x p q⟩, fun x y p q u v => by rw [e _ _ (by omega)]; exact c x y p q u v, fun x p q => by rw [e _ _ (by omega), eR x (by omega)]; exact f x p q, by rw [e r 3 (by omega), eR 131 (by omega)]; exact g, fun x p q => ?_, fun x p q => ?_⟩
  · have := sb.2.2.2 x p q
    rw [e _ _ (by omega), e _ _ (by omega), eR _ (by omega), eR _ (by omega)]
    exact k x p q
  · rw [e _ _ (by omega), l x p q]
    have key : ∀ n : Nat, (n : Int) ≤ mS T 0 0 → mCn T (mS T) R x n = mCn T (mS T) R' x n := by
      intro n
      induction n with
      | zero => intro _; rfl
      | succ n ih =>
        intro hn
        have := sb.2.2.2 n (by omega) (by omega)
        unfold mCn
        rw [ih (by omega)]
        unfold mOn
        rw [eR (mS T 2 n) (by omega), eR (mS T 3 n) (by omega)]
    exact key _ (by omega)
section RUN
variable {T R : Int → Int} {r t : Nat} {Q : Int → XF → Prop}
theorem k49 {c : Int} (hP : xPT F) (hr : xob 6 r) (ht : xob 9 t) (hT : mT T) (hw : cTw F t T) (h : cCo F r t T R) (hc : 0 ≤ c ∧ c < T 5) (q : Q (R c - T (78 + c)) F) : xMI X d 49 [.ref r, vi c] F Q := by
  have h5 := hT.2.2.2.2.2.1
  refine m49 hP hr ⟨by omega, t, h.1, ht, by omega, fun _ => ?_⟩
  rw [h.2.2.2.1 c hc.1 hc.2, hw.2.2.1 c hc.1 hc.2]
  exact q
theorem k50 {i : Int} (hP : xPT F) (hr : xob 6 r) (hT : mT T) (h : cCo F r t T R) (hi : 0 ≤ i ∧ i < T 4) (q : ∀ y, mB y (mHeld T (mS T) R i) → Q y F) : xMI X d 50 [.ref r, vi i] F Q := by
  have h4 := hT.2.2.2.2.1
  have h5 := hT.2.2.2.2.2.1
  have sb := (mS_b hT).1
  have e := h.2.2.2.2.2.2 i hi.1 hi.2
  have cb := mCn_b (T := T) (S := mS T) (R := R) (i := i) (mS T 0 0).toNat
  refine m50 hP hr ?_
  rw [e]
  refine ⟨by omega, ⟨by omega, by omega⟩, fun c _ => q 0 (mB.i0 fun z => ?_), fun c _ => q 1 (mB.i1 ((mCn_h hT).mp (by omega)))⟩
  have := (mCn_h hT).mpr z
  omega
theorem l51 {x : Int} (hP : xPT F) (hd : 0 < d) (hr : xob 6 r) (ht : xob 9 t) (hT : mT T) (hw : cTw F t T) (h : cCo F r t T R) (hJ : mJ T R) (hx : 0 ≤ x ∧ x < T 4) (q : Q (mHol T (mS T) R x) F) : ∀ (n k : Nat) (w : Value), (k : Int) + n = mS T 0 0 → (∀ e, 0 ≤ e → e < (k : Int) → ¬ mOn T R (mS T 2 e) (mS T 3 e) x) → xW X d 51 12 [.ref r, vi x, .ref (cX t x), vi k, w] [] F (xqi Q) := by
  have hT' := hT
  obtain ⟨h0, _, _, _, h4, h5, _, _, hX, _, hl, _⟩ := hT'
  have hXx := hX x hx.1 hx.2
  unfold mX at hXx
  have sb := mS_b hT
  have cr := h.cars hT
  have cx := hw.2.1 x hx.1 hx.2
  have fin : ∀ y, mFst (mS T 0 0) (fun s => mOn T R (mS T 2 s) (mS T 3 s) x) y → Q y F := fun y hy => by
    have := mFst_f hy
    unfold mHol at q
    rw [this]
    exact q
  intro n
  induction n with
  | zero =>
    intro k w hk hno
    refine s51_12 hP hr (cX_ob ht hx.1 (by omega)) ⟨⟨by omega, by omega⟩, by rw [cr.1]; constructor <;> omega, fun _ _ => fin (-1) (Or.inl ⟨rfl, fun e a b => hno e a (by omega)⟩), fun c => absurd (by omega) c⟩
  | succ n ih =>
    intro k w hk hno
    have sk := sb.2.2.2 k (by omega) (by omega)
    have ck := cr.2.2 k (by omega) (by omega)
    have j2 := hJ.fr hT (mS T 2 k) (by omega) (by omega)
    have j3 := hJ.fr hT (mS T 3 k) (by omega) (by omega)
    have l3 := hl (mS T 3 k) (by omega) (by omega)
    have next : ¬ mOn T R (mS T 2 k) (mS T 3 k) x → ∀ w, xW X d 51 12 [.ref r, vi x, .ref (cX t x), vi ((k : Int) + 1), w] [] F (xqi Q) := fun z w => by
      refine ih (k + 1) w (by omega) fun e a b => ?_
      by_cases hq : e = k
      · rw [hq]; exact z
      · exact hno e a (by omega)
    refine s51_12 hP hr (cX_ob ht hx.1 (by omega)) ⟨⟨by omega, by omega⟩, by rw [cr.1]; constructor <;> omega, fun c => absurd c (by omega), fun _ => ?_⟩
    rw [ck.1, ck.2.1, h.2.2.2.1 _ (show 0 ≤ mS T 2 k by omega) (by omega), cx.1]
    refine ⟨⟨by omega, by omega⟩, ⟨by omega, by omega⟩, ⟨by omega, by omega⟩, ⟨by omega, by omega⟩, fun c _ => next (fun z => by have := z.1; omega) _, fun c => ⟨⟨by omega, by omega⟩, 0, hd, k49 hP hr ht hT hw h (by omega) ?_⟩⟩
    rw [cx.2.1]
    refine ⟨⟨by omega, by omega⟩, ⟨by omega, by omega⟩, fun c1 _ => next (fun z => by have := z.2; omega) _, fun c1 _ => fin k (Or.inr ⟨by omega, by omega, ⟨by omega, by omega⟩, hno⟩)⟩
theorem k51 {x : Int} (hP : xPT F) (hd : 0 < d) (hr : xob 6 r) (ht : xob 9 t) (hT : mT T) (hw : cTw F t T) (h : cCo F r t T R) (hJ : mJ T R) (hx : 0 ≤ x ∧ x < T 4) (q : Q (mHol T (mS T) R x) F) : xMI X d 51 [.ref r, vi x] F Q := by
  have h4 := hT.2.2.2.2.1
  have sb := mS_b hT
  exact m51 hP hr ⟨t, h.1, ht, by omega, fun _ => l51 hP hd hr ht hT hw h hJ hx q (mS T 0 0).toNat 0 _ (by omega) (fun e a b => by omega)⟩
theorem l52 (hP : xPT F) (hr : xob 6 r) (ht : xob 9 t) (hT : mT T) (hw : cTw F t T) (h : F r 0 = (t : Int)) (hs : cSt F r T R) (q : Q (mWs R (T 4).toNat) F) : ∀ (n k : Nat), (k : Int) + n = T 4 → xW X d 52 4 [.ref r, vi (mWs R k), vi k] [] F (xqi Q) := by
  have h4 := hT.2.2.2.2.1
  have e4 := hw.1.2.2.2.2.1
  intro n
  induction n with
  | zero =>
    intro k hk
    rw [show (T 4).toNat = k by omega] at q
    exact s52_4 hP hr ⟨t, h, ht, ⟨by omega, by omega⟩, by rw [e4]; constructor <;> omega, fun _ _ => q, fun c => absurd (by omega) c⟩
  | succ n ih =>
    intro k hk
    refine s52_4 hP hr ⟨t, h, ht, ⟨by omega, by omega⟩, by rw [e4]; constructor <;> omega, fun c => absurd c (by omega), fun _ => ⟨⟨by omega, by omega⟩, fun _ => ?_⟩⟩
    have := ih (k + 1) (by omega)
    unfold mWs at this
    rw [← hs k 1 (by omega) (by omega) (by omega) (by omega)] at this
    exact this
theorem k52 (hP : xPT F) (hr : xob 6 r) (ht : xob 9 t) (hT : mT T) (hw : cTw F t T) (h : F r 0 = (t : Int)) (hs : cSt F r T R) (q : Q (mWs R (T 4).toNat) F) : xMI X d 52 [.ref r] F Q := by
  have h4 := hT.2.2.2.2.1
  exact m52 hP hr fun _ => l52 hP hr ht hT hw h hs q (T 4).toNat 0 (by omega)
end RUN
/-! a run begins -/
section BEG
variable {T : Int → Int} {r t : Nat} {Q : XF → Prop}
theorem l48b (F0 : XF) (hd : 0 < d) (hr : xob 6 r) (ht : xob 9 t) (hT : mT T) (hdis : t + 17 ≤ r ∨ r + 28 ≤ t) (hw : cTw F0 t T) (u : Int) (q : ∀ G, xPT G → (∀ p i, ¬ (p = r + 11 ∨ (r + 18 ≤ p ∧ p < r + 28)) → G p i = F0 p i) → (∀ i, 0 ≤ i → i < T 4 → G (r + 11) i = 0) → (∀ x k, 0 ≤ x → x < T 4 → 0 ≤ k → k < 7 → G (cY r x) k = 0) → Q G) : ∀ (n k : Nat) (F : XF), xPT F → (k : Int) + n = T 4 → (∀ p i, ¬ (p = r + 11 ∨ (r + 18 ≤ p ∧ p < r + 28)) → F p i = F0 p i) → (∀ i : Int, 0 ≤ i → i < k → F (r + 11) i = 0) → (∀ x j : Int, 0 ≤ x → x < k → 0 ≤ j → j < 7 → F (cY r x) j = 0) → xW X d 48 103 [.ref r, .ref t, vi u, vi k] [] F (xqv Q) := by
  have h4 := hT.2.2.2.2.1
  have e4 : ∀ G : XF, (∀ p i, ¬ (p = r + 11 ∨ (r + 18 ≤ p ∧ p < r + 28)) → G p i = F0 p i) → G t 4 = T 4 := fun G k => by rw [k t 4 (by omega)]; exact hw.1.2.2.2.2.1
  intro n
  induction n with
  | zero =>
    intro k F hP hk hK h1 h2
    exact s48_103 hP hr ht ⟨⟨by omega, by omega⟩, by rw [e4 F hK]; constructor <;> omega, fun _ _ => q F hP hK (fun i a b => h1 i a (by omega)) (fun x j a b => h2 x j a (by omega)), fun c => absurd (by rw [e4 F hK]; omega) c⟩
  | succ n ih =>
    intro k F hP hk hK h1 h2
    have hP1 : xPT (xup F (r + 11) k 0) := xPT_arr hP (Or.inl (xtg_6_10 r hr.1 hr.2).1.2)
    refine s48_103 hP hr ht ⟨⟨by omega, by omega⟩, by rw [e4 F hK]; constructor <;> omega, fun c => absurd c (by rw [e4 F hK]; omega), fun _ => ⟨⟨by omega, by omega⟩, ⟨by omega, by omega⟩, 0, hd, k68 hP1 (cY_ob hr (by omega) (by omega)) fun G hG k1 z1 _ => ih (k + 1) G hG (by omega) (fun p i hp => ?_) (fun i a b => ?_) (fun x j a b p q => ?_)⟩⟩
    · rw [k1 p i (by omega), xup_n (by omega)]; exact hK p i hp
    · rw [k1 _ _ (by omega)]
      by_cases hq : i = k
      · rw [hq, xup_s]
      · rw [xup_i hq]; exact h1 i a (by omega)
    · by_cases hq : x = k
      · subst hq; exact z1 j p q
      · show G (r + 12 + 6 + x.toNat) j = 0
        rw [k1 (r + 12 + 6 + x.toNat) j (by omega), xup_n (by omega)]
        exact h2 x j a (by omega) p q
theorem l48a (F0 : XF) (hr : xob 6 r) (ht : xob 9 t) (hT : mT T) (hdis : t + 17 ≤ r ∨ r + 28 ≤ t) (hw : cTw F0 t T) (q : ∀ G u, xPT G → (∀ p i, ¬ (r + 7 ≤ p ∧ p ≤ r + 10) → G p i = F0 p i) → (∀ c, 0 ≤ c → c < T 5 → G (r + 7) c = mBeg T c ∧ G (r + 8) c = -1 ∧ G (r + 9) c = 0 ∧ G (r + 10) c = 0) → xW X d 48 103 [.ref r, .ref t, vi u, vi 0] [] G (xqv Q)) : ∀ (n k : Nat) (F : XF), xPT F → (k : Int) + n = T 5 → (∀ p i, ¬ (r + 7 ≤ p ∧ p ≤ r + 10) → F p i = F0 p i) → (∀ c : Int, 0 ≤ c → c < k → F (r + 7) c = mBeg T c ∧ F (r + 8) c = -1 ∧ F (r + 9) c = 0 ∧ F (r + 10) c = 0) → xW X d 48 45 [.ref r, .ref t, vi (mF0 T k), vi k] [] F (xqv Q) := by
  have h5 := hT.2.2.2.2.2.1
  intro n
  induction n with
  | zero =>
    intro k F hP hk hK h1
    have e6 : F t 6 = T 5 := by rw [hK t 6 (by omega)]; exact hw.1.2.2.2.2.2.1
    exact s48_45 hP hr ht ⟨⟨by omega, by omega⟩, by rw [e6]; constructor <;> omega, fun _ _ => q F _ hP hK fun c a b => h1 c a (by omega), fun c => absurd (by omega) c⟩
  | succ n ih =>
    intro k F hP hk hK h1
    have e6 : F t 6 = T 5 := by rw [hK t 6 (by omega)]; exact hw.1.2.2.2.2.2.1
    have e2 : F t 2 = T 2 := by rw [hK t 2 (by omega)]; exact hw.1.2.2.1
    have es : F (t + 2) k = T (78 + k) := by rw [hK _ _ (by omega)]; exact hw.2.2.1 k (by omega) (by omega)
    refine s48_45 hP hr ht ⟨⟨by omega, by omega⟩, by rw [e6]; constructor <;> omega, fun c => absurd c (by omega), fun _ => ⟨⟨by omega, by omega⟩, ⟨by omega, by omega⟩, ⟨by omega, by omega⟩, ⟨by omega, by omega⟩, ⟨by omega, by omega⟩, fun hG => ?_⟩⟩
    rw [xup_o (show ¬ t + 2 = r + 7 by omega), xup_o (show ¬ t = r + 7 by omega), es, e2]
    have := ih (k + 1) _ hG (by omega) (fun p i hp => by rw [xup_o (by omega), xup_o (by omega), xup_o (by omega), xup_o (by omega)]; exact hK p i hp) (fun c a b => ?_)
    · rw [show mF0 T (k + 1) = mF0 T k - (T (78 + (k : Int)) + T 2) by show mF0 T k - T (78 + (k : Int)) - T 2 = _; omega] at this
      exact this
    · by_cases hq : c = k
      · subst hq
        refine ⟨?_, ?_, ?_, ?_⟩
        · rw [xup_o (by omega), xup_o (by omega), xup_o (by omega), xup_s, mBeg_at hT (by omega), Int.toNat_natCast]
        · rw [xup_o (by omega), xup_o (by omega), xup_s]
        · rw [xup_o (by omega), xup_s]
        · rw [xup_s]
      · have := h1 c a (by omega)
        refine ⟨?_, ?_, ?_, ?_⟩
        · rw [xup_o (by omega), xup_o (by omega), xup_o (by omega), xup_i hq]; exact this.1
        · rw [xup_o (by omega), xup_o (by omega), xup_i hq, xup_o (by omega)]; exact this.2.1
        · rw [xup_o (by omega), xup_i hq, xup_o (by omega), xup_o (by omega)]; exact this.2.2.1
        · rw [xup_i hq, xup_o (by omega), xup_o (by omega), xup_o (by omega)]; exact this.2.2.2
theorem mBeg_le {T : Int → Int} (hT : mT T) {c : Int} (h : 0 ≤ c ∧ c < T 5) : mBeg T c ≤ 0 := by
  rw [mBeg_at hT h]
  exact (mF0_b hT c.toNat (by omega)).2
theorem k48 (hP : xPT F) (hd : 1 < d) (hr : xob 6 r) (ht : xob 9 t) (hT : mT T) (hdis : t + 17 ≤ r ∨ r + 28 ≤ t) (hw : cTw F t T) (q : ∀ G, xPT G → cK r 28 F G → cCo G r t T (mRun T 0) → cWh G r T (mRun T 0) → cSt G r T (mRun T 0) → G r 2 = 0 → G r 4 = 0 → G r 5 = 0 → cEv G r (mEvs T 0) → Q G) : xMV X d 48 [.ref r, .ref t] F Q := by
  have hT' := hT
  obtain ⟨h0, _, _, _, h4, h5, _, _, hX, _, hl, _⟩ := hT'
  have sb := mS_b hT
  have hs := xtg_6_1 r hr.1 hr.2
  have hP0 : xPT (xup F r 0 t) := xPT_fld (k := 0) hP hr (by decide) (by decide)
  have w0 : cTw (xup F r 0 t) t T := hw.of hT fun p i hp => xup_o (by omega)
  refine m48 hP hr ht ⟨1, hd, k65 hP0 (by omega) hs ht hT (by omega) w0 fun G1 hG1 k1 s1 n1 hG2 => ?_⟩
  have k2 : cK r 28 F (xup (xup (xup (xup (xup G1 r 2 0) r 3 0) r 4 0) r 5 0) (r + 13) 0 0) := (((((((cK.refl.up (i := 0) (v := t) (show r ≤ r ∧ r < r + 28 by omega)).trans (k1.sub (by omega))).up (by omega)).up (by omega)).up (by omega)).up (by omega)).up (by omega))
  have o2 : ∀ p i, ¬ (p = r ∧ (i = 2 ∨ i = 3 ∨ i = 4 ∨ i = 5)) → ¬ (p = r + 13 ∧ i = 0) → xup (xup (xup (xup (xup G1 r 2 0) r 3 0) r 4 0) r 5 0) (r + 13) 0 0 p i = G1 p i := fun p i a b => by rw [xup_n (by omega), xup_n (by omega), xup_n (by omega), xup_n (by omega), xup_n (by omega)]
  have w2 : cTw (xup (xup (xup (xup (xup G1 r 2 0) r 3 0) r 4 0) r 5 0) (r + 13) 0 0) t T := k2.tw hT hw (by omega)
  refine l48a (xup (xup (xup (xup (xup G1 r 2 0) r 3 0) r 4 0) r 5 0) (r + 13) 0 0) hr ht hT hdis w2 (fun G3 u hG3 k3 f3 => ?_) (T 5).toNat 0 _ hG2 (by omega) (fun _ _ _ => rfl) (fun c a b => by omega)
  have w3 : cTw G3 t T := w2.of hT fun p i hp => k3 p i (by omega)
  refine l48b G3 (by omega) hr ht hT hdis w3 u (fun G hG k4 z4 z5 => ?_) (T 4).toNat 0 G3 hG3 (by omega) (fun _ _ _ => rfl) (fun i a b => by omega) (fun x j a b => by omega)
  have kk : cK r 28 F G := k2.trans fun p i hp => by rw [k4 p i (by omega), k3 p i (by omega)]
  have g : ∀ p i, ¬ (p = r + 11 ∨ (r + 18 ≤ p ∧ p < r + 28)) → ¬ (r + 7 ≤ p ∧ p ≤ r + 10) → G p i = xup (xup (xup (xup (xup G1 r 2 0) r 3 0) r 4 0) r 5 0) (r + 13) 0 0 p i := fun p i a b => by rw [k4 p i a, k3 p i b]
  have f4 : ∀ c, 0 ≤ c → c < T 5 → G (r + 7) c = mBeg T c ∧ G (r + 8) c = -1 ∧ G (r + 9) c = 0 ∧ G (r + 10) c = 0 := fun c a b => by
    rw [k4 _ _ (by omega), k4 _ _ (by omega), k4 _ _ (by omega), k4 _ _ (by omega)]; exact f3 c a b
  have gs : ∀ p i, (r < p ∧ p ≤ r + 6) → G p i = G1 p i := fun p i hp => by rw [g p i (by omega) (by omega), o2 p i (by omega) (by omega)]
  refine q G hG kk ⟨?_, ⟨by rw [gs _ _ (by omega)]; exact s1.1, fun c a b => by rw [gs _ _ (by omega)]; exact s1.2.1 c a b, fun x a b => by rw [gs _ _ (by omega), gs _ _ (by omega), gs _ _ (by omega)]; exact s1.2.2 x a b⟩, fun e x a b p q => by rw [gs _ _ (by omega)]; exact n1 e x a b p q, fun c a b => (f4 c a b).1, ?_, fun e a b => ?_, fun i a b => ?_⟩ (fun c a b => ?_) (fun x k a b p q => ?_) ?_ ?_ ?_ ?_
  · rw [g r 0 (by omega) (by omega), o2 r 0 (by omega) (by omega), k1 r 0 (by omega), xup_s]
  · rw [g r 3 (by omega) (by omega), xup_o (by omega), xup_i (by decide), xup_i (by decide), xup_s]
    exact (mBeg_o hT (by omega)).symm
  · have s := sb.2.2.2 e a b
    rw [(f4 (mS T 2 e) (by omega) (by omega)).2.2.1, (f4 (mS T 3 e) (by omega) (by omega)).2.2.2]
    have b2 := mBeg_le hT (c := mS T 2 e) (by omega)
    have b3 := mBeg_le hT (c := mS T 3 e) (by omega)
    have l3 := hl (mS T 3 e) (by omega) (by omega)
    refine ⟨⟨by omega, fun i p q => by omega, fun i p q => ?_⟩, ⟨by omega, fun i p q => by omega, fun i p q => ?_⟩⟩
    · have := hX i p q
      unfold mX at this
      show mBeg T (mS T 2 e) ≤ _
      omega
    · have := hX i p q
      unfold mX at this
      show mBeg T (mS T 3 e) - _ < _
      omega
  · rw [z4 i a b]
    have key : ∀ n : Nat, (n : Int) ≤ mS T 0 0 → mCn T (mS T) (mRun T 0) i n = 0 := by
      intro n
      induction n with
      | zero => intro _; rfl
      | succ n ih =>
        intro hn
        have s := sb.2.2.2 n (by omega) (by omega)
        have b2 := mBeg_le hT (c := mS T 2 n) (by omega)
        have := hX i a b
        unfold mX at this
        unfold mCn
        rw [ih (by omega), mV_f (fun z => by
          have z1 := z.1
          have : mRun T 0 (mS T 2 n) = mBeg T (mS T 2 n) := rfl
          omega)]
        omega
    exact (key _ (by omega)).symm
  · rw [(f4 c a b).2.1]
    show _ = mBeg T (30 + c)
    unfold mBeg mBg
    rw [if_neg (by omega), if_pos (by omega)]
  · rw [z5 x k a b p q]
    exact (mBeg_o hT (by omega)).symm
  · rw [g r 2 (by omega) (by omega), xup_o (by omega), xup_i (by decide), xup_i (by decide), xup_i (by decide), xup_s]
  · rw [g r 4 (by omega) (by omega), xup_o (by omega), xup_i (by decide), xup_s]
  · rw [g r 5 (by omega) (by omega), xup_o (by omega), xup_s]
  · have e13 : G (r + 13) 0 = 0 := by rw [g _ _ (by omega) (by omega), xup_s]
    refine ⟨fun _ => ⟨e13, fun j a b => ?_⟩, fun _ => e13⟩
    have : mEvs T 0 (-1) = 0 := rfl
    omega
end BEG
end CL4
