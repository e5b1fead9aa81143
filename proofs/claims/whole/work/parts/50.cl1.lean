section CL1
variable {X : List Int32} {d : Nat} {F : XF}
/-! the class: a crossing at o holds the x-th of T -/
def cCr (F : XF) (o : Nat) (T : Int → Int) (x : Int) : Prop := F o 0 = T (8 + 7 * x) ∧ F o 1 = T (8 + 7 * x) + T (8 + 7 * x + 1) ∧ F o 2 = T (8 + 7 * x + 2) ∧ F o 3 = T (8 + 7 * x + 3) ∧ F o 4 = T (8 + 7 * x + 4) ∧ F o 5 = T (8 + 7 * x + 5) ∧ F o 6 = T (8 + 7 * x + 6)
/-- there is a tick from which on it is open for so many -/
def mEvl (T : Int → Int) (x n : Int) : Prop := mAlw T x ∨ n ≤ T (8 + 7 * x + 4) - T (8 + 7 * x + 3)
/-- it lets in for so many -/
def mLet (T : Int → Int) (x t n : Int) : Prop := mAlw T x ∨ (T (8 + 7 * x + 3) ≤ t % T (8 + 7 * x + 2) ∧ t % T (8 + 7 * x + 2) + n ≤ T (8 + 7 * x + 4))
noncomputable def mNx (T : Int → Int) (x t n : Int) : Int := if mV (mLet T x t n) = 1 then t else if mV (mEvl T x n) = 1 then (if t % T (8 + 7 * x + 2) < T (8 + 7 * x + 3) then min (t + (T (8 + 7 * x + 3) - t % T (8 + 7 * x + 2))) 2000 else min (t + (T (8 + 7 * x + 2) - t % T (8 + 7 * x + 2) + T (8 + 7 * x + 3))) 2000) else 2000
section CR
variable {T : Int → Int} {o : Nat} {x : Int} (ho : xob 1 o) (hX : mX T x) (hc : cCr F o T x)
theorem k7 (ho : xob 1 o) (hX : mX T x) (hc : cCr F o T x) {Q : Int → XF → Prop} (hP : xPT F) (q : ∀ y, mB y (mAlw T x) → Q y F) : xMI X d 7 [.ref o] F Q := by
  obtain ⟨c0, c1, c2, c3, c4, c5, c6⟩ := hc
  unfold mX at hX
  refine m7 hP ho ⟨by rw [c3]; constructor <;> omega, fun c _ => q 0 (mB.i0 fun h => ?_), fun c => ⟨by rw [c4]; constructor <;> omega, by rw [c2]; constructor <;> omega, fun c' _ => q 0 (mB.i0 fun h => ?_), fun c' _ => q 1 (mB.i1 ?_)⟩⟩
  · rw [c3] at c; exact c h.1
  · rw [c4, c2] at c'; exact c' h.2
  · rw [c3] at c
    rw [c4, c2] at c'
    exact ⟨by omega, by omega⟩
theorem k8 (ho : xob 1 o) (hX : mX T x) (hc : cCr F o T x) {t : Int} {Q : Int → XF → Prop} (hP : xPT F) (ht : 0 ≤ t ∧ t ≤ 100000) (q : Q (t % T (8 + 7 * x + 2)) F) : xMI X d 8 [.ref o, vi t] F Q := by
  obtain ⟨c0, c1, c2, c3, c4, c5, c6⟩ := hc
  unfold mX at hX
  refine m8 hP ho ?_
  rw [c2]
  exact ⟨⟨by omega, by omega⟩, fun c => absurd c (by omega), fun _ => ⟨⟨by omega, by omega⟩, ⟨by omega, by omega⟩, fun _ => q⟩⟩
theorem k9 (ho : xob 1 o) (hX : mX T x) (hc : cCr F o T x) {t : Int} {Q : Int → XF → Prop} (hP : xPT F) (hd : 0 < d) (ht : 0 ≤ t ∧ t ≤ 100000) (q : ∀ y, mB y (mOpn T x t) → Q y F) : xMI X d 9 [.ref o, vi t] F Q := by
  have hX' := hX
  unfold mX at hX'
  have hm := mmod (t := t) (c := T (8 + 7 * x + 2)) (by omega)
  have hc' := hc
  obtain ⟨c0, c1, c2, c3, c4, c5, c6⟩ := hc'
  refine m9 hP ho ⟨0, hd, k8 ho hX hc hP ht ?_⟩
  rw [c3, c4]
  refine ⟨⟨by omega, by omega⟩, ⟨by omega, by omega⟩, fun c _ => q 0 (mB.i0 fun h => by have := h.1; omega), fun c => ⟨⟨by omega, by omega⟩, ⟨by omega, by omega⟩, fun c1 _ => q 0 (mB.i0 fun h => by have := h.2; omega), fun c1 _ => q 1 (mB.i1 ⟨by omega, by omega⟩)⟩⟩
theorem k10 (ho : xob 1 o) (hX : mX T x) (hc : cCr F o T x) {n : Int} {Q : Int → XF → Prop} (hP : xPT F) (hd : 0 < d) (hn : inR n) (q : ∀ y, mB y (mEvl T x n) → Q y F) : xMI X d 10 [.ref o, vi n] F Q := by
  have hX' := hX
  unfold mX at hX'
  have hc' := hc
  obtain ⟨c0, c1, c2, c3, c4, c5, c6⟩ := hc'
  refine m10 hP ho ⟨0, hd, k7 ho hX hc hP fun y hy => ?_⟩
  rw [c3, c4]
  refine ⟨hy.r, fun c _ => q 1 (mB.i1 (Or.inl (hy.t c))), fun c => ⟨hn, ⟨by omega, by omega⟩, fun c1 _ => q 0 (mB.i0 ?_), fun c1 _ => q 1 (mB.i1 (Or.inr (by omega)))⟩⟩
  rintro (h | h)
  · exact hy.f (by omega) h
  · omega
theorem k11 (ho : xob 1 o) (hX : mX T x) (hc : cCr F o T x) {t n : Int} {Q : Int → XF → Prop} (hP : xPT F) (hd : 0 < d) (ht : 0 ≤ t ∧ t ≤ 100000) (hn : 0 ≤ n ∧ n ≤ 1000000) (q : ∀ y, mB y (mLet T x t n) → Q y F) : xMI X d 11 [.ref o, vi t, vi n] F Q := by
  have hX' := hX
  unfold mX at hX'
  have hm := mmod (t := t) (c := T (8 + 7 * x + 2)) (by omega)
  have hc' := hc
  obtain ⟨c0, c1, c2, c3, c4, c5, c6⟩ := hc'
  refine m11 hP ho ⟨0, hd, k7 ho hX hc hP fun y hy => ⟨hy.r, fun c => ⟨0, hd, k8 ho hX hc hP ht ?_⟩, fun c _ => q 1 (mB.i1 (Or.inl (hy.t c)))⟩⟩
  rw [c3, c4]
  refine ⟨⟨by omega, by omega⟩, ⟨by omega, by omega⟩, fun c1 _ => q 0 (mB.i0 ?_), fun c1 => ⟨⟨by omega, by omega⟩, ⟨by omega, by omega⟩, fun c2 _ => q 0 (mB.i0 ?_), fun c2 _ => q 1 (mB.i1 (Or.inr ⟨by omega, by omega⟩))⟩⟩
  · rintro (h | h)
    · exact hy.f c h
    · omega
  · rintro (h | h)
    · exact hy.f c h
    · omega
theorem k12 (ho : xob 1 o) (hX : mX T x) (hc : cCr F o T x) {t n : Int} {Q : Int → XF → Prop} (hP : xPT F) (hd : 1 < d) (ht : 0 ≤ t ∧ t ≤ 100000) (hn : 0 ≤ n ∧ n ≤ 1000000) (q : Q (mNx T x t n) F) : xMI X d 12 [.ref o, vi t, vi n] F Q := by
  have hX' := hX
  unfold mX at hX'
  have hm := mmod (t := t) (c := T (8 + 7 * x + 2)) (by omega)
  have hc' := hc
  obtain ⟨c0, c1, c2, c3, c4, c5, c6⟩ := hc'
  unfold mNx at q
  refine m12 hP ho ⟨1, hd, k11 ho hX hc hP (by omega) ht hn fun y hy => ⟨hy.r, fun c => ⟨1, hd, k10 ho hX hc hP (by omega) ⟨by omega, by omega⟩ fun y2 hy2 => ⟨hy2.r, fun cc => ⟨1, hd, k8 ho hX hc hP ht ?_⟩, fun cc _ => ?_⟩⟩, fun c _ => ?_⟩⟩
  · rw [mV_f (hy.f c), if_neg (by decide), mV_t (hy2.t cc), if_pos rfl] at q
    rw [c2, c3]
    refine ⟨⟨by omega, by omega⟩, ⟨by omega, by omega⟩, fun c9 => ⟨⟨by omega, by omega⟩, fun _ => ?_⟩, fun c9 => ⟨⟨by omega, by omega⟩, fun _ => ?_⟩⟩
    · rw [if_neg (by omega)] at q; exact q
    · rw [if_pos (by omega)] at q; exact q
  · rw [mV_f (hy.f c), if_neg (by decide), mV_f (hy2.f (by omega)), if_neg (by decide)] at q; exact q
  · rw [mV_t (hy.t c), if_pos rfl] at q; exact q
end CR
/-! a town at t holds T -/
abbrev cX (t : Nat) (x : Int) : Nat := t + 1 + 6 + x.toNat
def cTw (F : XF) (t : Nat) (T : Int → Int) : Prop := (F t 0 = T 0 ∧ F t 1 = T 1 ∧ F t 2 = T 2 ∧ F t 3 = T 3 ∧ F t 4 = T 4 ∧ F t 6 = T 5 ∧ F t 9 = T 6 ∧ F t 11 = T 7) ∧ (∀ x, 0 ≤ x → x < T 4 → cCr F (cX t x) T x) ∧ (∀ c, 0 ≤ c → c < T 5 → F (t + 2) c = T (78 + c)) ∧ (∀ c : Nat, c < 30 → T (108 + (c : Int)) = if mbit (F t 8) c then 1 else 0) ∧ (∀ k, 0 ≤ k → k < T 6 → F (t + 3) k = T (138 + k)) ∧ (∀ k, 0 ≤ k → k < T 7 → F (t + 4) k = T (142 + 3 * k) ∧ F (t + 5) k = T (142 + 3 * k + 1) ∧ F (t + 6) k = T (142 + 3 * k + 2))
theorem cTw.of {G : XF} {t : Nat} {T : Int → Int} (h : cTw F t T) (hT : mT T) (e : ∀ p i, (t ≤ p ∧ p < t + 17) → G p i = F p i) : cTw G t T := by
  have h4 := hT.2.2.2.2.1
  obtain ⟨a, b, c, s, g, k⟩ := h
  have e0 : ∀ i, G t i = F t i := fun i => e t i (by omega)
  refine ⟨by rw [e0, e0, e0, e0, e0, e0, e0, e0]; exact a, fun x p q => ?_, fun x p q => by rw [e _ _ (by omega)]; exact c x p q, fun x p => by rw [e0]; exact s x p, fun x p q => by rw [e _ _ (by omega)]; exact g x p q, fun x p q => by rw [e _ _ (by omega), e _ _ (by omega), e _ _ (by omega)]; exact k x p q⟩
  have := b x p q
  unfold cCr cX at *
  have ex : ∀ i, G (t + 1 + 6 + x.toNat) i = F (t + 1 + 6 + x.toNat) i := fun i => e _ i (by omega)
  rw [ex, ex, ex, ex, ex, ex, ex]
  exact this
theorem cX_ob {t : Nat} (h : xob 9 t) {x : Int} (h0 : 0 ≤ x) (h1 : x < 10) : xob 1 (cX t x) := by
  have a := xtg_9_5 t h.1 h.2
  exact xel15 (t + 1) a.1.1 a.1.2 x.toNat (by omega)
section TW
variable {T : Int → Int} {t : Nat}
theorem k76 {e x : Int} {Q : Int → XF → Prop} (hP : xPT F) (ht : xob 9 t) (hT : mT T) (hw : cTw F t T) (hx : 0 ≤ x ∧ x < T 4) (he : 0 ≤ e ∧ e ≤ 100000) (q : Q (mNeed T e x) F) : xMI X d 76 [.ref t, vi e, vi x] F Q := by
  have hT' := hT
  obtain ⟨_, h1, _, _, h4, _, _, _, hX, _⟩ := hT'
  have hXx := hX x hx.1 hx.2
  unfold mX at hXx
  have cx := hw.2.1 x hx.1 hx.2
  have e1 := hw.1.2.1
  refine m76 hP ht ?_
  rw [cx.1, cx.2.1, e1]
  refine ⟨⟨by omega, by omega⟩, ⟨by omega, by omega⟩, ⟨by omega, by omega⟩, fun c => absurd c (by omega), fun _ => ⟨⟨by omega, by omega⟩, ⟨by omega, by omega⟩, fun _ => ?_⟩⟩
  unfold mNeed at q
  rw [show T (8 + 7 * x) + T (8 + 7 * x + 1) - T (8 + 7 * x) + e + T 1 - 1 = T (8 + 7 * x + 1) + e + T 1 - 1 by omega]
  exact q
theorem l77 {e : Int} {Q : Int → XF → Prop} (hP : xPT F) (hd : 1 < d) (ht : xob 9 t) (hT : mT T) (hw : cTw F t T) (he : 0 ≤ e ∧ e ≤ 100000) (q : ∀ y, mB y (mCan T e) → Q y F) : ∀ (n k : Nat), (k : Int) + n = T 4 → (∀ x : Int, 0 ≤ x → x < k → mEvl T x (mNeed T e x)) → xW X d 77 2 [.ref t, vi e, vi k] [] F (xqi Q) := by
  have hT' := hT
  obtain ⟨_, h1, _, _, h4, _, _, _, hX, _⟩ := hT'
  have e4 := hw.1.2.2.2.2.1
  intro n
  induction n with
  | zero =>
    intro k hk hh
    refine s77_2 hP ht ⟨⟨by omega, by omega⟩, by rw [e4]; constructor <;> omega, fun _ _ => q 1 (mB.i1 fun x a b => hh x a (by omega)), fun c => absurd (by omega) c⟩
  | succ n ih =>
    intro k hk hh
    have hXk := hX k (by omega) (by omega)
    have hX' := hXk
    unfold mX at hX'
    have nb := mNeed_b (T := T) (e := e) (x := k) h1.1 ⟨by omega, by omega⟩ he
    refine s77_2 hP ht ⟨⟨by omega, by omega⟩, by rw [e4]; constructor <;> omega, fun c => absurd c (by omega), fun _ => ⟨⟨by omega, by omega⟩, 1, hd, k76 hP ht hT hw (by omega) he ⟨1, hd, k10 (cX_ob ht (by omega) (by omega)) hXk (hw.2.1 k (by omega) (by omega)) hP (by omega) ⟨by omega, by omega⟩ fun y hy => ⟨hy.r, fun c _ => ih (k + 1) (by omega) fun x a b => ?_, fun c _ => q 0 (mB.i0 fun h => hy.f (by omega) (h k (by omega) (by omega)))⟩⟩⟩⟩
    by_cases hq : x = k
    · rw [hq]; exact hy.t c
    · exact hh x a (by omega)
theorem k77 {e : Int} {Q : Int → XF → Prop} (hP : xPT F) (hd : 1 < d) (ht : xob 9 t) (hT : mT T) (hw : cTw F t T) (he : 0 ≤ e ∧ e ≤ 100000) (q : ∀ y, mB y (mCan T e) → Q y F) : xMI X d 77 [.ref t, vi e] F Q := by
  have h4 := hT.2.2.2.2.1
  exact m77 hP ht fun _ => l77 hP hd ht hT hw he q (T 4).toNat 0 (by omega) (fun x a b => by omega)
theorem l78 {Q : Int → XF → Prop} (hP : xPT F) (hd : 2 < d) (ht : xob 9 t) (hT : mT T) (hw : cTw F t T) (q : Q (if (mFw T (T 5).toNat).2.2 = 1 then -1 else (mFw T (T 5).toNat).1) F) : ∀ (n c : Nat) (w : Value), (c : Int) + n = T 5 → (mFw T c).2.2 = 0 → xW X d 78 6 [.ref t, vi (mFw T c).1, vi (mFw T c).2.1, vi c, w] [] F (xqi Q) := by
  have hT' := hT
  obtain ⟨_, _, h2, _, _, h5, _, _, _, _, hl, _⟩ := hT'
  have e6 := hw.1.2.2.2.2.2.1
  have e2 := hw.1.2.2.1
  intro n
  induction n with
  | zero =>
    intro c w hc hz
    rw [show (T 5).toNat = c by omega, if_neg (by omega)] at q
    exact s78_6 hP ht ⟨⟨by omega, by omega⟩, by rw [e6]; constructor <;> omega, fun _ _ => q, fun c => absurd (by omega) c⟩
  | succ n ih =>
    intro c w hc hz
    have fb := mFw_b hT c (by omega)
    have lc := hl c (by omega) (by omega)
    have es := hw.2.2.1 c (by omega) (by omega)
    have z1 : ¬ (mFw T c).2.2 = 1 := by omega
    have last : ∀ m l : Int, (0 ≤ l ∧ l ≤ 100000) → (mV (mCan T l) = 1 → mFw T (c + 1) = (m, l, 0)) → (¬ mV (mCan T l) = 1 → (mFw T (c + 1)).2.2 = 1) → xW X d 78 66 [.ref t, vi m, vi (mFw T c).2.1, vi c, vi l] [] F (xqi Q) := fun m l hl h1 h0 => by
      refine s78_66 hP ht ⟨2, hd, k77 hP (by omega) ht hT hw hl fun y hy => ⟨hy.r, fun cc _ => ?_, fun cc _ => ?_⟩⟩
      · have e := h1 (mV_t (hy.t cc))
        have := ih (c + 1) (vi l) (by omega) (by rw [e])
        rw [e] at this
        exact this
      · have e := mFw_stay n (c + 1) (h0 (by rw [mV_f (hy.f (by omega))]; decide))
        rw [show (T 5).toNat = c + 1 + n by omega, e, if_pos (h0 (by rw [mV_f (hy.f (by omega))]; decide))] at q
        exact q
    refine s78_6 hP ht ⟨⟨by omega, by omega⟩, by rw [e6]; constructor <;> omega, fun c => absurd c (by omega), fun _ => ?_⟩
    rw [e2, es]
    have long : ¬ c = 0 → mFw T (c + 1) = (if mV (mCan T ((mFw T c).2.1 + T 2 + T (78 + (c : Int)))) = 1 then ((mFw T c).1, (mFw T c).2.1 + T 2 + T (78 + (c : Int)), 0) else if mV (mCan T (T (78 + (c : Int)))) = 1 then ((mFw T c).1 + 1, T (78 + (c : Int)), 0) else ((mFw T c).1, (mFw T c).2.1, 1)) := fun h => by
      rw [mFw, if_neg z1]
      simp only [if_neg h]
    refine ⟨⟨by omega, by omega⟩, fun c0 => ⟨⟨by omega, by omega⟩, ⟨by omega, by omega⟩, fun c1 => absurd c1 (by omega), fun _ => ⟨2, hd, k77 hP (by omega) ht hT hw (by omega) fun y hy => ⟨hy.r, fun cc _ => last _ _ (by omega) (fun h => ?_) (fun h => absurd (mV_t (hy.t cc)) h), fun cc => ⟨⟨by omega, by omega⟩, fun _ => ?_⟩⟩⟩⟩, fun c0 => ⟨⟨by omega, by omega⟩, ⟨by omega, by omega⟩, fun c1 _ => last _ _ (by omega) (fun h => ?_) (fun h => ?_), fun c1 => absurd (by omega) c1⟩⟩
    · rw [long (by omega), if_pos h]
    · rw [es]
      have no := mV_f (hy.f (by omega))
      refine last _ _ (by omega) (fun h => ?_) (fun h => ?_)
      · rw [long (by omega), if_neg (by rw [no]; decide), if_pos h]
      · rw [long (by omega), if_neg (by rw [no]; decide), if_neg h]
    · have hc0 : c = 0 := by omega
      subst hc0
      rw [show mFw T (0 + 1) = (if mV (mCan T (0 + T (78 + ((0 : Nat) : Int)))) = 1 then (0, 0 + T (78 + ((0 : Nat) : Int)), 0) else if mV (mCan T (T (78 + ((0 : Nat) : Int)))) = 1 then (0 + 1, T (78 + ((0 : Nat) : Int)), 0) else (0, 0, 1)) from rfl, Int.zero_add, if_pos h]
      rfl
    · have hc0 : c = 0 := by omega
      subst hc0
      rw [show mFw T (0 + 1) = (if mV (mCan T (0 + T (78 + ((0 : Nat) : Int)))) = 1 then (0, 0 + T (78 + ((0 : Nat) : Int)), 0) else if mV (mCan T (T (78 + ((0 : Nat) : Int)))) = 1 then (0 + 1, T (78 + ((0 : Nat) : Int)), 0) else (0, 0, 1)) from rfl, Int.zero_add, if_neg h, if_neg h]
theorem k78 {Q : Int → XF → Prop} (hP : xPT F) (hd : 2 < d) (ht : xob 9 t) (hT : mT T) (hw : cTw F t T) (q : Q (if (mFw T (T 5).toNat).2.2 = 1 then -1 else (mFw T (T 5).toNat).1) F) : xMI X d 78 [.ref t] F Q := by
  have h5 := hT.2.2.2.2.2.1
  exact m78 hP ht fun _ => l78 hP hd ht hT hw q (T 5).toNat 0 _ (by omega) rfl
/-- the broken ones, as bits -/
def cBr (T : Int → Int) (k : Int) (t : Int) (v : Int) : Prop := ∀ c : Nat, c < 30 → (mbit v c = true ↔ ∃ j, 0 ≤ j ∧ j < k ∧ T (142 + 3 * j) = c ∧ T (142 + 3 * j + 1) ≤ t ∧ t ≤ T (142 + 3 * j + 1) + T (142 + 3 * j + 2) - 1)
theorem l75 {u : Int} {Q : Int → XF → Prop} (hP : xPT F) (ht : xob 9 t) (hT : mT T) (hw : cTw F t T) (hu : inR u) (q : ∀ v, cBr T (T 7) u v → Q v F) : ∀ (n k : Nat) (v : Int), (k : Int) + n = T 7 → cBr T k u v → xW X d 75 4 [.ref t, vi u, vi v, vi k] [] F (xqi Q) := by
  have hT' := hT
  obtain ⟨_, _, _, _, _, h5, _, h7, _, _, _, _, _, hb⟩ := hT'
  have e7 := hw.1.2.2.2.2.2.2.2
  intro n
  induction n with
  | zero =>
    intro k v hk hv
    rw [show T 7 = (k : Int) by omega] at q
    exact s75_4 hP ht ⟨⟨by omega, by omega⟩, by rw [e7]; constructor <;> omega, fun _ _ => q v hv, fun c => absurd (by omega) c⟩
  | succ n ih =>
    intro k v hk hv
    have bk := hb k (by omega) (by omega)
    have wk := hw.2.2.2.2.2 k (by omega) (by omega)
    have no : ¬ (T (142 + 3 * (k : Int) + 1) ≤ u ∧ u ≤ T (142 + 3 * (k : Int) + 1) + T (142 + 3 * (k : Int) + 2) - 1) → xW X d 75 4 [.ref t, vi u, vi v, vi ((k : Int) + 1)] [] F (xqi Q) := fun h => by
      refine ih (k + 1) v (by omega) fun c hc => ?_
      rw [hv c hc]
      constructor
      · rintro ⟨j, a, b, e⟩
        exact ⟨j, a, by omega, e⟩
      · rintro ⟨j, a, b, e⟩
        by_cases hj : j = k
        · subst hj; exact absurd e.2 h
        · exact ⟨j, a, by omega, e⟩
    refine s75_4 hP ht ⟨⟨by omega, by omega⟩, by rw [e7]; constructor <;> omega, fun c => absurd c (by omega), fun _ => ?_⟩
    rw [wk.1, wk.2.1, wk.2.2]
    refine ⟨⟨by omega, by omega⟩, hu, ⟨by omega, by omega⟩, fun c _ => no (by omega), fun c => ⟨⟨by omega, by omega⟩, ⟨by omega, by omega⟩, hu, ⟨by omega, by omega⟩, fun c1 _ => no (by omega), fun c1 => ⟨⟨by omega, by omega⟩, fun _ => ih (k + 1) _ (by omega) fun c2 hc2 => ?_⟩⟩⟩
    rw [mbit_or, mbit_shl' (by omega) (by omega) (by omega), Bool.or_eq_true, hv c2 hc2, decide_eq_true_eq]
    constructor
    · rintro (⟨j, a, b, e⟩ | h)
      · exact ⟨j, a, by omega, e⟩
      · exact ⟨k, by omega, by omega, by omega, by omega, by omega⟩
    · rintro ⟨j, a, b, e⟩
      by_cases hj : j = k
      · subst hj; right; omega
      · left; exact ⟨j, a, by omega, e⟩
theorem k75 {u : Int} {Q : Int → XF → Prop} (hP : xPT F) (ht : xob 9 t) (hT : mT T) (hw : cTw F t T) (hu : inR u) (q : ∀ v, cBr T (T 7) u v → Q v F) : xMI X d 75 [.ref t, vi u] F Q := by
  have h7 := hT.2.2.2.2.2.2.2.1
  refine m75 hP ht fun _ => l75 hP ht hT hw hu q (T 7).toNat 0 0 (by omega) fun c hc => ?_
  rw [mbit_0]
  constructor
  · intro h; cases h
  · rintro ⟨j, a, b, _⟩; omega
end TW
end CL1
