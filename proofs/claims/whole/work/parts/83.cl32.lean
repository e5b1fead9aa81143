section CL32
variable {X : List Int32} {d : Nat} {F : XF}
/-! the class's lines -/
abbrev cAt (t : Nat) : Prop := t + 17 ≤ 18 ∨ 20 ≤ t
/-- what the reading of a line into the town at t changes -/
def cKl (t : Nat) (F G : XF) : Prop := ∀ p i, ¬ (t ≤ p ∧ p < t + 17) → ¬ (p = 18 ∧ (i = 1 ∨ i = 2 ∨ (8 ≤ i ∧ i ≤ 11))) → G p i = F p i
theorem cKl.trans {t : Nat} {F G H : XF} (a : cKl t F G) (b : cKl t G H) : cKl t F H := fun p i h1 h2 => (b p i h1 h2).trans (a p i h1 h2)
theorem cKl.refl {t : Nat} {F : XF} : cKl t F F := fun _ _ _ _ => rfl
theorem cKw.l {t : Nat} {F G : XF} (a : cKw F G) : cKl t F G := fun p i _ h => a p i h
theorem cKl.up {t o : Nat} {F G : XF} {i v : Int} (a : cKl t F G) (h : t ≤ o ∧ o < t + 17) : cKl t F (xup G o i v) := a.trans fun p j h1 _ => xup_o (by omega)
theorem cKl.tp {t : Nat} {U : Int → Int} {n : Int} {F G : XF} (ht : cAt t) (a : cKl t F G) (h : cTp U n F) : cTp U n G := h.of fun p i hp => a p i (by omega) (by omega)
theorem cKw.tw {t : Nat} {T : Int → Int} {F G : XF} (ht : cAt t) (a : cKw F G) (hT : mT T) (h : cTw F t T) : cTw G t T := h.of hT fun p i hp => a p i (by omega)
theorem cRd.up {t o : Nat} {U : Int → Int} {n i v : Int} {x : RR Int} {G : XF} (ht : cAt t) (h : cRd U n G x) (ho : t ≤ o ∧ o < t + 17) : cRd U n (xup G o i v) x := h.of fun j _ => xup_o (by omega)
theorem cRd_x {U : Int → Int} {n : Int} {x : RR Int} {G : XF} (h : cRd U n G x) : ∀ p, x = .ok p → p ≤ n := fun p hp => by
  subst hp
  exact (cRd_ok h).2.2.1.2
theorem cTk.rd {U : Int → Int} {n e : Int} {G : XF} (h1 : F 18 1 = 0) (h2 : F 18 2 = -1) (k : cKs F G) (t : cTk U n G e) : cRd U n G (.ok e) := ⟨by rw [k 18 1 (by omega)]; exact h1, by rw [k 18 2 (by omega)]; exact h2, t⟩
/-- a line's outcome -/
def cOut (U : Int → Int) (n : Int) (t : Nat) (F G : XF) (R : RR ((Int → Int) × Int)) : Prop := cKl t F G ∧ cRd U n G (rB R fun a => .ok a.2) ∧ (∀ a, R = .ok a → cTw G t a.1)
theorem cOut_er {U : Int → Int} {n : Int} {t : Nat} {G : XF} {R : RR ((Int → Int) × Int)} {z : Int × Int} (k : cKl t F G) (h : R = .error z) (s : cRd U n G (.error z)) : cOut U n t F G R := by
  subst h
  exact ⟨k, s, fun a h => by cases h⟩
theorem cOut_ok {U : Int → Int} {n : Int} {t : Nat} {G : XF} {R : RR ((Int → Int) × Int)} {a : (Int → Int) × Int} (k : cKl t F G) (h : R = .ok a) (s : cRd U n G (.ok a.2)) (e : cTw G t a.1) : cOut U n t F G R := by
  subst h
  exact ⟨k, s, fun b h => by cases h; exact e⟩
/-! the town, with one thing more -/
theorem cTw.v0 {t : Nat} {T : Int → Int} {v : Int} (h : cTw F t T) (hT : mT T) : cTw (xup F t 0 v) t (mSet T 0 v) := by
  have b := h.2.2.2.1
  obtain ⟨a0, a1, a2, a3, a4, a5, a6, a7⟩ := h.1
  refine h.to hT (fun p i z => xup_n (by omega)) ⟨?_, ?_, ?_, ?_, ?_, ?_, ?_, ?_⟩ (mSet_n (by omega)) (mSet_n (by omega)) (mSet_n (by omega)) (mSet_n (by omega)) (fun i z => mSet_n (by omega)) fun c hc => ?_
  · rw [xup_s, mSet_s]
  · rw [xup_i (by omega), mSet_n (by omega)]; exact a1
  · rw [xup_i (by omega), mSet_n (by omega)]; exact a2
  · rw [xup_i (by omega), mSet_n (by omega)]; exact a3
  · rw [xup_i (by omega), mSet_n (by omega)]; exact a4
  · rw [xup_i (by omega), mSet_n (by omega)]; exact a5
  · rw [xup_i (by omega), mSet_n (by omega)]; exact a6
  · rw [xup_i (by omega), mSet_n (by omega)]; exact a7
  · rw [xup_i (by omega), mSet_n (by omega)]; exact b c hc
theorem cTw.v2 {t : Nat} {T : Int → Int} {v : Int} (h : cTw F t T) (hT : mT T) : cTw (xup F t 2 v) t (mSet T 2 v) := by
  have b := h.2.2.2.1
  obtain ⟨a0, a1, a2, a3, a4, a5, a6, a7⟩ := h.1
  refine h.to hT (fun p i z => xup_n (by omega)) ⟨?_, ?_, ?_, ?_, ?_, ?_, ?_, ?_⟩ (mSet_n (by omega)) (mSet_n (by omega)) (mSet_n (by omega)) (mSet_n (by omega)) (fun i z => mSet_n (by omega)) fun c hc => ?_
  · rw [xup_i (by omega), mSet_n (by omega)]; exact a0
  · rw [xup_i (by omega), mSet_n (by omega)]; exact a1
  · rw [xup_s, mSet_s]
  · rw [xup_i (by omega), mSet_n (by omega)]; exact a3
  · rw [xup_i (by omega), mSet_n (by omega)]; exact a4
  · rw [xup_i (by omega), mSet_n (by omega)]; exact a5
  · rw [xup_i (by omega), mSet_n (by omega)]; exact a6
  · rw [xup_i (by omega), mSet_n (by omega)]; exact a7
  · rw [xup_i (by omega), mSet_n (by omega)]; exact b c hc
theorem cTw.set1 {t : Nat} {T : Int → Int} {a : Int} (h : cTw F t T) (hT : mT T) (ha : 0 ≤ a ∧ a < 30) : cTw (xup F t 8 (xior (F t 8) (xshl 1 a))) t (mSet T (108 + a) 1) := by
  have tw := h.1
  have bu := h.2.2.2.1
  have yo : ∀ i, ¬ i = 108 + a → mSet T (108 + a) 1 i = T i := fun i z => mSet_n z
  refine h.to hT (fun p i z => xup_n (by omega)) ⟨?_, ?_, ?_, ?_, ?_, ?_, ?_, ?_⟩ (yo _ (by omega)) (yo _ (by omega)) (yo _ (by omega)) (yo _ (by omega)) (fun i z => yo _ (by omega)) fun j hj => ?_
  · rw [xup_i (by omega), yo _ (by omega)]; exact tw.1
  · rw [xup_i (by omega), yo _ (by omega)]; exact tw.2.1
  · rw [xup_i (by omega), yo _ (by omega)]; exact tw.2.2.1
  · rw [xup_i (by omega), yo _ (by omega)]; exact tw.2.2.2.1
  · rw [xup_i (by omega), yo _ (by omega)]; exact tw.2.2.2.2.1
  · rw [xup_i (by omega), yo _ (by omega)]; exact tw.2.2.2.2.2.1
  · rw [xup_i (by omega), yo _ (by omega)]; exact tw.2.2.2.2.2.2.1
  · rw [xup_i (by omega), yo _ (by omega)]; exact tw.2.2.2.2.2.2.2
  · rw [xup_s, mbit_or, mbit_shl' ha.1 (by omega) (by omega)]
    have bj := bu j hj
    by_cases v : (j : Int) = a
    · rw [decide_eq_true v, Bool.or_true, v, mSet_s, if_pos rfl]
    · rw [decide_eq_false v, Bool.or_false, yo _ (by omega)]
      exact bj
theorem cTw.gath {t : Nat} {T : Int → Int} {v : Int} (h : cTw F t T) (hT : mT T) (h6 : T 6 < 4) : cTw (xup (xup F (t + 3) (T 6) v) t 9 (T 6 + 1)) t (mSet (mSet T (138 + T 6) v) 6 (T 6 + 1)) := by
  have h4 := hT.2.2.2.2.1
  have h5 := hT.2.2.2.2.2.1
  have g6 := hT.2.2.2.2.2.2.1
  have h7 := hT.2.2.2.2.2.2.2.1
  obtain ⟨a, b, c, s, g, k⟩ := h
  have o : ∀ i, ¬ i = 6 → ¬ i = 138 + T 6 → mSet (mSet T (138 + T 6) v) 6 (T 6 + 1) i = T i := fun i x y => by rw [mSet_n x, mSet_n y]
  have f0 : ∀ i, ¬ i = 9 → xup (xup F (t + 3) (T 6) v) t 9 (T 6 + 1) t i = F t i := fun i h => by rw [xup_i h, xup_o (by omega)]
  refine ⟨?_, fun x p r => ?_, fun x p r => ?_, fun x p => ?_, fun x p r => ?_, fun x p r => ?_⟩
  · rw [f0 0 (by decide), f0 1 (by decide), f0 2 (by decide), f0 3 (by decide), f0 4 (by decide), f0 6 (by decide), f0 11 (by decide), xup_s, mSet_s, o 0 (by omega) (by omega), o 1 (by omega) (by omega), o 2 (by omega) (by omega), o 3 (by omega) (by omega), o 4 (by omega) (by omega), o 5 (by omega) (by omega), o 7 (by omega) (by omega)]
    exact ⟨a.1, a.2.1, a.2.2.1, a.2.2.2.1, a.2.2.2.2.1, a.2.2.2.2.2.1, rfl, a.2.2.2.2.2.2.2⟩
  · rw [o 4 (by omega) (by omega)] at r
    have := b x p r
    unfold cCr cX at *
    have fx : ∀ i, xup (xup F (t + 3) (T 6) v) t 9 (T 6 + 1) (t + 1 + 6 + x.toNat) i = F (t + 1 + 6 + x.toNat) i := fun i => by rw [xup_o (by omega), xup_o (by omega)]
    rw [fx, fx, fx, fx, fx, fx, fx, o _ (by omega) (by omega), o _ (by omega) (by omega), o _ (by omega) (by omega), o _ (by omega) (by omega), o _ (by omega) (by omega), o _ (by omega) (by omega), o _ (by omega) (by omega)]
    exact this
  · rw [o 5 (by omega) (by omega)] at r
    rw [xup_o (by omega), xup_o (by omega), o _ (by omega) (by omega)]
    exact c x p r
  · rw [f0 8 (by decide), o _ (by omega) (by omega)]
    exact s x p
  · rw [mSet_s] at r
    by_cases hq : x = T 6
    · subst hq
      rw [xup_o (by omega), xup_s, mSet_n (by omega), mSet_s]
    · rw [xup_o (by omega), xup_i hq, o _ (by omega) (by omega)]
      exact g x p (by omega)
  · rw [o 7 (by omega) (by omega)] at r
    have := k x p r
    rw [xup_o (by omega), xup_o (by omega), xup_o (by omega), xup_o (by omega), xup_o (by omega), xup_o (by omega), o _ (by omega) (by omega), o _ (by omega) (by omega), o _ (by omega) (by omega)]
    exact this
theorem cTw.car1 {t : Nat} {T : Int → Int} {l : Int} (h : cTw F t T) (hT : mT T) (h30 : T 5 < 30) : cTw (xup (xup F (t + 2) (T 5) l) t 6 (T 5 + 1)) t (rLong T 1 l) := by
  have h4 := hT.2.2.2.2.1
  have h5 := hT.2.2.2.2.2.1
  have g6 := hT.2.2.2.2.2.2.1
  have h7 := hT.2.2.2.2.2.2.2.1
  obtain ⟨a, b, c, s, g, k⟩ := h
  have o : ∀ i, ¬ i = 5 → ¬ i = 78 + T 5 → rLong T 1 l i = T i := fun i x y => by unfold rLong; rw [if_neg x, if_neg (by omega)]
  have o5 : rLong T 1 l 5 = T 5 + 1 := by unfold rLong; rw [if_pos rfl]
  have f0 : ∀ i, ¬ i = 6 → xup (xup F (t + 2) (T 5) l) t 6 (T 5 + 1) t i = F t i := fun i h => by rw [xup_i h, xup_o (by omega)]
  refine ⟨?_, fun x p r => ?_, fun x p r => ?_, fun x p => ?_, fun x p r => ?_, fun x p r => ?_⟩
  · rw [f0 0 (by decide), f0 1 (by decide), f0 2 (by decide), f0 3 (by decide), f0 4 (by decide), f0 9 (by decide), f0 11 (by decide), xup_s, o5, o 0 (by omega) (by omega), o 1 (by omega) (by omega), o 2 (by omega) (by omega), o 3 (by omega) (by omega), o 4 (by omega) (by omega), o 6 (by omega) (by omega), o 7 (by omega) (by omega)]
    exact ⟨a.1, a.2.1, a.2.2.1, a.2.2.2.1, a.2.2.2.2.1, rfl, a.2.2.2.2.2.2.1, a.2.2.2.2.2.2.2⟩
  · rw [o 4 (by omega) (by omega)] at r
    have := b x p r
    unfold cCr cX at *
    have fx : ∀ i, xup (xup F (t + 2) (T 5) l) t 6 (T 5 + 1) (t + 1 + 6 + x.toNat) i = F (t + 1 + 6 + x.toNat) i := fun i => by rw [xup_o (by omega), xup_o (by omega)]
    rw [fx, fx, fx, fx, fx, fx, fx, o _ (by omega) (by omega), o _ (by omega) (by omega), o _ (by omega) (by omega), o _ (by omega) (by omega), o _ (by omega) (by omega), o _ (by omega) (by omega), o _ (by omega) (by omega)]
    exact this
  · rw [o5] at r
    by_cases hq : x = T 5
    · subst hq
      rw [xup_o (by omega), xup_s]
      unfold rLong
      rw [if_neg (by omega), if_pos (by omega)]
    · rw [xup_o (by omega), xup_i hq, o _ (by omega) (by omega)]
      exact c x p (by omega)
  · rw [f0 8 (by decide), o _ (by omega) (by omega)]
    exact s x p
  · rw [o 6 (by omega) (by omega)] at r
    rw [xup_o (by omega), xup_o (by omega), o _ (by omega) (by omega)]
    exact g x p r
  · rw [o 7 (by omega) (by omega)] at r
    have := k x p r
    rw [xup_o (by omega), xup_o (by omega), xup_o (by omega), xup_o (by omega), xup_o (by omega), xup_o (by omega), o _ (by omega) (by omega), o _ (by omega) (by omega), o _ (by omega) (by omega)]
    exact this
theorem rLong_1 {T : Int → Int} {k l : Int} (hk : 0 ≤ k) : rLong (rLong T k l) 1 l = rLong T (k + 1) l := by
  have e5 : rLong T k l 5 = T 5 + k := by unfold rLong; rw [if_pos rfl]
  funext i
  rw [show rLong (rLong T k l) 1 l i = (if i = 5 then rLong T k l 5 + 1 else if 78 + rLong T k l 5 ≤ i ∧ i < 78 + rLong T k l 5 + 1 then l else rLong T k l i) from rfl, e5]
  unfold rLong
  by_cases h : i = 5
  · rw [if_pos h, if_pos h]; omega
  · rw [if_neg h, if_neg h, if_neg h]
    by_cases h1 : 78 + T 5 ≤ i ∧ i < 78 + T 5 + k
    · rw [if_neg (by omega), if_pos h1, if_pos (by omega)]
    · rw [if_neg h1]
      by_cases h2 : 78 + (T 5 + k) ≤ i ∧ i < 78 + (T 5 + k) + 1
      · rw [if_pos h2, if_pos (by omega)]
      · rw [if_neg h2, if_neg (by omega)]
theorem rLong_0 {T : Int → Int} {l : Int} : rLong T 0 l = T := by
  funext i
  unfold rLong
  by_cases h : i = 5
  · rw [if_pos h, h]; omega
  · rw [if_neg h, if_neg (by omega)]
theorem l73 {t : Nat} {T : Int → Int} {m l : Int} {Q : XF → Prop} (F0 : XF) (ht : xob 9 t) (hT : mT T) (hm : 0 ≤ m ∧ T 5 + m ≤ 30) (hl : 1 ≤ l ∧ l ≤ 30) (q : ∀ G, xPT G → cK t 17 F0 G → cTw G t (rLong T m l) → Q G) : ∀ (f k : Nat) (F : XF), xPT F → (k : Int) + f = m → cK t 17 F0 F → cTw F t (rLong T k l) → xW X d 73 2 [.ref t, vi m, vi l, vi k] [] F (xqv Q) := by
  have h5 := hT.2.2.2.2.2.1
  intro f
  induction f with
  | zero =>
    intro k F hP hk hK hw
    have e : (k : Int) = m := by omega
    rw [e] at hw
    exact s73_2 hP ht ⟨⟨by omega, by omega⟩, ⟨by omega, by omega⟩, fun _ _ => q F hP hK hw, fun c => absurd (by omega) c⟩
  | succ f ih =>
    intro k F hP hk hK hw
    have e5 : rLong T k l 5 = T 5 + k := by unfold rLong; rw [if_pos rfl]
    have e6 : F t 6 = T 5 + k := hw.1.2.2.2.2.2.1.trans e5
    refine s73_2 hP ht ⟨⟨by omega, by omega⟩, ⟨by omega, by omega⟩, fun c => absurd c (by omega), fun _ => ?_⟩
    rw [e6]
    refine ⟨⟨by omega, by omega⟩, fun c => absurd c (by omega), fun _ => ⟨⟨by omega, by omega⟩, fun hG => ?_⟩⟩
    have w1 := hw.car1 (l := l) (mT_long hT (by omega) hl) (by rw [e5]; omega)
    rw [e5, rLong_1 (by omega)] at w1
    have := ih (k + 1) _ hG (by omega) ((hK.up (by omega)).up (by omega)) w1
    rw [show ((k + 1 : Nat) : Int) = (k : Int) + 1 by omega] at this
    exact this
/-- so many cars more -/
theorem k73 {t : Nat} {T : Int → Int} {m l : Int} {Q : XF → Prop} (hP : xPT F) (ht : xob 9 t) (hT : mT T) (hw : cTw F t T) (hm : 0 ≤ m ∧ T 5 + m ≤ 30) (hl : 1 ≤ l ∧ l ≤ 30) (q : ∀ G, xPT G → cK t 17 F G → cTw G t (rLong T m l) → Q G) : xMV X d 73 [.ref t, vi m, vi l] F Q :=
  m73 hP ht fun _ => l73 F ht hT hm hl q m.toNat 0 F hP (by omega) cK.refl (by
    rw [show ((0 : Nat) : Int) = 0 from rfl, rLong_0]
    exact hw)
theorem cTw.cross {F G : XF} {t : Nat} {T : Int → Int} {v0 v1 v2 v3 v4 v5 v6 : Int} (h : cTw F t T) (hT : mT T) (h10 : T 4 < 10) (e : ∀ p i, (t ≤ p ∧ p < t + 17) → ¬ p = cX t (T 4) → ¬ (p = t ∧ i = 4) → G p i = F p i) (g4 : G t 4 = T 4 + 1) (w : G (cX t (T 4)) 0 = v0 ∧ G (cX t (T 4)) 1 = v0 + v1 ∧ G (cX t (T 4)) 2 = v2 ∧ G (cX t (T 4)) 3 = v3 ∧ G (cX t (T 4)) 4 = v4 ∧ G (cX t (T 4)) 5 = v5 ∧ G (cX t (T 4)) 6 = v6) : cTw G t (rCrT T v0 v1 v2 v3 v4 v5 v6) := by
  have h4 := hT.2.2.2.2.1
  have h5 := hT.2.2.2.2.2.1
  have g6 := hT.2.2.2.2.2.2.1
  have h7 := hT.2.2.2.2.2.2.2.1
  have o : ∀ i, ¬ i = 4 → (i < 8 + 7 * T 4 ∨ 8 + 7 * T 4 + 6 < i) → rCrT T v0 v1 v2 v3 v4 v5 v6 i = T i := fun i a b => rCrT_o a b
  have cx : ∀ x : Int, cX t x = t + 1 + 6 + x.toNat := fun _ => rfl
  have c4 := cx (T 4)
  obtain ⟨a, b, c, s, g, k⟩ := h
  refine ⟨?_, fun x p r => ?_, fun x p r => ?_, fun x p => ?_, fun x p r => ?_, fun x p r => ?_⟩
  · rw [e t 0 (by omega) (by omega) (by omega), e t 1 (by omega) (by omega) (by omega), e t 2 (by omega) (by omega) (by omega), e t 3 (by omega) (by omega) (by omega), g4, e t 6 (by omega) (by omega) (by omega), e t 9 (by omega) (by omega) (by omega), e t 11 (by omega) (by omega) (by omega), rCrT_4, o 0 (by omega) (by omega), o 1 (by omega) (by omega), o 2 (by omega) (by omega), o 3 (by omega) (by omega), o 5 (by omega) (by omega), o 6 (by omega) (by omega), o 7 (by omega) (by omega)]
    exact ⟨a.1, a.2.1, a.2.2.1, a.2.2.2.1, rfl, a.2.2.2.2.2.1, a.2.2.2.2.2.2.1, a.2.2.2.2.2.2.2⟩
  · rw [rCrT_4] at r
    by_cases hq : x = T 4
    · subst hq
      have z := rCrT_n (v0 := v0) (v1 := v1) (v2 := v2) (v3 := v3) (v4 := v4) (v5 := v5) (v6 := v6) h4.1
      unfold cCr
      rw [z.1, z.2.1, z.2.2.1, z.2.2.2.1, z.2.2.2.2.1, z.2.2.2.2.2.1, z.2.2.2.2.2.2]
      exact w
    · have y := b x p (by omega)
      have cxx := cx x
      have fx : ∀ i, G (cX t x) i = F (cX t x) i := fun i => e _ i (by omega) (by omega) (by omega)
      unfold cCr at *
      rw [fx, fx, fx, fx, fx, fx, fx, o _ (by omega) (by omega), o _ (by omega) (by omega), o _ (by omega) (by omega), o _ (by omega) (by omega), o _ (by omega) (by omega), o _ (by omega) (by omega), o _ (by omega) (by omega)]
      exact y
  · rw [o 5 (by omega) (by omega)] at r
    rw [e _ _ (by omega) (by omega) (by omega), o _ (by omega) (by omega)]
    exact c x p r
  · rw [e _ _ (by omega) (by omega) (by omega), o _ (by omega) (by omega)]
    exact s x p
  · rw [o 6 (by omega) (by omega)] at r
    rw [e _ _ (by omega) (by omega) (by omega), o _ (by omega) (by omega)]
    exact g x p r
  · rw [o 7 (by omega) (by omega)] at r
    rw [e _ _ (by omega) (by omega) (by omega), e _ _ (by omega) (by omega) (by omega), e _ _ (by omega) (by omega) (by omega), o _ (by omega) (by omega), o _ (by omega) (by omega), o _ (by omega) (by omega)]
    exact k x p r
end CL32
