section JT1
variable {X : List Int32} {d : Nat} {F G H : XF} {t n : Nat} {T : Int → Int}
/-! class and reference side by side -/
theorem cN.as (h : cN F t T n) (o : cO G t T) (e : ∀ p i, (42 ≤ p ∧ p < 70) → G p i = F p i) : cN G t T n := by
  obtain ⟨h1, ⟨r1, r2, r3⟩, h3, h4, h5, h6, h7⟩ := h
  have hT := o.2.2.2.1
  have h10 := hT.2.2.2.2.1
  refine ⟨o, ⟨r1.of hT (fun p i z => e p i (by omega)) fun _ _ => rfl, by rw [e 42 2 (by omega)]; exact r2, by rw [e 42 5 (by omega)]; exact r3⟩, fun x k a b c f => ?_, fun c a b => by rw [e _ _ (by omega)]; exact h4 c a b, h5.of fun p i z => e p i (by omega), h6, h7⟩
  have : cY 42 x = 42 + 12 + 6 + x.toNat := rfl
  rw [e _ _ (by omega)]
  exact h3 x k a b c f
theorem cN.of (h : cN F t T n) (e : ∀ p i, p < 131 → G p i = F p i) : cN G t T n := by
  obtain ⟨o1, o2, o3, o4, o5, o6, o7, o8⟩ := h.1
  exact h.as ⟨by rw [e 0 0 (by omega)]; exact o1, o2, o3, o4, o5, o6.of o4 fun p i z => e p i (by omega), o7.of fun p i z => e p i (by omega), o8.of (e 104 1 (by omega)) fun p i z => e p i (by omega)⟩ fun p i z => e p i (by omega)
theorem mNow.k (h : mNow F n) (e2 : G 132 = F 132) (e0 : ∀ i, 0 ≤ i → i < 132 → G 140 i = F 140 i) (e20 : G 131 20 = F 131 20) (e1 : ∀ i, G 141 i = F 141 i) (s : mSA (F 132 5).toNat G) : mNow G n := by
  obtain ⟨h1, h2, h3, h4, h5⟩ := h
  unfold mNow
  have er : mRow G 0 = mRow F 0 := mRow_of fun i a b => by rw [show 0 + i = i by omega]; exact e0 i a b
  have ee : mEF G = mEF F := funext fun i => by
    unfold mEF
    rw [e20, e1]
  rw [er, ee, e2, e20]
  exact ⟨h1, h2, h3, h4, s⟩
theorem mNow.of (h : mNow F n) (e : ∀ p i, 131 ≤ p → G p i = F p i) : mNow G n := by
  have e' : ∀ p, 131 ≤ p → G p = F p := fun p hp => funext fun i => e p i hp
  exact h.k (e' 132 (by omega)) (fun i _ _ => e 140 i (by omega)) (e 131 20 (by omega)) (fun i => e 141 i (by omega)) (h.2.2.2.2.of (e' 132 (by omega)) ⟨e' 136 (by omega), e' 137 (by omega), e' 138 (by omega), e' 139 (by omega), e 131 17 (by omega)⟩)
/-- the tapes, and the faults -/
def jTp (F : XF) : Prop := F 131 4 = F 18 0 ∧ (0 ≤ F 18 0 ∧ F 18 0 ≤ 600) ∧ (∀ i, 0 ≤ i → i < F 18 0 → (-128 ≤ F 134 i ∧ F 134 i ≤ 127) ∧ F 19 i = (if F 134 i < 0 then F 134 i + 256 else F 134 i)) ∧ F 131 7 = F 18 1 ∧ F 131 8 = F 18 2
theorem jTp.of (h : jTp F) (e : ∀ p i, (p = 19 ∨ p = 134 ∨ (p = 18 ∧ (i = 0 ∨ i = 1 ∨ i = 2)) ∨ (p = 131 ∧ (i = 4 ∨ i = 7 ∨ i = 8))) → G p i = F p i) : jTp G := by
  unfold jTp at *
  rw [e 131 4 (by omega), e 131 7 (by omega), e 131 8 (by omega), e 18 0 (by omega), e 18 1 (by omega), e 18 2 (by omega)]
  refine ⟨h.1, h.2.1, fun i a b => ?_, h.2.2.2⟩
  rw [e 19 i (by omega), e 134 i (by omega)]
  exact h.2.2.1 i a b
/-- the acts -/
noncomputable def jS (F : XF) (j : Int) : Int → Int := if j = F 37 0 then F 132 else mSnap F j
def jAc (F : XF) : Prop := F 131 12 = F 37 0 ∧ (0 ≤ F 37 0 ∧ F 37 0 ≤ 10) ∧ (∀ j, 0 ≤ j → j < F 37 0 → mT (mSnap F j) ∧ mSnap F j 7 ≤ 6 ∧ cBk (F 38 j) (F 39 j) (F 40 j) (F 41 j) (jS F (j + 1)) (mSnap F j))
theorem mSnap_e {j k : Int} (e : ∀ i, 0 ≤ i → i < 163 → G 135 (163 * j + i) = F 135 (163 * k + i)) (e2 : ∀ i, ¬ (0 ≤ i ∧ i < 163) → G 132 i = F 132 i) : mSnap G j = mSnap F k := funext fun i => by
  unfold mSnap
  by_cases h : 0 ≤ i ∧ i < 163
  · rw [if_pos h, if_pos h, e i h.1 h.2]
  · rw [if_neg h, if_neg h, e2 i h]
theorem mSnap_t {j : Int} (e : ∀ i, 0 ≤ i → i < 163 → G 135 (163 * j + i) = F 132 i) (e2 : ∀ i, ¬ (0 ≤ i ∧ i < 163) → G 132 i = F 132 i) : mSnap G j = F 132 := funext fun i => by
  unfold mSnap
  by_cases h : 0 ≤ i ∧ i < 163
  · rw [if_pos h, e i h.1 h.2]
  · rw [if_neg h, e2 i h]
theorem jAc.of (h : jAc F) (e : ∀ p i, (p = 132 ∨ p = 135 ∨ (37 ≤ p ∧ p ≤ 41) ∨ (p = 131 ∧ i = 12)) → G p i = F p i) : jAc G := by
  have es : ∀ j, mSnap G j = mSnap F j := fun j => mSnap_e (fun i _ _ => e 135 _ (by omega)) fun i _ => e 132 i (by omega)
  have ej : ∀ j, jS G j = jS F j := fun j => by
    unfold jS
    rw [e 37 0 (by omega), es, show G 132 = F 132 from funext fun i => e 132 i (by omega)]
  unfold jAc at *
  rw [e 131 12 (by omega), e 37 0 (by omega)]
  refine ⟨h.1, h.2.1, fun j a b => ?_⟩
  rw [es, ej, e 38 j (by omega), e 39 j (by omega), e 40 j (by omega), e 41 j (by omega)]
  exact h.2.2 j a b
/-- the other town -/
def jTw (F : XF) (t : Nat) : Prop := ∃ u : Nat, F 18 5 = (u : Int) ∧ xob 9 u ∧ u + 17 ≤ 37 ∧ ¬ u = t
def jJ (F : XF) : Prop := ∃ (t n : Nat), cN F t (F 132) n ∧ mNow F n ∧ jTw F t ∧ jTp F ∧ jAc F
/-- the two calls of one step: alike, and side by side again -/
def jR (X : List Int32) (zc zr : Nat) (as bs : List Value) (F : XF) : Prop := ∃ R : Int → XF → Prop, xMI X 20 zc as F R ∧ ∀ y G, xPT G → R y G → xMI X 20 zr bs G (fun y2 H => y2 = y ∧ jJ H)
/-- a question as if -/
theorem jJ.q (hN : cN F t (F 132) n) (hM : mNow F n) (hW : jTw F t) (hT : jTp F) (hA : jAc F) (a : cAs F G) (o : cO G t (F 132)) (k : mKb G H) (e : H 132 = G 132) (s : mSA (G 132 5).toNat H) : jJ H := by
  have g2 : G 132 = F 132 := funext fun i => a 132 i (by omega)
  have hG : mNow G n := hM.of fun p i z => a p i (by omega)
  have nG : cN G t (F 132) n := hN.as o fun p i z => a p i (by omega)
  have l : ∀ p i, p < 70 → H p i = F p i := fun p i z => by rw [k.1 p i (by omega), a p i (by omega)]
  have m : ∀ i, ¬ i = 0 → ¬ i = 17 → ¬ i = 21 → ¬ i = 22 → ¬ i = 27 → H 131 i = F 131 i := fun i h1 h2 h3 h4 h5 => by rw [k.2.1 i h1 h2 h3 h4 h5, a 131 i (by omega)]
  have m5 : ∀ i, H 134 i = F 134 i := fun i => by rw [k.1 134 i (by omega), a 134 i (by omega)]
  have m6 : ∀ i, H 135 i = F 135 i := fun i => by rw [k.1 135 i (by omega), a 135 i (by omega)]
  have h2 : H 132 = F 132 := e.trans g2
  refine ⟨t, n, ?_, hG.k e (fun i x y => k.2.2 i x y) (k.2.1 20 (by omega) (by omega) (by omega) (by omega) (by omega)) (fun i => k.1 141 i (by omega)) s, ?_, ?_, ?_⟩
  · rw [h2]
    exact nG.of fun p i z => k.1 p i (by omega)
  · obtain ⟨u, w⟩ := hW
    exact ⟨u, by rw [l 18 5 (by omega)]; exact w.1, w.2⟩
  · refine hT.of fun p i z => ?_
    rcases z with z | z | z | z
    · exact l p i (by omega)
    · subst z; exact m5 i
    · exact l p i (by omega)
    · rw [z.1]; exact m i (by omega) (by omega) (by omega) (by omega) (by omega)
  · refine hA.of fun p i z => ?_
    rcases z with z | z | z | z
    · rw [z, h2]
    · rw [z]; exact m6 i
    · exact l p i (by omega)
    · rw [z.1, z.2]; exact m 12 (by omega) (by omega) (by omega) (by omega) (by omega)
theorem jR_q {zc zr : Nat} {as bs : List Value} {v : Int} (hN : cN F t (F 132) n) (hM : mNow F n) (hW : jTw F t) (hT : jTp F) (hA : jAc F) (hc : ∀ Q : Int → XF → Prop, cQ F t (F 132) Q v → xMI X 20 zc as F Q) (hr : ∀ G, xPT G → G 132 = F 132 → mNow G n → (∀ i, G 131 i = F 131 i) → ∀ Q : Int → XF → Prop, mQ G Q v → xMI X 20 zr bs G Q) : jR X zc zr as bs F := by
  refine ⟨fun y G => y = v ∧ cAs F G ∧ cO G t (F 132), hc _ fun G hG a o => ⟨rfl, a, o⟩, fun y G hG z => ?_⟩
  obtain ⟨z1, a, o⟩ := z
  refine hr G hG (funext fun i => a 132 i (by omega)) (hM.of fun p i z => a p i (by omega)) (fun i => a 131 i (by omega)) _ fun H hH k e s => ⟨z1.symm, jJ.q hN hM hW hT hA a o k e s⟩
/-- the run is changed -/
theorem jJ.r {m : Nat} (hW : jTw F t) (hT : jTp F) (hA : jAc F) (a : ∀ p i, ¬ (42 ≤ p ∧ p < 70) → G p i = F p i) (nG : cN G t (F 132) m) (k : mKr G H) (hm : mNow H m) : jJ H := by
  have g2 : G 132 = F 132 := funext fun i => a 132 i (by omega)
  have h2 : H 132 = F 132 := k.t.trans g2
  have l : ∀ p i, p < 42 → H p i = F p i := fun p i z => by rw [k.1 p i (by omega), a p i (by omega)]
  have m1 : ∀ i, ¬ i = 0 → ¬ i = 17 → ¬ i = 20 → ¬ i = 21 → ¬ i = 22 → H 131 i = F 131 i := fun i h1 h2 h3 h4 h5 => by rw [k.2 i h1 h2 h3 h4 h5, a 131 i (by omega)]
  refine ⟨t, m, ?_, hm, ?_, ?_, ?_⟩
  · rw [h2]
    exact nG.of fun p i z => k.1 p i (by omega)
  · obtain ⟨u, w⟩ := hW
    exact ⟨u, by rw [l 18 5 (by omega)]; exact w.1, w.2⟩
  · refine hT.of fun p i z => ?_
    rcases z with z | z | z | z
    · exact l p i (by omega)
    · rw [k.1 p i (by omega), a p i (by omega)]
    · exact l p i (by omega)
    · rw [z.1]; exact m1 i (by omega) (by omega) (by omega) (by omega) (by omega)
  · refine hA.of fun p i z => ?_
    rcases z with z | z | z | z
    · rw [z, h2]
    · rw [k.1 p i (by omega), a p i (by omega)]
    · exact l p i (by omega)
    · rw [z.1, z.2]; exact m1 12 (by omega) (by omega) (by omega) (by omega) (by omega)
/-- an act is kept -/
theorem jJ.a {T' : Int → Int} {k a b c : Int} (h0 : cTo F t (F 132)) (hW : jTw F t) (hT : jTp F) (hA : jAc F) (f : ∀ p i, ¬ (t ≤ p ∧ p < t + 17) → ¬ (37 ≤ p ∧ p ≤ 130) → G p i = F p i) (pc : cPush F G k a b c) (nG : cN G t T' 0) (hb : cBk k a b c T' (F 132)) (ho : ∀ i, ¬ (0 ≤ i ∧ i < 163) → T' i = F 132 i) (kr : mKc G H) (pr : mPush G H) (h2 : H 132 = T') (hm : mNow H 0) : jJ H := by
  obtain ⟨_, t2, t3, mT', m6, _⟩ := h0
  have tb := xob9 t2
  have l : ∀ p i, p < 37 → ¬ (t ≤ p ∧ p < t + 17) → H p i = F p i := fun p i z1 z2 => by rw [kr.1 p i (by omega), f p i z2 (by omega)]
  have lg : ∀ p i, p < 131 → H p i = G p i := fun p i z => kr.1 p i (by omega)
  have m1 : ∀ i, ¬ i = 0 → ¬ i = 12 → ¬ i = 17 → ¬ i = 20 → ¬ i = 21 → ¬ i = 22 → H 131 i = F 131 i := fun i h0 h1 h2 h3 h4 h5 => by rw [kr.2 i h0 h1 h2 h3 h4 h5, f 131 i (by omega) (by omega)]
  have g2 : ∀ i, G 132 i = F 132 i := fun i => f 132 i (by omega) (by omega)
  have g5 : ∀ i, G 135 i = F 135 i := fun i => f 135 i (by omega) (by omega)
  have g12 : G 131 12 = F 131 12 := f 131 12 (by omega) (by omega)
  have o2 : ∀ i, ¬ (0 ≤ i ∧ i < 163) → H 132 i = F 132 i := fun i z => by rw [h2]; exact ho i z
  obtain ⟨A1, A2, A3⟩ := hA
  refine ⟨t, 0, ?_, hm, ?_, ?_, ?_⟩
  · rw [h2]
    exact nG.of fun p i z => lg p i z
  · obtain ⟨u, w⟩ := hW
    exact ⟨u, by rw [l 18 5 (by omega) (by omega)]; exact w.1, w.2⟩
  · refine hT.of fun p i z => ?_
    rcases z with z | z | z | z
    · exact l p i (by omega) (by omega)
    · rw [kr.1 p i (by omega), f p i (by omega) (by omega)]
    · exact l p i (by omega) (by omega)
    · rw [z.1]; exact m1 i (by omega) (by omega) (by omega) (by omega) (by omega) (by omega)
  · unfold mPush at pr
    rw [g12, A1] at pr
    unfold jAc
    rw [lg 37 0 (by omega)]
    rcases pc with ⟨c1, c2, c3, c4⟩ | ⟨c1, c2, c3, c4⟩
    · rcases pr with ⟨r1, r2, r3, r4⟩ | ⟨r1, _⟩
      · have es : ∀ j, 0 ≤ j → j < F 37 0 → mSnap H j = mSnap F j := fun j x y => mSnap_e (fun i u v => by rw [r3 j i x y u v, g5]) o2
        have el : mSnap H (F 37 0) = F 132 := mSnap_t (fun i u v => by rw [r4 i u v, g2]) o2
        rw [c2, r2]
        refine ⟨rfl, by omega, fun j x y => ?_⟩
        have hS : ∀ j, 0 ≤ j → j ≤ F 37 0 → mSnap H j = jS F j := fun j x y => by
          unfold jS
          by_cases z : j = F 37 0
          · rw [if_pos z, z]; exact el
          · rw [if_neg z]; exact es j x (by omega)
        by_cases z : j = F 37 0
        · subst z
          rw [el]
          refine ⟨mT', m6, ?_⟩
          have ej : jS H (F 37 0 + 1) = T' := by
            unfold jS
            rw [lg 37 0 (by omega), c2, if_pos rfl, h2]
          rw [ej, lg 38 _ (by omega), lg 39 _ (by omega), lg 40 _ (by omega), lg 41 _ (by omega), c4.1, c4.2.1, c4.2.2.1, c4.2.2.2]
          exact hb
        · have q := A3 j x (by omega)
          have ej : jS H (j + 1) = jS F (j + 1) := by
            rw [← hS (j + 1) (by omega) (by omega)]
            unfold jS
            rw [lg 37 0 (by omega), c2, if_neg (by omega)]
          have ce := c3 j x (by omega)
          rw [es j x (by omega), ej, lg 38 _ (by omega), lg 39 _ (by omega), lg 40 _ (by omega), lg 41 _ (by omega), ce.1, ce.2.1, ce.2.2.1, ce.2.2.2]
          exact q
      · omega
    · rcases pr with ⟨r1, _⟩ | ⟨r1, r2, r3, r4⟩
      · omega
      · have es : ∀ j, 0 ≤ j → j < 9 → mSnap H j = mSnap F (j + 1) := fun j x y => mSnap_e (fun i u v => by rw [r3 j i x y u v, g5]) o2
        have el : mSnap H 9 = F 132 := mSnap_t (fun i u v => by rw [r4 i u v, g2]) o2
        rw [c2, r2]
        refine ⟨rfl, by omega, fun j x y => ?_⟩
        have hS : ∀ j, 0 ≤ j → j ≤ 9 → mSnap H j = jS F (j + 1) := fun j x y => by
          unfold jS
          by_cases z : j = 9
          · rw [if_pos (by omega), z]; exact el
          · rw [if_neg (by omega)]; exact es j x (by omega)
        by_cases z : j = 9
        · subst z
          rw [el]
          refine ⟨mT', m6, ?_⟩
          have ej : jS H (9 + 1) = T' := by
            unfold jS
            rw [lg 37 0 (by omega), c2, if_pos (by omega), h2]
          rw [ej, lg 38 _ (by omega), lg 39 _ (by omega), lg 40 _ (by omega), lg 41 _ (by omega), c4.1, c4.2.1, c4.2.2.1, c4.2.2.2]
          exact hb
        · have q := A3 (j + 1) (by omega) (by omega)
          have ej : jS H (j + 1) = jS F (j + 1 + 1) := by
            rw [← hS (j + 1) (by omega) (by omega)]
            unfold jS
            rw [lg 37 0 (by omega), c2, if_neg (by omega)]
          have ce := c3 j x (by omega)
          rw [es j x (by omega), ej, lg 38 _ (by omega), lg 39 _ (by omega), lg 40 _ (by omega), lg 41 _ (by omega), ce.1, ce.2.1, ce.2.2.1, ce.2.2.2]
          exact q
/-- an act, as both do it -/
theorem jR_a {zc zr : Nat} {as bs : List Value} {v : Int} {T' : Int → Int} {k a b c : Int} (hN : cN F t (F 132) n) (hM : mNow F n) (hW : jTw F t) (hT : jTp F) (hA : jAc F) (hb : cBk k a b c T' (F 132)) (ho : ∀ i, ¬ (0 ≤ i ∧ i < 163) → T' i = F 132 i) (hc : ∀ Q : Int → XF → Prop, cAct F t T' k a b c (Q v) → xMI X 20 zc as F Q) (hr : ∀ G, xPT G → G 132 = F 132 → mNow G n → (∀ i, G 131 i = F 131 i) → ∀ Q : Int → XF → Prop, mAct G T' (Q v) → xMI X 20 zr bs G Q) : jR X zc zr as bs F := by
  have h0 := hN.1.to
  have tb := xob9 h0.2.1
  have t3 := h0.2.2.1
  refine ⟨fun y G => y = v ∧ (∀ p i, ¬ (t ≤ p ∧ p < t + 17) → ¬ (37 ≤ p ∧ p ≤ 130) → G p i = F p i) ∧ cPush F G k a b c ∧ cN G t T' 0, hc _ fun G hG f pc nG => ⟨rfl, f, pc, nG⟩, fun y G hG z => ?_⟩
  obtain ⟨z1, f, pc, nG⟩ := z
  refine hr G hG (funext fun i => f 132 i (by omega) (by omega)) (hM.of fun p i z => f p i (by omega) (by omega)) (fun i => f 131 i (by omega) (by omega)) _ fun H hH kr pr h2 hm => ⟨z1.symm, jJ.a h0 hW hT hA f pc nG hb ho kr pr h2 hm⟩
end JT1
