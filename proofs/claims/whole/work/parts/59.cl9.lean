section CL9
variable {X : List Int32} {d : Nat} {F : XF}
section PU
variable {T R R' E : Int → Int} {S : Nat → Int → Int} {t cl : Int}
theorem mGo_e {c : Int} (h : ∀ i, (0 ≤ i ∧ i < 30) ∨ i = 131 → R' i = R i) (hc : 0 ≤ c ∧ c < 30) : mGo T S R' t cl c = mGo T S R t cl c := by
  unfold mGo
  rw [h c (by omega)]
  by_cases z : 0 < c
  · rw [h (c - 1) (by omega)]
  · rw [if_neg (fun w => z w.1), if_neg (fun w => z w.1)]
theorem mCar_e {c : Int} (h : ∀ i, (0 ≤ i ∧ i < 30) ∨ i = 131 → R' i = R i) (hc : 0 ≤ c ∧ c < 30) : (∀ i, (R' i = R i ∨ i = 30 + c) → mCar T S t cl c R' i = mCar T S t cl c R i) ∧ mCarE T S t cl c R' E = mCarE T S t cl c R E := by
  have g := mGo_e (T := T) (S := S) (t := t) (cl := cl) h hc
  have e := h c (by omega)
  unfold mCar mCarE
  rw [e, g]
  constructor
  · intro i hi
    have s : ∀ v, mSet R' (30 + c) v i = mSet R (30 + c) v i := fun v => by
      by_cases z : i = 30 + c
      · rw [z, mSet_s, mSet_s]
      · rw [mSet_n z, mSet_n z]; rcases hi with hi | hi; exact hi; exact absurd hi z
    by_cases q1 : T 0 ≤ R c - T (78 + c)
    · rw [if_pos q1, if_pos q1]; exact s _
    rw [if_neg q1, if_neg q1]
    by_cases q2 : t < T 3
    · rw [if_pos q2, if_pos q2]; exact s _
    rw [if_neg q2, if_neg q2]
    by_cases q3 : mV (mBrk T c t) = 1
    · rw [if_pos q3, if_pos q3]; exact s _
    rw [if_neg q3, if_neg q3]
    unfold mRw
    rw [e, h 131 (by omega)]
    by_cases z1 : i = 131
    · rw [if_pos z1, if_pos z1]
    rw [if_neg z1, if_neg z1]
    by_cases z2 : i = c
    · rw [if_pos z2, if_pos z2]
    rw [if_neg z2, if_neg z2]
    by_cases z3 : i = 30 + c
    · rw [if_pos z3, if_pos z3]
    rw [if_neg z3, if_neg z3]
    rcases hi with hi | hi
    · exact hi
    · exact absurd hi z3
  · rfl
theorem mK_e (h5 : T 5 ≤ 30) (h : ∀ i, (0 ≤ i ∧ i < 30) ∨ i = 131 → R' i = R i) : ∀ k : Nat, (k : Int) ≤ T 5 → (∀ i, ((0 ≤ i ∧ i < 30) ∨ i = 131 ∨ (30 ≤ i ∧ i < 30 + (k : Int))) → mK T S t cl R' k i = mK T S t cl R k i) ∧ mKE T S t cl R' E k = mKE T S t cl R E k
  | 0, _ => ⟨fun i hi => h i (by omega), rfl⟩
  | k + 1, hk => by
    obtain ⟨a, b⟩ := mK_e h5 h k (by omega)
    have c := mCar_e (T := T) (S := S) (t := t) (cl := cl) (E := mKE T S t cl R E k) (c := k) (R := mK T S t cl R k) (R' := mK T S t cl R' k) (fun i hi => a i (by omega)) (by omega)
    constructor
    · intro i hi
      refine c.1 i ?_
      by_cases z : i = 30 + (k : Int)
      · exact Or.inr z
      · exact Or.inl (a i (by omega))
    · show mCarE T S t cl k (mK T S t cl R' k) (mKE T S t cl R' E k) = mCarE T S t cl k (mK T S t cl R k) (mKE T S t cl R E k)
      rw [b]
      exact c.2
end PU
section TICK
variable {T : Int → Int} {r t n : Nat} {Q : XF → Prop} {E : Int → Int}
/-- the run r is behind n ticks of T, its streets aside -/
def cRu (F : XF) (r t : Nat) (T : Int → Int) (n : Nat) : Prop := cCo F r t T (mRun T n) ∧ F r 2 = (n : Int) ∧ (F r 5 = 0 ∨ F r 5 = 1)
theorem k60r {s : XF} (hs : s = F) (hP : xPT F) (hd : 3 < d) (hr : xob 6 r) (ht : xob 9 t) (hT : mT T) (hdis : t + 17 ≤ r ∨ r + 28 ≤ t) (hw : cTw F t T) (h : cRu F r t T n) (hn : n ≤ 9000) (hE : cEv F r E) (hEn : mEn E) (q : ∀ G, xPT G → cKm r F G → cCo G r t T (mRun T (n + 1)) → G r 2 = (n : Int) → cWh G r T (mRun T (n + 1)) → cEv G r (mTkE T (mS T) (mRun T n) E) → mEn (mTkE T (mS T) (mRun T n) E) → (G r 4 = 0 ∨ G r 4 = 1) → (G r 4 = 0 → ∀ c, 0 ≤ c → c < T 5 → mRun T (n + 1) c = mRun T n c) → (G r 5 = 0 ∨ G r 5 = 1) → cS5 F G r (mRun T (n + 1)) (T 5) → Q G) : xMV X d 60 [.ref r] F Q := by
  have h4 := hT.2.2.2.2.1
  have h5 := hT.2.2.2.2.2.1
  have J := (mRun_I hT n hn).1.1
  have e130 := mRun_130 hT n
  have ke := mK_e (T := T) (S := mS T) (t := mRun T n 130) (cl := mV (mClo T (mRun T n))) (E := E) (R := mRun T n) (R' := mSts T (mS T) (T 4) (mRun T n 130) (mRun T n)) h5.2 (fun i hi => mSts_f h4.2 (by omega)) (T 5).toNat (by omega)
  have et : ∀ i, ((0 ≤ i ∧ i < 30) ∨ i = 131 ∨ (30 ≤ i ∧ i < 30 + T 5)) → mRun T (n + 1) i = mK T (mS T) (mRun T n 130) (mV (mClo T (mRun T n))) (mRun T n) (T 5).toNat i := fun i hi => by
    show mTk T (mS T) (mRun T n) i = _
    rw [mTk_f hT (by omega)]
    exact ke.1 i (by omega)
  have ee : mTkE T (mS T) (mRun T n) E = mKE T (mS T) (mRun T n 130) (mV (mClo T (mRun T n))) (mRun T n) E (T 5).toNat := ke.2
  refine k60 (tick := mRun T n 130) (E := E) (cl := mV (mClo T (mRun T n))) hP hd hr ht hT hdis hw h.1 J (by rw [e130]; exact h.2.1) (by omega) h.2.2 hE hEn rfl fun G hG kG cG wG eG nG m4 m4' m5 m5' => q G hG kG (cG.of hT (fun _ _ _ => rfl) fun i hi => et i (by omega)) (by rw [kG r 2 (by omega)]; exact h.2.1) (fun c a b => by rw [et _ (by omega)]; exact wG c a b) (by rw [ee]; exact eG) (by rw [ee]; exact nG) m4 (fun z c a b => by rw [et c (by omega)]; exact m4' z c a b) m5 ?_
  unfold cS5 at *
  rw [m5']
  constructor
  · rintro (z | ⟨c, a, b, e⟩)
    · exact Or.inl z
    · exact Or.inr ⟨c, a, b, by rw [et _ (by omega)]; exact e⟩
  · rintro (z | ⟨c, a, b, e⟩)
    · exact Or.inl z
    · exact Or.inr ⟨c, a, b, by rw [← et _ (by omega)]; exact e⟩
theorem cRu.up {G : XF} (hT : mT T) (h : cCo G r t T (mRun T (n + 1))) (h5 : G r 5 = 0 ∨ G r 5 = 1) : cRu (xup G r 2 ((n : Int) + 1)) r t T (n + 1) := ⟨h.of hT (fun p i z => xup_n (by omega)) fun _ _ => rfl, xup_s, by rw [xup_i (by omega)]; exact h5⟩
/-- a tick, streets aside -/
theorem k54 (hP : xPT F) (hd : 4 < d) (hr : xob 6 r) (ht : xob 9 t) (hT : mT T) (hdis : t + 17 ≤ r ∨ r + 28 ≤ t) (hw : cTw F t T) (h : cRu F r t T n) (hn : n ≤ 9000) (hE : cEv F r E) (hEn : mEn E) (q : ∀ G, xPT G → cK r 28 F G → cRu G r t T (n + 1) → cWh G r T (mRun T (n + 1)) → cEv G r (mTkE T (mS T) (mRun T n) E) → mEn (mTkE T (mS T) (mRun T n) E) → cS5 F G r (mRun T (n + 1)) (T 5) → Q G) : xMV X d 54 [.ref r] F Q := by
  refine m54 hP hr ⟨4, hd, k60r (s := F) rfl hP (by omega) hr ht hT hdis hw h hn hE hEn fun G hG kG cG g2 wG eG nG m4 m4' m5 m5' => ?_⟩
  rw [g2]
  intro hH
  refine q _ hH (fun p i z => by rw [xup_n (by omega)]; exact kG p i (by omega)) (cRu.up hT cG m5) (fun c a b => by rw [xup_o (by omega)]; exact wG c a b) (eG.of fun p i z => xup_n (by omega)) nG ?_
  unfold cS5 at *
  rw [xup_i (by omega)]
  exact m5'
/-- a tick -/
theorem k53 (hP : xPT F) (hd : 4 < d) (hr : xob 6 r) (ht : xob 9 t) (hT : mT T) (hdis : t + 17 ≤ r ∨ r + 28 ≤ t) (hw : cTw F t T) (h : cRu F r t T n) (hS : cSt F r T (mRun T n)) (hn : n ≤ 8999) (hE : cEv F r E) (hEn : mEn E) (q : ∀ G, xPT G → cK r 28 F G → cRu G r t T (n + 1) → cSt G r T (mRun T (n + 1)) → cWh G r T (mRun T (n + 1)) → cEv G r (mTkE T (mS T) (mRun T n) E) → mEn (mTkE T (mS T) (mRun T n) E) → cS5 F G r (mRun T (n + 1)) (T 5) → Q G) : xMV X d 53 [.ref r] F Q := by
  have h4 := hT.2.2.2.2.1
  have h5 := hT.2.2.2.2.2.1
  have hX := hT.2.2.2.2.2.2.2.2.1
  have I := (mRun_I hT n (by omega)).1
  have J := I.1
  have e130 := mRun_130 hT n
  have loop : ∀ (m : Nat) (x : Int) (G : XF), xPT G → 0 ≤ x → x + m = T 4 → (∀ p i, ¬ (r + 18 ≤ p ∧ p < r + 28) → G p i = F p i) → (∀ y, x ≤ y → y < T 4 → ∀ k, 0 ≤ k → k < 7 → G (cY r y) k = mRun T n (60 + 7 * y + k)) → (∀ y, 0 ≤ y → y < x → ∀ k, 0 ≤ k → k < 7 → G (cY r y) k = mRun T (n + 1) (60 + 7 * y + k)) → xW X d 53 2 [.ref r, vi x] [] G (xqv Q) := by
    intro m
    induction m with
    | zero =>
      intro x G hG hx hm hk ho hd'
      have gw : cTw G t T := hw.of hT fun p i z => hk p i (by omega)
      have gr : cRu G r t T n := ⟨h.1.of hT (fun p i z => hk p i (by omega)) fun _ _ => rfl, by rw [hk r 2 (by omega)]; exact h.2.1, by rw [hk r 5 (by omega)]; exact h.2.2⟩
      refine s53_2 hG hr ⟨t, gr.1.1, ht, ⟨by omega, by omega⟩, by rw [gw.1.2.2.2.2.1]; constructor <;> omega, fun _ => ⟨4, hd, k60r (s := G) rfl hG (by omega) hr ht hT hdis gw gr (by omega) (hE.of fun p i z => hk p i (by omega)) hEn fun H hH kH cH g2 wH eH nH m4 m4' m5 m5' => ?_⟩, fun z => absurd (by rw [gw.1.2.2.2.2.1]; omega) z⟩
      rw [g2]
      intro hK
      refine q _ hK (fun p i z => by rw [xup_n (by omega), kH p i (by omega)]; exact hk p i (by omega)) (cRu.up hT cH m5) (fun y k a b c' e => ?_) (fun c a b => by rw [xup_o (by omega)]; exact wH c a b) (eH.of fun p i z => xup_n (by omega)) nH ?_
      · have : cY r y = r + 12 + 6 + y.toNat := rfl
        rw [xup_o (by omega), kH _ _ (by omega)]
        exact hd' y a (by omega) k c' e
      · unfold cS5 at *
        rw [xup_i (by omega), ← hk r 5 (by omega)]
        exact m5'
    | succ m ih =>
      intro x G hG hx hm hk ho hd'
      have gw : cTw G t T := hw.of hT fun p i z => hk p i (by omega)
      have gC : cCo G r t T (mRun T n) := h.1.of hT (fun p i z => hk p i (by omega)) fun _ _ => rfl
      have g2 : G r 2 = (n : Int) := by rw [hk r 2 (by omega)]; exact h.2.1
      have sb := (mS_b hT).1
      have ey : cY r x = r + 12 + 6 + x.toNat := rfl
      have ex : cX t x = t + 1 + 6 + x.toNat := rfl
      have st : ∀ hh : Int, mB hh (mHeld T (mS T) (mRun T n) x) → xMV X 4 69 [.ref (r + 12 + 6 + (x : Int).toNat), .ref (t + 1 + 6 + (x : Int).toNat), vi (n : Int), vi hh] G (fun (G6 : XF) => (xPT G6 → xW X d 53 2 [.ref r, vi (x + 1)] [] G6 (xqv Q))) := fun hh eh => by
        refine k69 (T := T) (x := x) (R := mRun T n) hG (by omega) (cY_ob hr hx (by omega)) (cX_ob ht hx (by omega)) (hX x hx (by omega)) (gw.2.1 x hx (by omega)) (by omega) (by omega) eh.z (ho x (by omega) (by omega)) ?_ fun H hH kH sH hH2 => ih (x + 1) H hH2 (by omega) (by omega) (fun p i z => by rw [kH p i (by omega)]; exact hk p i z) (fun y a b k c e => ?_) (fun y a b k c e => ?_)
        · have := I.2.1 x hx (by omega)
          rw [e130] at this
          exact this
        · have : cY r y = r + 12 + 6 + y.toNat := rfl
          rw [kH _ _ (by omega)]
          exact ho y (by omega) b k c e
        · by_cases z : y = x
          · rw [z]
            rw [show mRun T (n + 1) (60 + 7 * x + k) = mTk T (mS T) (mRun T n) (60 + 7 * x + k) from rfl, mTk_st hT J (by omega) ⟨c, e⟩, e130, ← eh.v]
            exact sH k c e
          · have : cY r y = r + 12 + 6 + y.toNat := rfl
            rw [kH _ _ (by omega)]
            exact hd' y a (by omega) k c e
      have ch := mCn_h (R := mRun T n) (i := x) hT
      have cb := mCn_b (T := T) (S := mS T) (R := mRun T n) (i := x) (mS T 0 0).toNat
      have cb1 := cb.1
      have cb2 := cb.2.1
      clear cb
      refine s53_2 hG hr ⟨t, gC.1, ht, ⟨by omega, by omega⟩, by rw [gw.1.2.2.2.2.1]; constructor <;> omega, fun z => absurd z (by rw [gw.1.2.2.2.2.1]; omega), fun _ => ⟨by omega, t, gC.1, ht, by omega, by omega, ?_⟩⟩
      rw [gC.2.2.2.2.2.2 x hx (by omega), g2]
      refine ⟨⟨by omega, by omega⟩, fun z => ⟨4, hd, st 0 (mB.i0 (fun w => by have := ch.mpr w; omega))⟩, fun z => ⟨4, hd, st 1 (mB.i1 (ch.mp (by omega)))⟩⟩
  exact m53 hP hr fun _ => loop (T 4).toNat 0 F hP (by omega) (by omega) (fun _ _ _ => rfl) (fun y a b k c e => hS y k a b c e) fun y a b => by omega
end TICK
end CL9
