section CL23
variable {X : List Int32} {d : Nat} {F : XF}
variable {T : Int → Int} {t n : Nat}
theorem cTw.tog {a : Int} (h : cTw F t T) (hT : mT T) (ha : 0 ≤ a ∧ a < 30) : cTw (xup F t 8 (xxor (F t 8) (xshl 1 a))) t (mSet T (108 + a) (1 - T (108 + a))) := by
  have tw := h.1
  have bu := h.2.2.2.1
  have yo : ∀ i, ¬ i = 108 + a → mSet T (108 + a) (1 - T (108 + a)) i = T i := fun i z => mSet_n z
  refine h.to hT (fun p i z => xup_n (by omega)) ⟨?_, ?_, ?_, ?_, ?_, ?_, ?_, ?_⟩ (yo _ (by omega)) (yo _ (by omega)) (yo _ (by omega)) (yo _ (by omega)) (fun i z => yo _ (by omega)) fun j hj => ?_
  · rw [xup_i (by omega), yo _ (by omega)]; exact tw.1
  · rw [xup_i (by omega), yo _ (by omega)]; exact tw.2.1
  · rw [xup_i (by omega), yo _ (by omega)]; exact tw.2.2.1
  · rw [xup_i (by omega), yo _ (by omega)]; exact tw.2.2.2.1
  · rw [xup_i (by omega), yo _ (by omega)]; exact tw.2.2.2.2.1
  · rw [xup_i (by omega), yo _ (by omega)]; exact tw.2.2.2.2.2.1
  · rw [xup_i (by omega), yo _ (by omega)]; exact tw.2.2.2.2.2.2.1
  · rw [xup_i (by omega), yo _ (by omega)]; exact tw.2.2.2.2.2.2.2
  · rw [xup_s, mbit_xor, mbit_shl' ha.1 (by omega) (by omega)]
    have bj := bu j hj
    by_cases v : (j : Int) = a
    · rw [decide_eq_true v, Bool.xor_true, v, mSet_s, ← v, bj]
      cases mbit (F t 8) j <;> decide
    · rw [decide_eq_false v, Bool.xor_false, yo _ (by omega)]
      exact bj
/-- the town told -/
def cTo (F : XF) (t : Nat) (T : Int → Int) : Prop := F 0 0 = (t : Int) ∧ xob 9 t ∧ t + 17 ≤ 37 ∧ mT T ∧ T 7 ≤ 6 ∧ cTw F t T
theorem cO.to (h : cO F t T) : cTo F t T := by
  have := xob9 h.2.1
  exact ⟨h.1, h.2.1, by have := h.2.2.1; omega, h.2.2.2.1, h.2.2.2.2.1, h.2.2.2.2.2.1⟩
section QV
variable {Q : XF → Prop}
theorem k96 (hP : xPT F) (hd : 2 < d) (h : cTo F t T) (q : ∀ G, xPT G → (∀ p i, ¬ (42 ≤ p ∧ p < 128) → G p i = F p i) → cN G t T 0 → Q G) : xMV X d 96 [.ref 0] F Q := by
  obtain ⟨h1, h2, h3, h4, h5, h6⟩ := h
  refine m96 hP ⟨t, h1, h2, 2, hd, k48 hP (by omega) o42 h2 h4 (by omega) h6 fun G hG kG cG wG sG g2 _ g5 eG => ⟨2, hd, k19 hG fun H hH kH aH => ⟨2, hd, k81 hH (by omega) fun K hK kK rK _ => ?_⟩⟩⟩
  have e : ∀ p i, ¬ (42 ≤ p ∧ p < 128) → K p i = F p i := fun p i z => by rw [kK p i (by omega) (by omega), kH p i (by omega), kG p i (by omega)]
  have r : ∀ p i, (42 ≤ p ∧ p < 70) → K p i = G p i := fun p i z => by rw [kK p i (by omega) (by omega), kH p i (by omega)]
  refine q K hK e ⟨⟨by rw [e 0 0 (by omega)]; exact h1, h2, by omega, h4, h5, h6.of h4 fun p i z => e p i (by omega), (aH T).of fun p i z => kK p i (by omega) (by omega), rK T⟩, ⟨cG.of h4 (fun p i z => r p i (by omega)) fun _ _ => rfl, by rw [r 42 2 (by omega)]; exact g2, by rw [r 42 5 (by omega)]; exact Or.inl g5⟩, fun x k a b c f => ?_, fun c a b => by rw [r _ _ (by omega)]; exact wG c a b, eG.of fun p i z => r p i (by omega), mEn_0, by omega⟩
  have : cY 42 x = 42 + 12 + 6 + x.toNat := rfl
  have h10 := h4.2.2.2.2.1
  rw [r _ _ (by omega)]
  exact sG x k a b c f
end QV
variable {Q : Int → XF → Prop}
/-- behind an act: the town is T', the run begins anew, the act is kept -/
def cAct (F : XF) (t : Nat) (T' : Int → Int) (k a b c : Int) (Q : XF → Prop) : Prop := ∀ G, xPT G → (∀ p i, ¬ (t ≤ p ∧ p < t + 17) → ¬ (37 ≤ p ∧ p ≤ 130) → G p i = F p i) → cPush F G k a b c → cN G t T' 0 → Q G
theorem cPush.of {F F' G G' : XF} {k a b c : Int} (h : cPush F G k a b c) (e : ∀ p i, (37 ≤ p ∧ p ≤ 41) → F' p i = F p i) (e' : ∀ p i, (37 ≤ p ∧ p ≤ 41) → G' p i = G p i) : cPush F' G' k a b c := by
  unfold cPush cEq cEt at *
  rw [e 37 0 (by omega), e' 37 0 (by omega)]
  rcases h with h | h
  · refine Or.inl ⟨h.1, h.2.1, fun j x y => ?_, ?_⟩
    · rw [e _ _ (by omega), e _ _ (by omega), e _ _ (by omega), e _ _ (by omega), e' _ _ (by omega), e' _ _ (by omega), e' _ _ (by omega), e' _ _ (by omega)]
      exact h.2.2.1 j x y
    · rw [e' _ _ (by omega), e' _ _ (by omega), e' _ _ (by omega), e' _ _ (by omega)]
      exact h.2.2.2
  · refine Or.inr ⟨h.1, h.2.1, fun j x y => ?_, ?_⟩
    · rw [e _ _ (by omega), e _ _ (by omega), e _ _ (by omega), e _ _ (by omega), e' _ _ (by omega), e' _ _ (by omega), e' _ _ (by omega), e' _ _ (by omega)]
      exact h.2.2.1 j x y
    · rw [e' _ _ (by omega), e' _ _ (by omega), e' _ _ (by omega), e' _ _ (by omega)]
      exact h.2.2.2
/-- an act is kept, the run begins anew -/
theorem kAct {F0 : XF} {T' : Int → Int} {k a b c : Int} {Q : XF → Prop} (hP : xPT F) (hd : 3 < d) (h0 : ∀ p i, ¬ (t ≤ p ∧ p < t + 17) → F p i = F0 p i) (h : cTo F t T') (hn : 0 ≤ F0 37 0 ∧ F0 37 0 ≤ 10) (q : cAct F0 t T' k a b c Q) : ∃ j1, j1 < d ∧ xMV X j1 2 [.ref 37, vi k, vi a, vi b, vi c] F (fun G3 => ∃ j4, j4 < d ∧ xMV X j4 96 [.ref 0] G3 Q) := by
  have h3 := h.2.2.1
  have e37 : ∀ p i, (37 ≤ p ∧ p ≤ 41) → F0 p i = F p i := fun p i z => (h0 p i (by omega)).symm
  have hn' : 0 ≤ F 37 0 ∧ F 37 0 ≤ 10 := by rw [h0 37 0 (by omega)]; exact hn
  have tb := xob9 h.2.1
  refine ⟨3, hd, k2 hP (by omega) hn' fun G hG kG pG => ⟨3, hd, k96 (T := T') hG (by omega) ⟨by rw [kG 0 0 (by omega) (by omega)]; exact h.1, h.2.1, h.2.2.1, h.2.2.2.1, h.2.2.2.2.1, h.2.2.2.2.2.of h.2.2.2.1 fun p i z => kG p i (by omega) (by omega)⟩ fun H hH kH nH => q H hH (fun p i x y => ?_) (pG.of e37 fun p i z => kH p i (by omega)) nH⟩⟩
  rw [kH p i (by omega), kG p i (by omega) (by omega), h0 p i x]
theorem k97 {c : Int} (hP : xPT F) (hd : 3 < d) (hc : inR c) (h : cO F t T) (hn : 0 ≤ F 37 0 ∧ F 37 0 ≤ 10) (q0 : ¬ (0 ≤ c ∧ c ≤ T 5 - 2) → Q (-2) F) (q1 : (0 ≤ c ∧ c ≤ T 5 - 2) → cAct F t (mSet T (108 + c) (1 - T (108 + c))) 0 c 0 0 (Q (mS (mSet T (108 + c) (1 - T (108 + c))) 0 0))) : xMI X d 97 [.ref 0, vi c] F Q := by
  have hT := h.2.2.2.1
  have h5 := hT.2.2.2.2.2.1
  have hs := hT.2.2.2.2.2.2.2.2.2.2.2.1
  have ht := h.to
  refine m97 hP ⟨hc, fun z _ => q0 (by omega), fun z => ⟨t, h.1, h.2.1, ?_⟩⟩
  rw [h.2.2.2.2.2.1.1.2.2.2.2.2.1]
  refine ⟨hc, ⟨by omega, by omega⟩, fun z1 => ⟨t, h.1, h.2.1, ?_⟩, fun z1 _ => q0 (by omega)⟩
  have sc := hs c (by omega) (by omega)
  have hT2 : mT (mSet T (108 + c) (1 - T (108 + c))) := mT_set hT (by omega)
  refine kAct (F0 := F) (t := t) (T' := mSet T (108 + c) (1 - T (108 + c))) (xPT_fld (k := 8) hP h.2.1 (by decide) (by decide)) hd (fun p i z => xup_o (by omega)) ⟨by have := h.1; have := ht.2.2.1; have tb := xob9 h.2.1; rw [xup_o (by omega)]; exact h.1, h.2.1, ht.2.2.1, hT2, by rw [mSet_n (by omega)]; exact h.2.2.2.2.1, h.2.2.2.2.2.1.tog hT (by omega)⟩ hn fun G hG kG pG nG _ => ?_
  have e : G 43 0 = mS (mSet T (108 + c) (1 - T (108 + c))) 0 0 := (nG.2.1.1.cars hT2).1
  rw [e]
  exact q1 (by omega) G hG kG pG nG
theorem k98 {u : Int} (hP : xPT F) (hd : 3 < d) (hu : inR u) (h : cO F t T) (hn : 0 ≤ F 37 0 ∧ F 37 0 ≤ 10) (q0 : ¬ (0 ≤ u ∧ u ≤ 999) → Q (-3) F) (q1 : (0 ≤ u ∧ u ≤ 999) → cAct F t (mSet T 3 u) 1 (T 3) 0 0 (Q (T 3))) : xMI X d 98 [.ref 0, vi u] F Q := by
  have hT := h.2.2.2.1
  have ht := h.to
  have tb := xob9 h.2.1
  refine m98 hP ⟨hu, fun z _ => q0 (by omega), fun z => ⟨hu, fun z1 => ⟨t, h.1, h.2.1, t, h.1, h.2.1, ?_⟩, fun z1 _ => q0 (by omega)⟩⟩
  rw [h.2.2.2.2.2.1.1.2.2.2.1]
  have hT2 : mT (mSet T 3 u) := mT_set hT (by omega)
  exact kAct (F0 := F) (t := t) (T' := mSet T 3 u) (xPT_fld (k := 3) hP h.2.1 (by decide) (by decide)) hd (fun p i z => xup_o (by omega)) ⟨by rw [xup_o (by omega)]; exact h.1, h.2.1, ht.2.2.1, hT2, by rw [mSet_n (by omega)]; exact h.2.2.2.2.1, h.2.2.2.2.2.1.v3 hT⟩ hn fun G hG kG pG nG _ => q1 (by omega) G hG kG pG nG
theorem k103 (hP : xPT F) (hd : 2 < d) (h : cN F t T n) (q : ∀ G, xPT G → (∀ p i, ¬ (42 ≤ p ∧ p < 70) → G p i = F p i) → cN G t T 0 → Q (n : Int) G) : xMI X d 103 [.ref 0] F Q := by
  obtain ⟨h1, h2, h3, h4, h5, h6, h7, h8⟩ := h.1
  have tb := xob9 h2
  refine m103 hP ⟨t, h1, h2, 2, hd, k48 hP (by omega) o42 h2 h4 (by omega) h6 fun G hG kG cG wG sG g2 _ g5 eG _ => ?_⟩
  rw [h.2.1.2.1]
  exact q G hG (fun p i z => kG p i (by omega)) ⟨⟨by rw [kG 0 0 (by omega)]; exact h1, h2, h3, h4, h5, h6.of h4 fun p i z => kG p i (by omega), h7.of fun p i z => kG p i (by omega), h8.of (kG 104 1 (by omega)) fun p i z => kG p i (by omega)⟩, ⟨cG, g2, Or.inl g5⟩, sG, wG, eG, mEn_0, by omega⟩
end CL23
