section CL12
variable {X : List Int32} {d : Nat} {F : XF}
/-! the class's trials: what is found is kept -/
theorem cTw.to {G : XF} {t : Nat} {T T' : Int → Int} (h : cTw F t T) (hT : mT T) (e : ∀ p i, (t < p ∧ p < t + 17) → G p i = F p i) (a : G t 0 = T' 0 ∧ G t 1 = T' 1 ∧ G t 2 = T' 2 ∧ G t 3 = T' 3 ∧ G t 4 = T' 4 ∧ G t 6 = T' 5 ∧ G t 9 = T' 6 ∧ G t 11 = T' 7) (s4 : T' 4 = T 4) (s5 : T' 5 = T 5) (s6 : T' 6 = T 6) (s7 : T' 7 = T 7) (o : ∀ i, (8 ≤ i ∧ i < 108) ∨ 138 ≤ i → T' i = T i) (b : ∀ c : Nat, c < 30 → T' (108 + (c : Int)) = if mbit (G t 8) c then 1 else 0) : cTw G t T' := by
  have h4 := hT.2.2.2.2.1
  have h5 := hT.2.2.2.2.2.1
  have h6 := hT.2.2.2.2.2.2.1
  obtain ⟨_, x, c, _, g, k⟩ := h
  refine ⟨a, fun y p q => ?_, fun y p q => by rw [e _ _ (by omega), o _ (by omega)]; exact c y p (by omega), b, fun y p q => by rw [e _ _ (by omega), o _ (by omega)]; exact g y p (by omega), fun y p q => by rw [e _ _ (by omega), e _ _ (by omega), e _ _ (by omega), o _ (by omega), o _ (by omega), o _ (by omega)]; exact k y p (by omega)⟩
  have := x y p (by omega)
  unfold cCr cX at *
  have ex : ∀ i, G (t + 1 + 6 + y.toNat) i = F (t + 1 + 6 + y.toNat) i := fun i => e _ i (by omega)
  rw [ex, ex, ex, ex, ex, ex, ex, o _ (by omega), o _ (by omega), o _ (by omega), o _ (by omega), o _ (by omega), o _ (by omega), o _ (by omega)]
  exact this
theorem cTw.v1 {t : Nat} {T : Int → Int} {v : Int} (h : cTw F t T) (hT : mT T) : cTw (xup F t 1 v) t (mSet T 1 v) := by
  have b := h.2.2.2.1
  obtain ⟨a0, a1, a2, a3, a4, a5, a6, a7⟩ := h.1
  refine h.to hT (fun p i z => xup_n (by omega)) ⟨?_, ?_, ?_, ?_, ?_, ?_, ?_, ?_⟩ (mSet_n (by omega)) (mSet_n (by omega)) (mSet_n (by omega)) (mSet_n (by omega)) (fun i z => mSet_n (by omega)) fun c hc => ?_
  · rw [xup_i (by omega), mSet_n (by omega)]; exact a0
  · rw [xup_s, mSet_s]
  · rw [xup_i (by omega), mSet_n (by omega)]; exact a2
  · rw [xup_i (by omega), mSet_n (by omega)]; exact a3
  · rw [xup_i (by omega), mSet_n (by omega)]; exact a4
  · rw [xup_i (by omega), mSet_n (by omega)]; exact a5
  · rw [xup_i (by omega), mSet_n (by omega)]; exact a6
  · rw [xup_i (by omega), mSet_n (by omega)]; exact a7
  · rw [xup_i (by omega), mSet_n (by omega)]; exact b c hc
theorem cTw.v3 {t : Nat} {T : Int → Int} {v : Int} (h : cTw F t T) (hT : mT T) : cTw (xup F t 3 v) t (mSet T 3 v) := by
  have b := h.2.2.2.1
  obtain ⟨a0, a1, a2, a3, a4, a5, a6, a7⟩ := h.1
  refine h.to hT (fun p i z => xup_n (by omega)) ⟨?_, ?_, ?_, ?_, ?_, ?_, ?_, ?_⟩ (mSet_n (by omega)) (mSet_n (by omega)) (mSet_n (by omega)) (mSet_n (by omega)) (fun i z => mSet_n (by omega)) fun c hc => ?_
  · rw [xup_i (by omega), mSet_n (by omega)]; exact a0
  · rw [xup_i (by omega), mSet_n (by omega)]; exact a1
  · rw [xup_i (by omega), mSet_n (by omega)]; exact a2
  · rw [xup_s, mSet_s]
  · rw [xup_i (by omega), mSet_n (by omega)]; exact a4
  · rw [xup_i (by omega), mSet_n (by omega)]; exact a5
  · rw [xup_i (by omega), mSet_n (by omega)]; exact a6
  · rw [xup_i (by omega), mSet_n (by omega)]; exact a7
  · rw [xup_i (by omega), mSet_n (by omega)]; exact b c hc
theorem cTw.sp {t : Nat} {T T0 : Int → Int} {v one two : Int} (h : cTw F t T0) (hT : mT T0) (e : ∀ i, ¬ (108 ≤ i ∧ i < 138) → T0 i = T i) (hb : ∀ c : Nat, c < 30 → (mbit v c = true ↔ ((c : Int) = one ∨ (c : Int) = two))) : cTw (xup F t 8 v) t (mSp T one two) := by
  obtain ⟨a0, a1, a2, a3, a4, a5, a6, a7⟩ := h.1
  have o : ∀ i, ¬ (108 ≤ i ∧ i < 138) → mSp T one two i = T0 i := fun i z => by rw [mSp_o z, e i z]
  refine h.to hT (fun p i z => xup_n (by omega)) ⟨?_, ?_, ?_, ?_, ?_, ?_, ?_, ?_⟩ (o _ (by omega)) (o _ (by omega)) (o _ (by omega)) (o _ (by omega)) (fun i z => o _ (by omega)) fun c hc => ?_
  · rw [xup_i (by omega), o _ (by omega)]; exact a0
  · rw [xup_i (by omega), o _ (by omega)]; exact a1
  · rw [xup_i (by omega), o _ (by omega)]; exact a2
  · rw [xup_i (by omega), o _ (by omega)]; exact a3
  · rw [xup_i (by omega), o _ (by omega)]; exact a4
  · rw [xup_i (by omega), o _ (by omega)]; exact a5
  · rw [xup_i (by omega), o _ (by omega)]; exact a6
  · rw [xup_i (by omega), o _ (by omega)]; exact a7
  · rw [xup_s]
    unfold mSp
    rw [if_pos (by omega), show 108 + (c : Int) - 108 = (c : Int) by omega]
    by_cases z : (c : Int) = one ∨ (c : Int) = two
    · rw [if_pos z, if_pos ((hb c hc).mpr z)]
    · rw [if_neg z, if_neg (fun w => z ((hb c hc).mp w))]
/-- all but the run aside and the trials is as it was -/
def cA (F G : XF) : Prop := ∀ p i, ¬ (70 ≤ p ∧ p < 98) → ¬ (104 ≤ p ∧ p < 128) → G p i = F p i
theorem cA.trans {F G H : XF} (a : cA F G) (b : cA G H) : cA F H := fun p i x y => (b p i x y).trans (a p i x y)
theorem cA.refl {F : XF} : cA F F := fun _ _ _ _ => rfl
theorem cA.tw {G : XF} {t : Nat} {T : Int → Int} (a : cA F G) (hT : mT T) (h : cTw F t T) (ht : t + 17 ≤ 70) : cTw G t T := h.of hT fun p i hp => a p i (by omega) (by omega)
/-- waits by the end, if there is one -/
noncomputable def mWv (T : Int → Int) : Int := if mEnd T = -1 then -1 else mWe T
def cTr (F : XF) (T : Int → Int) : Prop := (-1 ≤ F 104 1 ∧ F 104 1 ≤ 2) ∧ (∀ k, 0 ≤ k → k ≤ F 104 1 → F 122 k = (mBt T k).1 ∧ F 123 k = (mBt T k).2.1 ∧ F 124 k = (mBt T k).2.2) ∧ (∀ i, 0 ≤ i → i ≤ 60 → F 125 i = -2 ∨ F 125 i = mWv (mSet T 3 i)) ∧ (∀ i, 0 ≤ i → i ≤ 60 → F 126 i = -2 ∨ F 126 i = mV (mSm (mSet T 3 i))) ∧ (∀ v, 1 ≤ v → v ≤ 50 → F 127 v = -2 ∨ F 127 v = mEnd (mSet T 1 v))
theorem cTr.of {G : XF} {T : Int → Int} (h : cTr F T) (e1 : G 104 1 = F 104 1) (e : ∀ p i, (122 ≤ p ∧ p ≤ 127) → G p i = F p i) : cTr G T := by
  obtain ⟨a, b, c, f, g⟩ := h
  refine ⟨by rw [e1]; exact a, fun k p q => ?_, fun i p q => by rw [e _ _ (by omega)]; exact c i p q, fun i p q => by rw [e _ _ (by omega)]; exact f i p q, fun i p q => by rw [e _ _ (by omega)]; exact g i p q⟩
  rw [e1] at q
  rw [e _ _ (by omega), e _ _ (by omega), e _ _ (by omega)]
  exact b k p q
theorem o104 : xob 10 104 := ⟨by decide, by decide⟩
theorem o105 : xob 9 105 := ⟨by decide, by decide⟩
theorem o70 : xob 6 70 := ⟨by decide, by decide⟩
theorem mEl_2 {T : Int → Int} : mEl T 2000 = mEnd T := by
  have := mEnd_b (T := T)
  unfold mEl
  rw [if_pos this.2]
section FRG
variable {Q : XF → Prop}
theorem k80 (hP : xPT F) (q : ∀ G, xPT G → cA F G → (∀ T, cTr G T) → Q G) : xMV X d 80 [.ref 104] F Q := by
  have two : ∀ (n : Nat) (v : Int) (G : XF), xPT G → 0 ≤ v → v + n = 51 → cA F G → G 104 1 = -1 → (∀ i, 0 ≤ i → i ≤ 60 → G 125 i = -2 ∧ G 126 i = -2) → (∀ i, 0 ≤ i → i < v → G 127 i = -2) → xW X d 80 37 [.ref 104, vi v] [] G (xqv Q) := by
    intro n
    induction n with
    | zero =>
      intro v G hG hv hn hA h1 h2 h3
      exact s80_37 hG ⟨⟨by omega, by omega⟩, fun _ _ => q G hG hA fun T => ⟨by omega, fun k a b => by omega, fun i a b => Or.inl (h2 i a b).1, fun i a b => Or.inl (h2 i a b).2, fun i a b => Or.inl (h3 i (by omega) (by omega))⟩, fun z => absurd (by omega) z⟩
    | succ n ih =>
      intro v G hG hv hn hA h1 h2 h3
      refine s80_37 hG ⟨⟨by omega, by omega⟩, fun z => absurd z (by omega), fun _ => ⟨by omega, fun hH => ih (v + 1) _ hH (by omega) (by omega) (fun p i a b => by rw [xup_o (by omega)]; exact hA p i a b) (by rw [xup_o (by decide)]; exact h1) (fun i a b => by rw [xup_o (by decide), xup_o (by decide)]; exact h2 i a b) fun i a b => ?_⟩⟩
      by_cases z : i = v
      · rw [z, xup_s]
      · rw [xup_i z]; exact h3 i a (by omega)
  have one : ∀ (n : Nat) (v : Int) (G : XF), xPT G → 0 ≤ v → v + n = 61 → cA F G → G 104 1 = -1 → (∀ i, 0 ≤ i → i < v → G 125 i = -2 ∧ G 126 i = -2) → xW X d 80 7 [.ref 104, vi v] [] G (xqv Q) := by
    intro n
    induction n with
    | zero =>
      intro v G hG hv hn hA h1 h2
      exact s80_7 hG ⟨⟨by omega, by omega⟩, fun _ _ => two 51 0 G hG (by omega) (by omega) hA h1 (fun i a b => h2 i a (by omega)) (fun i a b => by omega), fun z => absurd (by omega) z⟩
    | succ n ih =>
      intro v G hG hv hn hA h1 h2
      refine s80_7 hG ⟨⟨by omega, by omega⟩, fun z => absurd z (by omega), fun _ => ⟨by omega, by omega, fun hH => ih (v + 1) _ hH (by omega) (by omega) (fun p i a b => by rw [xup_o (by omega), xup_o (by omega)]; exact hA p i a b) (by rw [xup_o (by decide), xup_o (by decide)]; exact h1) fun i a b => ?_⟩⟩
      by_cases z : i = v
      · rw [z, xup_o (by decide), xup_s, xup_s]; exact ⟨rfl, rfl⟩
      · rw [xup_o (by decide), xup_i z, xup_i z, xup_o (by decide)]; exact h2 i a (by omega)
  exact m80 hP fun hG => one 61 0 _ hG (by omega) (by omega) (fun p i a b => xup_o (by omega)) xup_s fun i a b => by omega
theorem k81 (hP : xPT F) (hd : 0 < d) (q : ∀ G, xPT G → cA F G → (∀ T, cTr G T) → Q G) : xMV X d 81 [.ref 104] F Q :=
  m81 hP ⟨0, hd, k80 hP fun G hG a b _ => q G hG a b⟩
end FRG
section TRY
variable {T : Int → Int} {t : Nat} {Q : Int → XF → Prop}
/-- a broken car, as if -/
theorem k88 {c u m : Int} (hP : xPT F) (hd : 6 < d) (ht : xob 9 t) (h7 : t + 17 ≤ 70) (hT : mT T) (hw : cTw F t T) (hR : cTr F T) (h6 : T 7 ≤ 6) (hc : 0 ≤ c ∧ c < T 5) (hu : 0 ≤ u ∧ u ≤ 1999) (hm : 1 ≤ m ∧ m ≤ 500) (q : ∀ G, xPT G → cA F G → cTr G T → Q (mEnd (mBrT T c u m)) G) : xMI X d 88 [.ref 104, .ref t, .ref 70, vi c, vi u, vi m] F Q := by
  refine m88 hP ht o70 ⟨6, hd, k72 hP (by omega) o105 ht hT (by omega) hw fun G hG kG wG => ⟨6, hd, k74 hG o105 hT h6 wG fun H hH kH wH => ⟨6, hd, k57 hH (by omega) o70 rfl o105 (mT_brt hT h6 hc hu hm) (by omega) wH (by omega) fun K hK kK _ => ?_⟩⟩⟩
  rw [mEl_2]
  have e : ∀ p i, ¬ (70 ≤ p ∧ p < 98) → ¬ (105 ≤ p ∧ p < 122) → K p i = F p i := fun p i a b => by rw [kK p i (by omega), kH p i (by omega), kG p i (by omega)]
  exact q K hK (fun p i a b => e p i a (by omega)) (hR.of (e 104 1 (by omega) (by omega)) fun p i z => e p i (by omega) (by omega))
/-- the slowest speed -/
theorem k91 {n : Int} (hP : xPT F) (hd : 6 < d) (ht : xob 9 t) (h7 : t + 17 ≤ 70) (hT : mT T) (hw : cTw F t T) (hR : cTr F T) (hn : 0 ≤ n ∧ n ≤ 2000) (q : ∀ G, xPT G → cA F G → cTr G T → Q (mSl T n 50 1) G) : xMI X d 91 [.ref 104, .ref t, .ref 70, vi n] F Q := by
  obtain ⟨A, eA⟩ : ∃ A, A = mSl T n 50 1 := ⟨_, rfl⟩
  rw [← eA] at q
  have loop : ∀ (f : Nat) (v u : Int) (G : XF), xPT G → cA F G → cTr G T → cTw G 105 (mSet T 1 u) → (1 ≤ u ∧ u ≤ 50) → 1 ≤ v → v + f = 51 → mSl T n f v = A → xW X d 91 11 [.ref 104, .ref t, .ref 70, vi n, vi v] [] G (xqi Q) := by
    intro f
    induction f with
    | zero =>
      intro v u G hG hA hR hW hu hv hf he
      have := q G hG hA hR
      rw [← he] at this
      exact s91_11 hG ht o70 ⟨⟨by omega, by omega⟩, fun _ _ => this, fun z => absurd (by omega) z⟩
    | succ f ih =>
      intro v u G hG hA hR hW hu hv hf he
      have hTv : mT (mSet T 1 v) := mT_set hT (by omega)
      have hTu : mT (mSet T 1 u) := mT_set hT (by omega)
      have eb := mEnd_b (T := mSet T 1 v)
      unfold mSl at he
      have after : ∀ (H : XF) (u' : Int), xPT H → cA F H → cTr H T → cTw H 105 (mSet T 1 u') → (1 ≤ u' ∧ u' ≤ 50) → H 127 v = mEnd (mSet T 1 v) → xW X d 91 57 [.ref 104, .ref t, .ref 70, vi n, vi v] [] H (xqi Q) := fun H u' hH kA kR kW hu' hv' => by
        refine s91_57 hH ht o70 ⟨by omega, ?_⟩
        rw [hv']
        refine ⟨⟨by omega, by omega⟩, fun z _ => ?_, fun z => ⟨by omega, ⟨by omega, by omega⟩, ⟨by omega, by omega⟩, fun z1 _ => ?_, fun z1 _ => ?_⟩⟩
        · rw [if_neg (fun w => w.1 z)] at he
          exact ih (v + 1) u' H hH kA kR kW hu' (by omega) (by omega) he
        · rw [if_neg (fun w => by have := w.2; omega)] at he
          exact ih (v + 1) u' H hH kA kR kW hu' (by omega) (by omega) he
        · rw [if_pos ⟨z, by omega⟩] at he
          have := q H hH kA kR
          rw [← he] at this
          exact this
      have rv := hR.2.2.2.2 v hv (by omega)
      refine s91_11 hG ht o70 ⟨⟨by omega, by omega⟩, fun z => absurd z (by omega), fun _ => ⟨by omega, by rcases rv with z | z <;> rw [z] <;> constructor <;> omega, fun z _ => after G u hG hA hR hW hu (by rcases rv with y | y; exact absurd y z; exact y), fun z => ⟨6, hd, ?_⟩⟩⟩
      have hP2 : xPT (xup G 105 1 v) := xPT_fld (k := 1) hG o105 (by decide) (by decide)
      have wv := hW.v1 (v := v) hTu
      rw [mSet_2] at wv
      refine k57 hP2 (by omega) o70 rfl o105 hTv (by omega) wv (by omega) fun K hK kK => ⟨by omega, fun hL => ?_⟩
      rw [mEl_2] at hL ⊢
      have e : ∀ p i, ¬ (70 ≤ p ∧ p < 98) → ¬ (p = 105) → K p i = G p i := fun p i a b => by rw [kK p i (by omega), xup_o b]
      refine after _ v hL (hA.trans fun p i a b => by rw [xup_o (by omega)]; exact e p i a (by omega)) ⟨by rw [xup_o (by decide), e 104 1 (by omega) (by omega)]; exact hR.1, fun k a b => ?_, fun i a b => by rw [xup_o (by decide), e _ _ (by omega) (by omega)]; exact hR.2.2.1 i a b, fun i a b => by rw [xup_o (by decide), e _ _ (by omega) (by omega)]; exact hR.2.2.2.1 i a b, fun i a b => ?_⟩ ((kK.tw hTv wv (by omega)).of hTv fun p i z => xup_o (by omega)) (by omega) xup_s
      · rw [xup_o (by decide), e 104 1 (by omega) (by omega)] at b
        rw [xup_o (by decide), xup_o (by decide), xup_o (by decide), e _ _ (by omega) (by omega), e _ _ (by omega) (by omega), e _ _ (by omega) (by omega)]
        exact hR.2.1 k a b
      · by_cases y : i = v
        · rw [y, xup_s]; exact Or.inr rfl
        · rw [xup_i y, e _ _ (by omega) (by omega)]; exact hR.2.2.2.2 i a b
  have h1 := hT.2.1
  refine m91 hP ht o70 ⟨6, hd, k72 hP (by omega) o105 ht hT (by omega) hw fun G hG kG wG _ => loop 50 1 (T 1) G hG (fun p i a b => kG p i (by omega)) (hR.of (kG 104 1 (by omega)) fun p i z => kG p i (by omega)) (by rw [mSet_id]; exact wG) h1 (by omega) (by omega) eA.symm⟩
end TRY
end CL12
