section CL6
variable {X : List Int32} {d : Nat} {F : XF}
section PUT
variable {T R : Int → Int} {r t : Nat} {Q : XF → Prop} {c g tick : Int}
theorem cEv.of {G : XF} {E : Int → Int} (h : cEv F r E) (e : ∀ p i, (r + 13 ≤ p ∧ p ≤ r + 17) → G p i = F p i) : cEv G r E := by
  unfold cEv at *
  rw [e _ _ (by omega)]
  refine ⟨fun y => ⟨(h.1 y).1, fun j a b => ?_⟩, h.2⟩
  rw [e _ _ (by omega), e _ _ (by omega), e _ _ (by omega), e _ _ (by omega)]
  exact (h.1 y).2 j a b
theorem k63 {E : Int → Int} (hP : xPT F) (hd : 0 < d) (hr : xob 6 r) (ht : xob 9 t) (hT : mT T) (hdis : t + 17 ≤ r ∨ r + 28 ≤ t) (hw : cTw F t T) (h : cCo F r t T R) (hJ : mJ T R) (hc : 0 ≤ c ∧ c < T 5) (h12 : F r 2 = tick) (hn : R c - T (78 + c) < T 0) (hg : R c < g ∧ g ≤ 10000) (hch : 0 < c → R (c - 1) - T (78 + (c - 1)) < T 0 → g ≤ R (c - 1) - T (78 + (c - 1)) - T 2) (hE : cEv F r E) (hEn : mEn E) (q : ∀ G, xPT G → cKf r F G → cCo G r t T (mTo R c g (if T 0 ≤ g - T (78 + c) then c + 1 else R 131)) → cEv G r (mTell T (mS T) g c (R c) tick E) → mEn (mTell T (mS T) g c (R c) tick E) → Q G) : xMV X d 63 [.ref r, vi c, vi (mS T 1 c), vi g] F Q := by
  have hT' := hT
  obtain ⟨h0, _, _, _, h4, h5, _, _, hX, hO, hL, _⟩ := hT'
  have sb := mS_b hT
  have sc := mS_c hT
  have s1 := sb.2.2.1 c hc.1 hc.2
  have s2 := sb.2.2.2 (mS T 1 c) s1.1 s1.2
  have cr := h.cars hT
  have cs := cr.2.2 (mS T 1 c) s1.1 s1.2
  have lc := hL c hc.1 hc.2
  have jc := hJ.fr hT c hc.1 hc.2
  have f7 : xPT (xup F (r + 7) c g) := xPT_arr hP (Or.inl (xtg_6_6 r hr.1 hr.2).1.2)
  have o7 : ∀ p i, ¬ p = r + 7 → xup F (r + 7) c g p i = F p i := fun p i z => xup_o z
  have w7 : cTw (xup F (r + 7) c g) t T := hw.of hT fun p i hp => o7 p i (by omega)
  have e7 : cEv (xup F (r + 7) c g) r E := hE.of fun p i hp => o7 p i (by omega)
  have t7 : xup F (r + 7) c g (t + 2) c = T (78 + c) := by rw [o7 _ _ (by omega)]; exact hw.2.2.1 c hc.1 hc.2
  obtain ⟨e1, he1⟩ := mNe_x hT g
  have kE := h.2.2.2.2.2.1 (mS T 1 c) s1.1 s1.2
  -- numbers: who entered, who left
  obtain ⟨e0, he0⟩ : ∃ e0, mS T 2 (mS T 1 c) = c → (mNe T (R c) e0 ∧ F (r + 9) c = e0) := ⟨F (r + 9) c, fun z => by rw [z] at kE; exact ⟨kE.1, rfl⟩⟩
  obtain ⟨l1, hl1⟩ := mNl_x hT (g - T (78 + c))
  obtain ⟨l0, hl0⟩ : ∃ l0, mS T 3 (mS T 1 c) = c → (mNl T (R c - T (78 + c)) l0 ∧ F (r + 10) c = l0) := ⟨F (r + 10) c, fun z => by rw [z] at kE; exact ⟨kE.2, rfl⟩⟩
  have le1 := mNle hT he1 hl1 (by omega)
  obtain ⟨EF, hEF⟩ : ∃ EF, EF = mTl T (mS T 2 (mS T 1 c)) (mS T 3 (mS T 1 c)) g c (mS T 1 c) (R c) tick (T 4).toNat 0 E := ⟨_, rfl⟩
  -- the end
  have fin : ∀ (G : XF) (E' : Int → Int) (x5 x6 : Int) (w7' w8 : Value), xPT G → cLp (xup F (r + 7) c g) r T R c g tick e0 e1 l0 l1 e1 e1 e1 EF G E' → E' = EF → xW X d 63 256 [.ref r, vi c, vi (mS T 1 c), vi g, vi (g - T (78 + c)), vi x5, vi x6, w7', w8] [] G (xqv Q) := by
    intro G E' x5 x6 w7' w8 hG hS hE'
    obtain ⟨k1, k2, k3, k4, k5, k6⟩ := hS
    have g1 : ∀ p i, ¬ (p = r + 9) → ¬ (p = r + 10) → ¬ p = r + 11 → ¬ (r + 13 ≤ p ∧ p ≤ r + 17) → ¬ p = r + 7 → G p i = F p i := fun p i a b c' e f => by rw [k1 p i (by omega) (by omega) c' e, o7 p i f]
    have gt : G r 0 = (t : Int) := by rw [g1 r 0 (by omega) (by omega) (by omega) (by omega) (by omega)]; exact h.1
    have gw : cTw G t T := hw.of hT fun p i hp => g1 p i (by omega) (by omega) (by omega) (by omega) (by omega)
    have gk : cKf r F G := fun p i z => g1 p i (by omega) (by omega) (by omega) (by omega) (by omega)
    have co : ∀ (H : XF) (o : Int), (∀ p i, ¬ (p = r ∧ i = 3) → ¬ (r + 13 ≤ p ∧ p ≤ r + 17) → H p i = G p i) → H r 3 = o → cCo H r t T (mTo R c g o) := fun H o kH h3 => by
      have at_c : mTo R c g o c = g := by unfold mTo; rw [if_neg (by omega), if_pos rfl]
      have at_o : ∀ i, 0 ≤ i → i < 30 → ¬ i = c → mTo R c g o i = R i := fun i a b d => by unfold mTo; rw [if_neg (by omega), if_neg d]
      have hs : ∀ p i, (r < p ∧ p ≤ r + 6) → H p i = F p i := fun p i hp => by rw [kH p i (by omega) (by omega), g1 p i (by omega) (by omega) (by omega) (by omega) (by omega)]
      refine ⟨by rw [kH r 0 (by omega) (by omega)]; exact gt, ⟨by rw [hs _ _ (by omega)]; exact h.2.1.1, fun x a b => by rw [hs _ _ (by omega)]; exact h.2.1.2.1 x a b, fun x a b => by rw [hs _ _ (by omega), hs _ _ (by omega), hs _ _ (by omega)]; exact h.2.1.2.2 x a b⟩, fun e x a b p q => by rw [hs _ _ (by omega)]; exact h.2.2.1 e x a b p q, fun x a b => ?_, by rw [h3]; unfold mTo; rw [if_pos rfl], fun e a b => ?_, fun j a b => ?_⟩
      · rw [kH _ _ (by omega) (by omega), k1 _ _ (by omega) (by omega) (by omega) (by omega)]
        by_cases z : x = c
        · rw [z, xup_s, at_c]
        · rw [xup_i z, at_o x a (by omega) z]
          exact h.2.2.2.1 x a b
      · have se := sb.2.2.2 e a b
        have sce := sc.2 e a b
        have ke := h.2.2.2.2.2.1 e a b
        rw [kH _ _ (by omega) (by omega), kH _ _ (by omega) (by omega)]
        constructor
        · by_cases z : mS T 2 e = c
          · have es : e = mS T 1 c := by rw [← sce.1, z]
            rw [z, at_c, k2, if_pos (by rw [← es]; exact z)]
            have := he0 (by rw [← es]; exact z)
            have := mNe_m this.1 he1 (by omega)
            rw [show max e0 e1 = e1 by omega]
            exact he1
          · rw [at_o _ (by omega) (by omega) z, k1 _ _ (by omega) (by omega) (by omega) (by omega), o7 _ _ (by omega)]
            exact ke.1
        · by_cases z : mS T 3 e = c
          · have es : e = mS T 1 c := by rw [← sce.2, z]
            rw [z, at_c, k3, if_pos (by rw [← es]; exact z), show min e1 l1 = l1 by omega]
            exact hl1
          · rw [at_o _ (by omega) (by omega) z, k1 _ _ (by omega) (by omega) (by omega) (by omega), o7 _ _ (by omega)]
            exact ke.2
      · rw [kH _ _ (by omega) (by omega), k4 j a b, mOn_go (o := o) hT hJ hc hn hg.1 hch (fun z => ⟨(he0 z).1, he1⟩) (fun z => ⟨(hl0 z).1, hl1⟩) ⟨a, b⟩, show min e1 l1 = l1 by omega]
    refine s63_256 hG hr ⟨t, gt, ht, ⟨by omega, by omega⟩, ?_⟩
    rw [gw.1.1]
    have g3 : G r 3 = R 131 := by rw [g1 r 3 (by omega) (by omega) (by omega) (by omega) (by omega)]; exact h.2.2.2.2.1
    have g2 : G r 2 = tick := by rw [g1 r 2 (by omega) (by omega) (by omega) (by omega) (by omega)]; exact h12
    refine ⟨⟨by omega, by omega⟩, fun cc _ => ?_, fun cc => ⟨0, hd, ?_⟩⟩
    · have et : mTell T (mS T) g c (R c) tick E = E' := by
        unfold mTell
        rw [if_neg (by omega), hE', hEF]
      rw [if_neg (by omega), et] at q
      exact q G hG gk (co G (R 131) (fun _ _ _ _ => rfl) g3) k5 k6
    · have et : mTell T (mS T) g c (R c) tick E = mHap E' 2 tick (-1) c := by
        unfold mTell
        rw [if_pos (by omega), hE', hEF]
      rw [if_pos (by omega), et] at q
      rw [g2]
      have hP3 : xPT (xup G r 3 (c + 1)) := xPT_fld (k := 3) hG hr (by decide) (by decide)
      refine k17 hP3 hr (k5.of fun p i hp => xup_n (by omega)) k6 fun K hK kK eK _ => q K hK (fun p i z => ?_) (co K (c + 1) (fun p i a b => by rw [kK p i (by omega), xup_n a]) (by rw [kK r 3 (by omega), xup_s])) eK k6.hap
      rw [kK p i (by omega), xup_n (by omega)]
      exact gk p i z
  -- from 70 on
  have loop : ∀ (i : Int) (x5 x6 x7 : Int), x5 = mV (mS T 2 (mS T 1 c) = c) → x6 = mV (mS T 3 (mS T 1 c) = c) → 0 ≤ i → i ≤ e1 → (mS T 3 (mS T 1 c) = c → i = l0) → (mS T 2 (mS T 1 c) = c → i ≤ e0) → (∀ y, 0 ≤ y → y < i → ¬ (mS T 2 (mS T 1 c) = c ∧ R c ≤ T (8 + 7 * y) ∧ T (8 + 7 * y) < g) ∧ ¬ (mS T 3 (mS T 1 c) = c ∧ R c - T (78 + c) < T (8 + 7 * y) + T (8 + 7 * y + 1) ∧ T (8 + 7 * y) + T (8 + 7 * y + 1) ≤ g - T (78 + c))) → xW X d 63 96 [.ref r, vi c, vi (mS T 1 c), vi g, vi (g - T (78 + c)), vi x5, vi x6, vi x7, vi i] [] (xup F (r + 7) c g) (xqv Q) := by
    intro i x5 x6 x7 hx5 hx6 hi0 hi1 hil hie hno
    have ie := he1.1
    refine l63 (X := X) (Q := Q) (xup F (r + 7) c g) hd hr ht hT hdis w7 hJ hc (by rw [o7 _ _ (by omega)]; exact h.1) (by rw [o7 _ _ (by omega)]; exact h12) (by omega) he1 (fun z => (he0 z).1) (fun z => ⟨(hl0 z).1, hl1⟩) EF x5 x6 x7 hx5 hx6 (fun G E' w8 hG hS hE' => fin G E' x5 x6 _ w8 hG hS hE') (e1 - i).toNat i _ E f7 hi0 (by omega) (fun z => by have := hil z; omega) ⟨fun _ _ _ _ _ _ => rfl, ?_, ?_, fun j a b => ?_, e7, hEn⟩ ?_
    · rw [o7 _ _ (by omega)]
      by_cases z : mS T 2 (mS T 1 c) = c
      · rw [if_pos z, (he0 z).2]; have := hie z; omega
      · rw [if_neg z]
    · rw [o7 _ _ (by omega)]
      by_cases z : mS T 3 (mS T 1 c) = c
      · have ml := mNl_m (hl0 z).1 hl1 (by omega)
        rw [if_pos z, (hl0 z).2]; have := hil z; omega
      · rw [if_neg z]
    · rw [o7 _ _ (by omega), h.2.2.2.2.2.2 j a b, if_neg (fun z => by have := hie z.1; omega), if_neg (fun z => by have := hil z.1; omega)]
      omega
    · rw [hEF, show (T 4).toNat = i.toNat + (T 4 - i).toNat by omega, mTl_a, mTl_0 i.toNat 0 E (fun y a b => hno y a (by omega)), show (0 : Int) + ((i.toNat : Nat) : Int) = i by omega]
  have g70 : ∀ (x5 x6 : Int) (w7' w8 : Value), x5 = mV (mS T 2 (mS T 1 c) = c) → x6 = mV (mS T 3 (mS T 1 c) = c) → (mS T 2 (mS T 1 c) = c ∨ mS T 3 (mS T 1 c) = c) → xW X d 63 70 [.ref r, vi c, vi (mS T 1 c), vi g, vi (g - T (78 + c)), vi x5, vi x6, w7', w8] [] (xup F (r + 7) c g) (xqv Q) := by
    intro x5 x6 w7' w8 hx5 hx6 hor
    have b6 := mV_b (C := mS T 3 (mS T 1 c) = c)
    rw [← hx6] at b6
    refine s63_70 f7 hr ⟨b6.r, fun z => ⟨by omega, fun _ => ?_⟩, fun z => ⟨by omega, fun _ => ?_⟩⟩
    · have n3 := b6.f z
      have y2 : mS T 2 (mS T 1 c) = c := by rcases hor with y | y; exact y; exact absurd y n3
      have a0 := he0 y2
      rw [o7 _ _ (by omega), a0.2]
      have me := mNe_m a0.1 he1 (by omega)
      exact loop e0 x5 x6 _ hx5 hx6 a0.1.1.1 me (fun y => absurd y n3) (fun _ => by omega) fun y p q => ⟨fun w => by have := a0.1.2.1 y p q; omega, fun w => n3 w.1⟩
    · have y3 := b6.t z
      have b0 := hl0 y3
      rw [o7 _ _ (by omega), b0.2]
      have ml := mNl_m b0.1 hl1 (by omega)
      refine loop l0 x5 x6 _ hx5 hx6 b0.1.1.1 (by omega) (fun _ => rfl) (fun y => mNle hT (he0 y).1 b0.1 (by omega)) fun y p q => ?_
      have e := b0.1.2.1 y p q
      have xy := hX y p (by have := b0.1.1; omega)
      unfold mX at xy
      exact ⟨fun w => by omega, fun w => by omega⟩
  refine m63 hP hr ⟨by omega, t, by rw [o7 _ _ (by omega)]; exact h.1, ht, by omega, by omega, ?_⟩
  rw [cs.1, cs.2.1, t7]
  refine ⟨⟨by omega, by omega⟩, ⟨by omega, by omega⟩, fun c2 => ⟨by omega, ⟨by omega, by omega⟩, ⟨by omega, by omega⟩, fun c3 _ => ?_, fun c3 _ => ?_⟩, fun c2 => ⟨by omega, ⟨by omega, by omega⟩, ⟨by omega, by omega⟩, fun c3 _ => ?_, fun c3 _ => ?_⟩⟩
  · refine fin _ E 0 0 _ _ f7 ⟨fun _ _ _ _ _ _ => rfl, by rw [if_neg c2], by rw [if_neg c3], fun j a b => ?_, e7, hEn⟩ ?_
    · rw [o7 _ _ (by omega), h.2.2.2.2.2.2 j a b, if_neg (fun z => c2 z.1), if_neg (fun z => c3 z.1)]
      omega
    · rw [hEF, mTl_0]
      exact fun y a b => ⟨fun z => c2 z.1, fun z => c3 z.1⟩
  · exact g70 0 1 _ _ (mV_f c2).symm (mV_t (by omega)).symm (Or.inr (by omega))
  · exact g70 1 0 _ _ (mV_t (by omega)).symm (mV_f c3).symm (Or.inl (by omega))
  · exact g70 1 1 _ _ (mV_t (by omega)).symm (mV_t (by omega)).symm (Or.inl (by omega))
end PUT
end CL6
