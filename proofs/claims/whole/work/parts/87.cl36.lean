section CL36
variable {X : List Int32} {d : Nat} {F : XF}
/-! the class reads a text -/
theorem mT.eq {T T' : Int → Int} (am : mT T) (ei : ∀ i, 0 ≤ i → i < 163 → T' i = T i) : mT T' := by
  have h5 := am.2.2.2.2.2.1
  have h7 := am.2.2.2.2.2.2.2.1
  refine am.chg (fun i hi => ei i (by omega) (by omega)) (by rw [ei 1 (by omega) (by omega)]; exact am.2.1) (by rw [ei 3 (by omega) (by omega)]; exact am.2.2.2.1) (by rw [ei 7 (by omega) (by omega)]; exact h7) (fun c x y => by rw [ei _ (by omega) (by omega)]; exact am.2.2.2.2.2.2.2.2.2.2.2.1 c x y) (fun k x y => ?_)
  rw [ei 7 (by omega) (by omega)] at y
  exact (am.bk k x y).of (ei 5 (by omega) (by omega)) (fun j u v => ei _ (by omega) (by omega))
theorem cTw.eq {t : Nat} {T T' : Int → Int} (h : cTw F t T) (hT : mT T) (o : ∀ i, 0 ≤ i → i < 163 → T' i = T i) : cTw F t T' := by
  have h4 := hT.2.2.2.2.1
  have h5 := hT.2.2.2.2.2.1
  have g6 := hT.2.2.2.2.2.2.1
  have h7 := hT.2.2.2.2.2.2.2.1
  obtain ⟨a, b, c, s, g, k⟩ := h
  refine ⟨?_, fun x p r => ?_, fun x p r => ?_, fun x p => ?_, fun x p r => ?_, fun x p r => ?_⟩
  · rw [o 0 (by omega) (by omega), o 1 (by omega) (by omega), o 2 (by omega) (by omega), o 3 (by omega) (by omega), o 4 (by omega) (by omega), o 5 (by omega) (by omega), o 6 (by omega) (by omega), o 7 (by omega) (by omega)]
    exact a
  · rw [o 4 (by omega) (by omega)] at r
    have y := b x p r
    unfold cCr at *
    rw [o _ (by omega) (by omega), o _ (by omega) (by omega), o _ (by omega) (by omega), o _ (by omega) (by omega), o _ (by omega) (by omega), o _ (by omega) (by omega), o _ (by omega) (by omega)]
    exact y
  · rw [o 5 (by omega) (by omega)] at r
    rw [o _ (by omega) (by omega)]
    exact c x p r
  · rw [o _ (by omega) (by omega)]
    exact s x p
  · rw [o 6 (by omega) (by omega)] at r
    rw [o _ (by omega) (by omega)]
    exact g x p r
  · rw [o 7 (by omega) (by omega)] at r
    rw [o _ (by omega) (by omega), o _ (by omega) (by omega), o _ (by omega) (by omega)]
    exact k x p r
/-- how the class stands when a text is read -/
def cEnd (t : Nat) (G : XF) (R : RR ((Int → Int) × Int)) : Prop := match R with
  | .error z => G 18 1 = z.1 ∧ G 18 2 = z.2 ∧ 1 ≤ z.1 ∧ z.1 ≤ 3
  | .ok a => G 18 1 = 0 ∧ G 18 2 = -1 ∧ cTw G t a.1 ∧ mT a.1 ∧ a.1 7 ≤ 6 ∧ G 18 3 = a.2
theorem l29 {U : Int → Int} {n N : Int} {t : Nat} {Q : XF → Prop} (hd : 8 < d) (ht : xob 9 t) (hat : cAt t) (F0 : XF) (R : RR ((Int → Int) × Int)) (q : ∀ G, xPT G → (∀ p i, ¬ (t ≤ p ∧ p < t + 17) → ¬ p = 18 → G p i = F0 p i) → G 18 0 = F0 18 0 → G 18 5 = (t : Int) → cEnd t G R → Q G) : ∀ (f : Nat) (p l : Int) (T sn : Int → Int) (F : XF), xPT F → cTp U n F → (∀ p i, ¬ (t ≤ p ∧ p < t + 17) → ¬ p = 18 → F p i = F0 p i) → F 18 0 = F0 18 0 → F 18 5 = (t : Int) → cTw F t T → rIn T sn → cRd U n F (.ok p) → cSn (F 18 7) sn → F 18 3 = l → n - p < f → 0 ≤ l → l ≤ p → rText U n f T sn p l = R → xW X d 29 53 [.ref 18, vi N] [] F (xqv Q) := by
  intro f
  induction f with
  | zero =>
    intro p l T sn F hP hT hK k0 h5 hw hi hs h7 hl hf hl0 hlp hR
    have := (cRd_ok hs).2.2.1.2
    omega
  | succ f ih =>
    intro p l T sn F hP hT hK k0 h5 hw hi hs h7 hl hf hl0 hlp hR
    have hN := hT.2.1
    obtain ⟨h1, h2, tk⟩ := cRd_ok hs
    have kb := tk.b
    have k8 : -1 ≤ F 18 8 ∧ F 18 8 ≤ 3 := by rw [tk.2.1]; rcases tok_c (U := U) (n := n) (k := rE (cBl U) n p) with z | z | z | z <;> omega
    have hpn := tk.1
    refine s29_53 hP ⟨by rw [h1]; constructor <;> omega, fun c => absurd h1 c, fun _ => ⟨⟨by omega, by omega⟩, fun c _ => ?_, fun c => ?_⟩⟩
    · have hk : ¬ rE (cBl U) n p < n := by
        rw [tk.2.1] at c
        rcases tok_c (U := U) (n := n) (k := rE (cBl U) n p) with z | z | z | z
        · exact z.1
        · omega
        · omega
        · omega
      unfold rText at hR
      rw [if_neg hk] at hR
      subst hR
      exact q F hP hK k0 h5 ⟨h1, h2, hw, hi.1, hi.2.1, hl⟩
    · have hk : rE (cBl U) n p < n := by
        rw [tk.2.1] at c
        rcases tok_c (U := U) (n := n) (k := rE (cBl U) n p) with z | z | z | z
        · exact absurd z.2.1 c
        · exact z.1.1
        · exact z.1.1
        · exact z.1.1
      unfold rText at hR
      rw [if_pos hk] at hR
      refine ⟨by rw [hl]; constructor <;> omega, fun c3 => absurd c3 (by omega), fun _ => ⟨8, hd, k39 hP (by omega) ht hat h5 hT hi hw hs h7 fun G hG o hH => ?_⟩⟩
      have g3 : G 18 3 = l := (o.1 18 3 (by omega) (by omega)).trans hl
      rw [g3] at hH ⊢
      have kH : ∀ p i, ¬ (t ≤ p ∧ p < t + 17) → ¬ p = 18 → (xup G 18 3 (l + 1)) p i = F0 p i := fun p i z1 z2 => by rw [xup_o z2, o.1 p i z1 (by omega)]; exact hK p i z1 z2
      have x0 : (xup G 18 3 (l + 1)) 18 0 = F0 18 0 := by rw [xup_i (by decide), o.1 18 0 (by omega) (by omega)]; exact k0
      have x5 : (xup G 18 3 (l + 1)) 18 5 = (t : Int) := by rw [xup_i (by decide), o.1 18 5 (by omega) (by omega)]; exact h5
      cases hr : rLine U n T sn p with
      | error z =>
        have oe := o.2.1
        rw [hr] at oe
        rw [hr] at hR
        have e := cRd_er oe
        have e1 : (xup G 18 3 (l + 1)) 18 1 = z.1 := by rw [xup_i (by decide)]; exact e.1
        have e2 : (xup G 18 3 (l + 1)) 18 2 = z.2 := by rw [xup_i (by decide)]; exact e.2.1
        refine s29_53 hH ⟨by rw [e1]; constructor <;> omega, fun _ _ => q _ hH kH x0 x5 ?_, fun c => absurd (show ¬ xup G 18 3 (l + 1) 18 1 = 0 by omega) c⟩
        rw [← hR]
        exact ⟨e1, e2, e.2.2⟩
      | ok a =>
        have lp := rLine_p hpn.2 hi hr
        have oa := o.2.2 a hr
        have oe := o.2.1
        rw [hr] at oe hR
        refine ih a.2.2 (l + 1) a.1 a.2.1 _ hH ?_ kH x0 x5 ?_ lp.1 ?_ ?_ xup_s (by omega) (by omega) (by omega) hR
        · exact (o.1.tp hat hT).of fun p i z => xup_n (by omega)
        · exact oa.1.of lp.1.1 fun p i z => xup_o (by omega)
        · exact cRd.of (F := G) (x := .ok a.2.2) oe fun i z => xup_i (by omega)
        · rw [xup_i (by decide)]; exact oa.2
theorem k29 {U T0 : Int → Int} {N : Int} {t : Nat} {Q : XF → Prop} (hP : xPT F) (hd : 8 < d) (ht : xob 9 t) (hat : cAt t) (h5 : F 18 5 = (t : Int)) (hN : 0 ≤ N ∧ N ≤ F 18 0) (h0 : F 18 0 ≤ 600) (hb : ∀ i, 0 ≤ i → i < F 18 0 → (0 ≤ U i ∧ U i ≤ 255) ∧ F 19 i = U i) (q : ∀ G, xPT G → (∀ p i, ¬ (t ≤ p ∧ p < t + 17) → ¬ p = 18 → G p i = F p i) → G 18 0 = 0 → G 18 5 = (t : Int) → cEnd t G (rTold U N T0) → Q G) : xMV X d 29 [.ref 18, vi N] F Q := by
  refine m29 hP ⟨⟨by omega, by omega⟩, ⟨by omega, by omega⟩, t, by rw [xup_i (by decide), xup_i (by decide)]; exact h5, ht, 8, hd, k71 (T := T0) (xPT_18 (k := 0) (xPT_18 (k := 6) hP (by decide)) (by decide)) ht fun G hG kG wG => ?_⟩
  have gk : ∀ p i, ¬ (t ≤ p ∧ p < t + 17) → ¬ p = 18 → G p i = F p i := fun p i z1 z2 => by rw [kG p i (by omega), xup_o z2, xup_o z2]
  have P5 : xPT (xup (xup (xup (xup (xup G 18 1 0) 18 2 (-1)) 18 3 0) 18 7 0) 18 11 0) := xPT_18 (k := 11) (xPT_18 (k := 7) (xPT_18 (k := 3) (xPT_18 (k := 2) (xPT_18 (k := 1) hG (by decide)) (by decide)) (by decide)) (by decide)) (by decide)
  have ko : ∀ p i, ¬ p = 18 → (xup (xup (xup (xup (xup G 18 1 0) 18 2 (-1)) 18 3 0) 18 7 0) 18 11 0) p i = G p i := fun p i z => by rw [xup_o z, xup_o z, xup_o z, xup_o z, xup_o z]
  have k0 : (xup (xup (xup (xup (xup G 18 1 0) 18 2 (-1)) 18 3 0) 18 7 0) 18 11 0) 18 0 = 0 := by rw [xup_i (by decide), xup_i (by decide), xup_i (by decide), xup_i (by decide), xup_i (by decide), kG 18 0 (by omega), xup_s]
  have k5 : (xup (xup (xup (xup (xup G 18 1 0) 18 2 (-1)) 18 3 0) 18 7 0) 18 11 0) 18 5 = (t : Int) := by rw [xup_i (by decide), xup_i (by decide), xup_i (by decide), xup_i (by decide), xup_i (by decide), kG 18 5 (by omega), xup_i (by decide), xup_i (by decide)]; exact h5
  have k6 : (xup (xup (xup (xup (xup G 18 1 0) 18 2 (-1)) 18 3 0) 18 7 0) 18 11 0) 18 6 = N := by rw [xup_i (by decide), xup_i (by decide), xup_i (by decide), xup_i (by decide), xup_i (by decide), kG 18 6 (by omega), xup_i (by decide), xup_s]; omega
  have k1 : (xup (xup (xup (xup (xup G 18 1 0) 18 2 (-1)) 18 3 0) 18 7 0) 18 11 0) 18 1 = 0 := by rw [xup_i (by decide), xup_i (by decide), xup_i (by decide), xup_i (by decide), xup_s]
  have k2 : (xup (xup (xup (xup (xup G 18 1 0) 18 2 (-1)) 18 3 0) 18 7 0) 18 11 0) 18 2 = -1 := by rw [xup_i (by decide), xup_i (by decide), xup_i (by decide), xup_s]
  have k3 : (xup (xup (xup (xup (xup G 18 1 0) 18 2 (-1)) 18 3 0) 18 7 0) 18 11 0) 18 3 = 0 := by rw [xup_i (by decide), xup_i (by decide), xup_s]
  have k7 : (xup (xup (xup (xup (xup G 18 1 0) 18 2 (-1)) 18 3 0) 18 7 0) 18 11 0) 18 7 = 0 := by rw [xup_i (by decide), xup_s]
  have k11 : (xup (xup (xup (xup (xup G 18 1 0) 18 2 (-1)) 18 3 0) 18 7 0) 18 11 0) 18 11 = 0 := xup_s
  have T5 : cTp U N (xup (xup (xup (xup (xup G 18 1 0) 18 2 (-1)) 18 3 0) 18 7 0) 18 11 0) := ⟨k6, by omega, fun i a b => by rw [ko 19 i (by decide), gk 19 i (by omega) (by decide)]; exact hb i a (by omega)⟩
  refine ⟨8, hd, k32 P5 (by omega) T5 k11 (by omega) fun H hH kH tH _ => ?_⟩
  refine l29 (U := U) (n := N) hd ht hat H (rTold U N T0) (fun K hK kK e0 e5 en => q K hK (fun p i z1 z2 => ?_) (by rw [e0, kH 18 0 (by omega)]; exact k0) e5 en) (N.toNat + 1) 0 0 (rT0 T0) (fun _ => 0) H hH (kH.tp T5) (fun _ _ _ _ => rfl) rfl (by rw [kH 18 5 (by omega)]; exact k5) ?_ rT0_in (tH.rd k1 k2 kH) ?_ (by rw [kH 18 3 (by omega)]; exact k3) (by omega) (by omega) (by omega) rfl
  · rw [kK p i z1 z2, kH p i (by omega), ko p i z2, gk p i z1 z2]
  · exact wG.of rT0_m fun p i z => by rw [kH p i (by omega), ko p i (by omega)]
  · rw [kH 18 7 (by omega), k7]
    exact ⟨by omega, fun j _ => by rw [mbit_0]; rfl⟩
/-- tell -/
theorem k94 {U : Int → Int} {N : Int} {t u : Nat} {Q : Int → XF → Prop} (hP : xPT F) (hd : 9 < d) (hN : inR N) (ht : xob 9 t) (hu : xob 9 u) (h3 : t + 17 ≤ 37) (h5 : F 18 5 = (t : Int)) (h00 : F 0 0 = (u : Int)) (h0 : 0 ≤ F 18 0 ∧ F 18 0 ≤ 600) (hb : ∀ i, 0 ≤ i → i < F 18 0 → (0 ≤ U i ∧ U i ≤ 255) ∧ F 19 i = U i) (q0 : ¬ (0 ≤ N ∧ N ≤ F 18 0) → Q (-3) F) (q1 : (0 ≤ N ∧ N ≤ F 18 0) → ∀ z, rTold U N (F 133) = .error z → ∀ G, xPT G → (∀ p i, ¬ (t ≤ p ∧ p < t + 17) → ¬ p = 18 → G p i = F p i) → G 18 0 = 0 → G 18 5 = (t : Int) → G 18 1 = z.1 → G 18 2 = z.2 → 1 ≤ z.1 → z.1 ≤ 3 → Q (-30 - z.1) G) (q2 : (0 ≤ N ∧ N ≤ F 18 0) → ∀ a, rTold U N (F 133) = .ok a → ∀ G, xPT G → (∀ p i, 131 ≤ p → G p i = F p i) → G 18 0 = 0 → G 18 5 = (u : Int) → G 18 1 = 0 → G 18 2 = -1 → G 37 0 = 0 → cN G t (rTo F a.1) 0 → Q a.2 G) : xMI X d 94 [.ref 0, vi N] F Q := by
  have tb := xob9 ht
  have hat : cAt t := by omega
  refine m94 hP ⟨hN, fun z _ => q0 (by omega), fun z => ⟨hN, ⟨by omega, by omega⟩, fun z1 => ⟨9, hd, k29 (U := U) (T0 := F 133) hP (by omega) ht hat h5 (by omega) h0.2 hb fun G hG kG g0 g5 en => ?_⟩, fun z1 _ => q0 (by omega)⟩⟩
  cases hr : rTold U N (F 133) with
  | error z =>
    rw [hr] at en
    obtain ⟨e1, e2, e3, e4⟩ := en
    refine ⟨by rw [e1]; constructor <;> omega, fun c => absurd c (by omega), fun _ _ => ?_⟩
    rw [e1]
    exact q1 (by omega) z hr G hG kG g0 g5 e1 e2 e3 e4
  | ok a =>
    rw [hr] at en
    obtain ⟨e1, e2, e3, e4, e5, e6⟩ := en
    have ei : ∀ i, 0 ≤ i → i < 163 → rTo F a.1 i = a.1 i := fun i x y => by unfold rTo; rw [if_pos ⟨x, y⟩]
    have mm : mT (rTo F a.1) := e4.eq ei
    refine ⟨by rw [e1]; constructor <;> omega, fun _ => ⟨u, by rw [kG 0 0 (by omega) (by omega)]; exact h00, hu, 9, hd, m30 hG hu ⟨t, g5, ht, fun hH => ⟨9, hd, k1 (xPT_fld (k := 0) hH xob_11 (by decide) (by decide)) fun K hK kK k0 => ⟨9, hd, k96 (t := t) (T := rTo F a.1) hK (by omega) ⟨?_, ht, h3, mm, ?_, ?_⟩ fun L hL kL nL _ => ?_⟩⟩⟩⟩, fun c => absurd e1 c⟩
    · rw [kK 0 0 (by omega) (by omega), xup_s]
    · rw [ei 7 (by omega) (by omega)]; exact e5
    · refine (e3.eq e4 ei).of mm fun p i z => ?_
      rw [kK p i (by omega) (by omega), xup_o (by omega), xup_o (by omega)]
    · have l18 : ∀ i, ¬ i = 5 → L 18 i = G 18 i := fun i z => by rw [kL 18 i (by omega), kK 18 i (by omega) (by omega), xup_o (by decide), xup_i z]
      rw [l18 3 (by decide), e6]
      refine q2 (by omega) a hr L hL (fun p i z => ?_) (by rw [l18 0 (by decide)]; exact g0) ?_ (by rw [l18 1 (by decide)]; exact e1) (by rw [l18 2 (by decide)]; exact e2) (by rw [kL 37 0 (by omega)]; exact k0) nL
      · rw [kL p i (by omega), kK p i (by omega) (by omega), xup_o (by omega), xup_o (by omega), kG p i (by omega) (by omega)]
      · rw [kL 18 5 (by omega), kK 18 5 (by omega) (by omega), xup_o (by decide), xup_s]
end CL36
