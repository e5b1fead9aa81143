section CL34
variable {X : List Int32} {d : Nat} {F : XF}
variable {U T : Int → Int} {n p e : Int} {t : Nat} {Q : XF → Prop}
theorem k45 (hP : xPT F) (hd : 5 < d) (ht : xob 9 t) (hat : cAt t) (h5 : F 18 5 = (t : Int)) (hT : cTp U n F) (hm : mT T) (hw : cTw F t T) (hs : cRd U n F (.ok p)) (he : F 18 11 = e) (h0 : 0 ≤ e ∧ e ≤ n) (q : ∀ G, xPT G → cOut U n t F G (rGather U n T (rE (cBl U) n p) e) → Q G) : xMV X d 45 [.ref 18] F Q := by
  have hm' := hm
  obtain ⟨g0, _, _, _, _, _, g6, _, _, _, _, _, gg, _⟩ := hm'
  have e6 : F t 9 = T 6 := hw.1.2.2.2.2.2.2.1
  by_cases h4 : T 6 = 4
  · refine m45 hP ⟨t, h5, ht, by rw [e6]; constructor <;> omega, fun c => absurd c (by omega), fun _ => ⟨5, hd, ?_⟩⟩
    rw [(cRd_ok hs).2.2.2.2.1]
    exact kFail (U := U) (n := n) hP (cRd_ok hs).1 (by omega) fun G hG kG rG _ => q G hG (cOut_er kG.l (by unfold rGather; rw [if_pos h4]) rG)
  refine m45 hP ⟨t, h5, ht, by rw [e6]; constructor <;> omega, fun _ => ⟨5, hd, k32 hP (by omega) hT he h0 fun G2 hG2 kG2 tG2 => ?_⟩, fun c => absurd (by omega) c⟩
  have g5 : G2 18 5 = (t : Int) := (kG2 18 5 (by omega)).trans h5
  have w2 : cTw G2 t T := kG2.w.tw hat hm hw
  have d9 : G2 t 9 = T 6 := w2.1.2.2.2.2.2.2.1
  have d0 : G2 t 0 = T 0 := w2.1.1
  have T2 := kG2.tp hT
  have r2 : cRd U n G2 (.ok e) := tG2.rd (cRd_ok hs).1 (cRd_ok hs).2.1 kG2
  have fin : ∀ (lo : Int), lo = (if T 6 = 0 then 1 else T (138 + T 6 - 1) + 1) → ∀ G, xPT G → cKw G2 G → cRd U n G (rP (.ok e) (rNum U n lo (T 0))) → cOut U n t F (xup (xup G (t + 3) (T 6) (rY lo (.ok e) (rNum U n lo (T 0)))) t 9 (T 6 + 1)) (rGather U n T (rE (cBl U) n p) e) := by
    intro lo hl G hG k1 s1
    have kl : ∀ v, cKl t F (xup (xup G (t + 3) (T 6) v) t 9 (T 6 + 1)) := fun v => ((kG2.w.l.trans k1.l).up (by omega)).up (by omega)
    have er : rGather U n T (rE (cBl U) n p) e = rB (rNum U n lo (T 0) e) fun a0 => .ok (mSet (mSet T (138 + T 6) a0.1) 6 (T 6 + 1), a0.2) := by unfold rGather; rw [if_neg h4, ← hl]
    rcases rN_c (U := U) (n := n) (lo := lo) (hi := T 0) (p := e) with ⟨z, h1, h2⟩ | ⟨a, h1, h2, h3⟩
    · rw [h2] at s1
      exact cOut_er (kl _) (by rw [er, h1]; rfl) ((s1.up (t := t) hat (by omega)).up (t := t) hat (by omega))
    · rw [h2] at s1
      rw [h3]
      exact cOut_ok (a := (mSet (mSet T (138 + T 6) a.1) 6 (T 6 + 1), a.2)) (kl _) (by rw [er, h1]; rfl) ((s1.up (t := t) hat (by omega)).up (t := t) hat (by omega)) ((k1.tw hat hm w2).gath hm (by omega))
  refine ⟨t, g5, ht, ?_⟩
  rw [d9]
  refine ⟨⟨by omega, by omega⟩, fun c => ?_, fun c => ?_⟩
  · refine ⟨t, g5, ht, t, g5, ht, ?_⟩
    rw [d9]
    refine ⟨⟨by omega, by omega⟩, t, g5, ht, t, g5, ht, t, g5, ht, ?_⟩
    have gl := gg (T 6 - 1) (by omega) (by omega)
    have el : G2 (t + 3) (T 6 - 1) = T (138 + T 6 - 1) := by rw [w2.2.2.2.2.1 (T 6 - 1) (by omega) (by omega)]; congr 1; omega
    rw [show 138 + (T 6 - 1) = 138 + T 6 - 1 by omega] at gl
    rw [el, d0, d9]
    refine ⟨5, hd, k37 hG2 (by omega) T2 ⟨by omega, by omega⟩ ⟨by omega, by omega⟩ r2 fun G hG k1 s1 => ?_⟩
    have x9 : ∀ v, (xup G (t + 3) (T 6) v) t 9 = T 6 := fun v => by rw [xup_o (by omega), k1 t 9 (by omega), d9]
    refine ⟨⟨by omega, by omega⟩, t, by rw [xup_o (by omega), k1 18 5 (by omega)]; exact g5, ht, ?_⟩
    rw [x9]
    exact fun hH => q _ hH (fin _ (by rw [if_neg c]) G hG k1 s1)
  · refine ⟨t, g5, ht, t, g5, ht, t, g5, ht, ?_⟩
    have c0 : T 6 = 0 := Classical.not_not.mp c
    rw [d0, d9]
    refine ⟨5, hd, k37 hG2 (by omega) T2 ⟨by omega, by omega⟩ ⟨by omega, by omega⟩ r2 fun G hG k1 s1 => ?_⟩
    have x9 : ∀ v, (xup G (t + 3) (T 6) v) t 9 = T 6 := fun v => by rw [xup_o (by omega), k1 t 9 (by omega), d9]
    refine ⟨⟨by omega, by omega⟩, t, by rw [xup_o (by omega), k1 18 5 (by omega)]; exact g5, ht, ?_⟩
    rw [x9]
    exact fun hH => q _ hH (fin _ (by rw [if_pos c0]) G hG k1 s1)
theorem k44 (hP : xPT F) (hd : 5 < d) (ht : xob 9 t) (hat : cAt t) (h5 : F 18 5 = (t : Int)) (hT : cTp U n F) (hm : mT T) (hw : cTw F t T) (hs : cRd U n F (.ok p)) (he : F 18 11 = e) (h0 : 0 ≤ e ∧ e ≤ n) (q : ∀ G, xPT G → cOut U n t F G (rSplit U n T e) → Q G) : xMV X d 44 [.ref 18] F Q := by
  have t5 := hm.2.2.2.2.2.1
  refine m44 hP ⟨5, hd, k32 hP (by omega) hT he h0 fun G1 hG1 kG1 tG1 => ?_⟩
  have g5 : G1 18 5 = (t : Int) := (kG1 18 5 (by omega)).trans h5
  have w1 : cTw G1 t T := kG1.w.tw hat hm hw
  have d6 : G1 t 6 = T 5 := w1.1.2.2.2.2.2.1
  have T1 := kG1.tp hT
  have r1 : cRd U n G1 (.ok e) := tG1.rd (cRd_ok hs).1 (cRd_ok hs).2.1 kG1
  have d9 : G1 18 9 = rE (cBl U) n e := tG1.2.2.1
  refine ⟨t, g5, ht, ?_⟩
  rw [d6, d9]
  refine ⟨5, hd, k37 hG1 (by omega) T1 ⟨by omega, by omega⟩ ⟨by omega, by omega⟩ r1 fun G hG k1 s1 => ?_⟩
  have g5' : G 18 5 = (t : Int) := (k1 18 5 (by omega)).trans g5
  rcases rN_c (U := U) (n := n) (lo := 0) (hi := T 5 - 1) (p := e) with ⟨z, a1, a2⟩ | ⟨a, a1, a2, a3⟩
  · rw [a2] at s1
    have z7 := cRd_er s1
    exact ⟨by rw [z7.1]; constructor <;> omega, fun c => absurd c (by omega), fun _ _ => q G hG (cOut_er (kG1.w.l.trans k1.l) (by unfold rSplit; rw [a1]; rfl) s1)⟩
  · rw [a2] at s1
    have z := cRd_ok s1
    have bp := rNum_p h0.2 a1
    have wG : cTw G t T := k1.tw hat hm w1
    rw [a3]
    refine ⟨by rw [z.1]; constructor <;> omega, fun _ => ⟨t, g5', ht, ?_⟩, fun c => absurd z.1 c⟩
    have bt := wG.2.2.2.1 a.1.toNat (by omega)
    rw [show ((a.1.toNat : Nat) : Int) = a.1 by omega] at bt
    rw [xbit' (by omega) (by omega)]
    cases hb : mbit (G t 8) a.1.toNat with
    | false =>
      rw [hb] at bt
      refine ⟨⟨by decide, by decide⟩, fun _ => ⟨t, g5', ht, fun hH => q _ hH ?_⟩, fun c => absurd rfl c⟩
      refine cOut_ok (a := (mSet T (108 + a.1) 1, a.2)) ((kG1.w.l.trans k1.l).up (by omega)) ?_ (s1.up (t := t) hat (by omega)) (wG.set1 hm (by omega))
      unfold rSplit
      rw [a1, rB_ok, if_neg (by rw [bt]; decide)]
    | true =>
      rw [hb] at bt
      refine ⟨⟨by decide, by decide⟩, fun c => absurd c (by decide), fun _ => ⟨5, hd, kFail (U := U) (n := n) hG z.1 (by omega) fun H hH kH rH _ => q H hH (cOut_er ((kG1.w.l.trans k1.l).trans kH.l) ?_ rH)⟩⟩
      unfold rSplit
      rw [a1, rB_ok, if_pos (by rw [bt]; rfl)]
theorem k43 (hP : xPT F) (hd : 5 < d) (ht : xob 9 t) (hat : cAt t) (h5 : F 18 5 = (t : Int)) (hT : cTp U n F) (hm : mT T) (hw : cTw F t T) (hs : cRd U n F (.ok p)) (he : F 18 11 = e) (h0 : 0 ≤ e ∧ e ≤ n) (q : ∀ G, xPT G → cOut U n t F G (rColumn U n T e) → Q G) : xMV X d 43 [.ref 18] F Q := by
  have t5 := hm.2.2.2.2.2.1
  refine m43 hP ⟨5, hd, k32 hP (by omega) hT he h0 fun G1 hG1 kG1 tG1 => ?_⟩
  have d9 : G1 18 9 = rE (cBl U) n e := tG1.2.2.1
  have T1 := kG1.tp hT
  have r1 : cRd U n G1 (.ok e) := tG1.rd (cRd_ok hs).1 (cRd_ok hs).2.1 kG1
  rw [d9]
  refine ⟨5, hd, k37 hG1 (by omega) T1 ⟨by omega, by omega⟩ ⟨by omega, by omega⟩ r1 fun G2 hG2 k2 s2 => ⟨5, hd, k36 hG2 (by omega) (k2.tp T1) (by decide) (by decide) s2 fun G3 hG3 k3 s3 => ⟨5, hd, k37 hG3 (by omega) (k3.tp (k2.tp T1)) ⟨by omega, by omega⟩ ⟨by omega, by omega⟩ s3 fun G4 hG4 k4 s4 => ?_⟩⟩⟩
  have kk : cKw F G4 := kG1.w.trans (k2.trans (k3.trans k4))
  have g5 : G4 18 5 = (t : Int) := (kk 18 5 (by omega)).trans h5
  have w4 : cTw G4 t T := kk.tw hat hm hw
  have bad : ∀ z, rP (rB (rP (.ok e) (rNum U n 1 30)) (rWrd U n 12)) (rNum U n 1 30) = .error z → rColumn U n T e = .error z → ∀ (P : Prop), inR (G4 18 1) ∧ ((G4 18 1 = 0 → P) ∧ (¬ G4 18 1 = 0 → (xPT G4 → Q G4))) := fun z hz hc P => by
    rw [hz] at s4
    have z7 := cRd_er s4
    exact ⟨by rw [z7.1]; constructor <;> omega, fun c => absurd c (by omega), fun _ _ => q G4 hG4 (cOut_er kk.l hc s4)⟩
  rcases rN_c (U := U) (n := n) (lo := 1) (hi := 30) (p := e) with ⟨z, a1, a2⟩ | ⟨a, a1, a2, a3⟩
  · exact bad z (by rw [a2]; rfl) (by unfold rColumn; rw [a1]; rfl) _
  rcases rW_c (U := U) (n := n) (s := 12) (p := a.2) with ⟨z, b1⟩ | ⟨p1, b1⟩
  · exact bad z (by rw [a2, rB_ok, b1]; rfl) (by unfold rColumn; rw [a1, rB_ok, b1]; rfl) _
  have x1 : rB (rP (.ok e) (rNum U n 1 30)) (rWrd U n 12) = .ok p1 := by rw [a2, rB_ok, b1]
  rcases rN_c (U := U) (n := n) (lo := 1) (hi := 30) (p := p1) with ⟨z, c1, c2⟩ | ⟨b, c1, c2, c3⟩
  · exact bad z (by rw [x1, c2]) (by unfold rColumn; rw [a1, rB_ok, b1, rB_ok, c1]; rfl) _
  have bp := rNum_p h0.2 a1
  have wp := rWrd_p (show a.2 ≤ n by omega) b1
  have bp2 := rNum_p (show p1 ≤ n by omega) c1
  rw [x1, c2] at s4
  have z := cRd_ok s4
  have rc : rColumn U n T e = (if 30 < T 5 + a.1 then .error (3, rE (cBl U) n e) else .ok (rLong T a.1 b.1, b.2)) := by
    unfold rColumn
    rw [a1, rB_ok, b1, rB_ok, c1, rB_ok]
  have d6 : G4 t 6 = T 5 := w4.1.2.2.2.2.2.1
  rw [a3, x1, c3]
  refine ⟨by rw [z.1]; constructor <;> omega, fun _ => ⟨t, g5, ht, ?_⟩, fun c => absurd z.1 c⟩
  rw [d6]
  refine ⟨⟨by omega, by omega⟩, fun c => ⟨t, g5, ht, 5, hd, k73 hG4 ht hm w4 (by omega) (by omega) fun H hH kH wH _ => q H hH ?_⟩, fun c => ⟨5, hd, kFail (U := U) (n := n) hG4 z.1 (by omega) fun H hH kH rH _ => q H hH (cOut_er (kk.l.trans kH.l) (by rw [rc, if_pos (by omega)]) rH)⟩⟩
  exact cOut_ok (a := (rLong T a.1 b.1, b.2)) (kk.l.trans fun p i z1 z2 => kH p i z1) (by rw [rc, if_neg (by omega)]) (s4.of fun i _ => kH 18 i (by omega)) wH
theorem k46 (hP : xPT F) (hd : 5 < d) (ht : xob 9 t) (hat : cAt t) (h5 : F 18 5 = (t : Int)) (hT : cTp U n F) (hm : mT T) (h6 : T 7 ≤ 6) (hw : cTw F t T) (hs : cRd U n F (.ok p)) (he : F 18 11 = e) (h0 : 0 ≤ e ∧ e ≤ n) (q : ∀ G, xPT G → cOut U n t F G (rBroken U n T (rE (cBl U) n p) e) → Q G) : xMV X d 46 [.ref 18] F Q := by
  have t5 := hm.2.2.2.2.2.1
  have t7 := hm.2.2.2.2.2.2.2.1
  have e7 : F t 11 = T 7 := hw.1.2.2.2.2.2.2.2
  by_cases h4 : T 7 = 6
  · refine m46 hP ⟨t, h5, ht, by rw [e7]; constructor <;> omega, fun c => absurd c (by omega), fun _ => ⟨5, hd, ?_⟩⟩
    rw [(cRd_ok hs).2.2.2.2.1]
    exact kFail (U := U) (n := n) hP (cRd_ok hs).1 (by omega) fun G hG kG rG _ => q G hG (cOut_er kG.l (by unfold rBroken; rw [if_pos h4]) rG)
  refine m46 hP ⟨t, h5, ht, by rw [e7]; constructor <;> omega, fun _ => ⟨5, hd, k32 hP (by omega) hT he h0 fun G1 hG1 kG1 tG1 => ?_⟩, fun c => absurd (by omega) c⟩
  have g5 : G1 18 5 = (t : Int) := (kG1 18 5 (by omega)).trans h5
  have w1 : cTw G1 t T := kG1.w.tw hat hm hw
  have d6 : G1 t 6 = T 5 := w1.1.2.2.2.2.2.1
  have T1 := kG1.tp hT
  have r1 : cRd U n G1 (.ok e) := tG1.rd (cRd_ok hs).1 (cRd_ok hs).2.1 kG1
  refine ⟨t, g5, ht, ?_⟩
  rw [d6]
  refine ⟨5, hd, k37 hG1 (by omega) T1 ⟨by omega, by omega⟩ ⟨by omega, by omega⟩ r1 fun G2 hG2 k2 s2 => ⟨5, hd, k36 hG2 (by omega) (k2.tp T1) (by decide) (by decide) s2 fun G3 hG3 k3 s3 => ⟨5, hd, k37 hG3 (by omega) (k3.tp (k2.tp T1)) ⟨by omega, by omega⟩ ⟨by omega, by omega⟩ s3 fun G4 hG4 k4 s4 => ⟨5, hd, k36 hG4 (by omega) (k4.tp (k3.tp (k2.tp T1))) (by decide) (by decide) s4 fun G5 hG5 k5 s5 => ⟨5, hd, k37 hG5 (by omega) (k5.tp (k4.tp (k3.tp (k2.tp T1)))) ⟨by omega, by omega⟩ ⟨by omega, by omega⟩ s5 fun G6 hG6 k6 s6 => ?_⟩⟩⟩⟩⟩
  have kk : cKw F G6 := kG1.w.trans (k2.trans (k3.trans (k4.trans (k5.trans k6))))
  have g6 : G6 18 5 = (t : Int) := (kk 18 5 (by omega)).trans h5
  have w6 : cTw G6 t T := kk.tw hat hm hw
  have rb : rBroken U n T (rE (cBl U) n p) e = rB (rNum U n 0 (T 5 - 1) e) fun a0 => rB (rWrd U n 16 a0.2) fun p1 => rB (rNum U n 0 1999 p1) fun a1 => rB (rWrd U n 17 a1.2) fun p2 => rB (rNum U n 1 500 p2) fun a2 => .ok (mBrT T a0.1 a1.1 a2.1, a2.2) := by unfold rBroken; rw [if_neg h4]
  have bad : ∀ z, rP (rB (rP (rB (rP (.ok e) (rNum U n 0 (T 5 - 1))) (rWrd U n 16)) (rNum U n 0 1999)) (rWrd U n 17)) (rNum U n 1 500) = .error z → rBroken U n T (rE (cBl U) n p) e = .error z → ∀ (P : Prop), inR (G6 18 1) ∧ ((¬ G6 18 1 = 0 → (xPT G6 → Q G6)) ∧ (¬ ¬ G6 18 1 = 0 → P)) := fun z hz hc P => by
    rw [hz] at s6
    have z7 := cRd_er s6
    exact ⟨by rw [z7.1]; constructor <;> omega, fun _ _ => q G6 hG6 (cOut_er kk.l hc s6), fun c => absurd (show ¬ G6 18 1 = 0 by omega) c⟩
  rcases rN_c (U := U) (n := n) (lo := 0) (hi := T 5 - 1) (p := e) with ⟨z, a1, a2⟩ | ⟨a, a1, a2, a3⟩
  · exact bad z (by rw [a2]; rfl) (by rw [rb, a1]; rfl) _
  rcases rW_c (U := U) (n := n) (s := 16) (p := a.2) with ⟨z, v1⟩ | ⟨p1, v1⟩
  · exact bad z (by rw [a2, rB_ok, v1]; rfl) (by rw [rb, a1, rB_ok, v1]; rfl) _
  have x1 : rB (rP (.ok e) (rNum U n 0 (T 5 - 1))) (rWrd U n 16) = .ok p1 := by rw [a2, rB_ok, v1]
  rcases rN_c (U := U) (n := n) (lo := 0) (hi := 1999) (p := p1) with ⟨z, b1, b2⟩ | ⟨b, b1, b2, b3⟩
  · exact bad z (by rw [x1, b2]; rfl) (by rw [rb, a1, rB_ok, v1, rB_ok, b1]; rfl) _
  rcases rW_c (U := U) (n := n) (s := 17) (p := b.2) with ⟨z, v2⟩ | ⟨p2, v2⟩
  · exact bad z (by rw [x1, b2, rB_ok, v2]; rfl) (by rw [rb, a1, rB_ok, v1, rB_ok, b1, rB_ok, v2]; rfl) _
  have x2 : rB (rP (.ok p1) (rNum U n 0 1999)) (rWrd U n 17) = .ok p2 := by rw [b2, rB_ok, v2]
  rcases rN_c (U := U) (n := n) (lo := 1) (hi := 500) (p := p2) with ⟨z, c1, c2⟩ | ⟨c, c1, c2, c3⟩
  · exact bad z (by rw [x1, x2, c2]) (by rw [rb, a1, rB_ok, v1, rB_ok, b1, rB_ok, v2, rB_ok, c1]; rfl) _
  rw [x1, x2, c2] at s6
  have z := cRd_ok s6
  rw [a3, x1, b3, x2, c3]
  refine ⟨by rw [z.1]; constructor <;> omega, fun c => absurd z.1 c, fun _ => ⟨t, g6, ht, 5, hd, k74 hG6 ht hm h6 w6 fun H hH kH wH _ => q H hH ?_⟩⟩
  exact cOut_ok (a := (mBrT T a.1 b.1 c.1, c.2)) (kk.l.trans fun p i z1 z2 => kH p i z1) (by rw [rb, a1, rB_ok, v1, rB_ok, b1, rB_ok, v2, rB_ok, c1, rB_ok]) (s6.of fun i _ => kH 18 i (by omega)) wH
end CL34
