section CL33
variable {X : List Int32} {d : Nat} {F : XF}
/-- the crossing at c is being read -/
def cKc (c : Nat) (F G : XF) : Prop := ∀ p i, ¬ p = c → ¬ (p = 18 ∧ (i = 1 ∨ i = 2 ∨ (8 ≤ i ∧ i ≤ 11))) → G p i = F p i
theorem cKc.trans {c : Nat} {F G H : XF} (a : cKc c F G) (b : cKc c G H) : cKc c F H := fun p i h1 h2 => (b p i h1 h2).trans (a p i h1 h2)
theorem cKw.c {c : Nat} {F G : XF} (a : cKw F G) : cKc c F G := fun p i _ h => a p i h
theorem cKc.up {c : Nat} {F G : XF} {i v : Int} (a : cKc c F G) : cKc c F (xup G c i v) := a.trans fun p j h1 _ => xup_o h1
theorem cKc.tp {c : Nat} {U : Int → Int} {n : Int} {F G : XF} (hc : ¬ c = 18 ∧ ¬ c = 19) (a : cKc c F G) (h : cTp U n F) : cTp U n G := h.of fun p i hp => a p i (by omega) (by omega)
theorem c42 {U : Int → Int} {n y1 L : Int} {x1 : RR Int} {t c : Nat} {Q : XF → Prop} (G1 : XF) (hP : xPT G1) (hd : 5 < d) (hT : cTp U n G1) (ht : xob 9 t) (hat : cAt t) (hc : xob 1 c) (hct : t + 7 ≤ c ∧ c < t + 17) (h5 : G1 18 5 = (t : Int)) (s1 : cRd U n G1 x1) (hb1 : 0 ≤ y1 ∧ y1 ≤ 20000) (h0 : G1 t 0 = L) (hL : 10 ≤ L ∧ L ≤ 1000) (q : ∀ K (y2 y3 y4 y5 y6 y7 : Int) (x2 x3 x4 x5 x6 x7 : RR Int), xPT K → (∀ p i, ¬ p = c → ¬ (p = t ∧ i = 4) → ¬ (p = 18 ∧ (i = 1 ∨ i = 2 ∨ (8 ≤ i ∧ i ≤ 11))) → K p i = G1 p i) → x2 = rP (rB x1 (rWrd U n 5)) (rNum U n 1 (if L - y1 < 50 then L - y1 else 50)) → y2 = rY 1 (rB x1 (rWrd U n 5)) (rNum U n 1 (if L - y1 < 50 then L - y1 else 50)) → x3 = rP (rB x2 (rWrd U n 6)) (rNum U n 1 200) → y3 = rY 1 (rB x2 (rWrd U n 6)) (rNum U n 1 200) → x4 = rP (rB x3 (rWrd U n 7)) (rNum U n 0 (y3 - 1)) → y4 = rY 0 (rB x3 (rWrd U n 7)) (rNum U n 0 (y3 - 1)) → x5 = rP (rB x4 (rWrd U n 8)) (rNum U n (y4 + 1) y3) → y5 = rY (y4 + 1) (rB x4 (rWrd U n 8)) (rNum U n (y4 + 1) y3) → x6 = rP (rB x5 (rWrd U n 9)) (rNum U n 0 99) → y6 = rY 0 (rB x5 (rWrd U n 9)) (rNum U n 0 99) → x7 = rP (rB x6 (rWrd U n 10)) (rNum U n 1 20) → y7 = rY 1 (rB x6 (rWrd U n 10)) (rNum U n 1 20) → cRd U n K x7 → K t 4 = G1 t 4 + 1 → (K c 0 = y1 ∧ K c 1 = y1 + y2 ∧ K c 2 = y3 ∧ K c 3 = y4 ∧ K c 4 = y5 ∧ K c 5 = y6 ∧ K c 6 = y7) → Q K) : ∃ (j12 : Nat), j12 < d ∧ xMV X j12 36 [.ref 18, .ref (xSB + 2 * 5)] (xup G1 c 0 y1) (fun (G12 : XF) => (∃ t13 : Nat, G12 18 5 = (t13 : Int) ∧ xob 9 t13 ∧ (inR ((G12 t13 0) - (G12 c 0)) ∧ (∃ (j14 : Nat), j14 < d ∧ xMI X j14 37 [.ref 18, vi 1, vi (min 50 ((G12 t13 0) - (G12 c 0)))] G12 (fun (y14 : Int) (G14 : XF) => (∃ (j15 : Nat), j15 < d ∧ xMV X j15 36 [.ref 18, .ref (xSB + 2 * 6)] (xup G14 c 1 ((G12 c 0) + y14)) (fun (G15 : XF) => (∃ (j16 : Nat), j16 < d ∧ xMI X j16 37 [.ref 18, vi 1, vi 200] G15 (fun (y16 : Int) (G16 : XF) => (∃ (j17 : Nat), j17 < d ∧ xMV X j17 36 [.ref 18, .ref (xSB + 2 * 7)] (xup G16 c 2 y16) (fun (G17 : XF) => (∃ (j18 : Nat), j18 < d ∧ xMI X j18 37 [.ref 18, vi 0, vi ((G17 c 2) - 1)] G17 (fun (y18 : Int) (G18 : XF) => (∃ (j19 : Nat), j19 < d ∧ xMV X j19 36 [.ref 18, .ref (xSB + 2 * 8)] (xup G18 c 3 y18) (fun (G19 : XF) => (∃ (j20 : Nat), j20 < d ∧ xMI X j20 37 [.ref 18, vi ((G19 c 3) + 1), vi (G19 c 2)] G19 (fun (y20 : Int) (G20 : XF) => (∃ (j21 : Nat), j21 < d ∧ xMV X j21 36 [.ref 18, .ref (xSB + 2 * 9)] (xup G20 c 4 y20) (fun (G21 : XF) => (∃ (j22 : Nat), j22 < d ∧ xMI X j22 37 [.ref 18, vi 0, vi 99] G21 (fun (y22 : Int) (G22 : XF) => (∃ (j23 : Nat), j23 < d ∧ xMV X j23 36 [.ref 18, .ref (xSB + 2 * 10)] (xup G22 c 5 y22) (fun (G23 : XF) => (∃ (j24 : Nat), j24 < d ∧ xMI X j24 37 [.ref 18, vi 1, vi 20] G23 (fun (y24 : Int) (G24 : XF) => (∃ t25 : Nat, (xup G24 c 6 y24) 18 5 = (t25 : Int) ∧ xob 9 t25 ∧ (xPT (xup (xup G24 c 6 y24) t25 4 (((xup G24 c 6 y24) t25 4) + 1)) → Q (xup (xup G24 c 6 y24) t25 4 (((xup G24 c 6 y24) t25 4) + 1))))))))))))))))))))))))))))) := by
  have cn : ¬ c = 18 ∧ ¬ c = 19 := by omega
  have p1 : xPT (xup G1 c 0 y1) := xPT_fld (k := 0) hP hc (by decide) (by decide)
  have f1 : cKc c G1 (xup G1 c 0 y1) := (show cKc c G1 G1 from fun _ _ _ _ => rfl).up
  have t1 : cTp U n (xup G1 c 0 y1) := f1.tp cn hT
  have r1 : cRd U n (xup G1 c 0 y1) x1 := s1.of fun j _ => xup_o (by omega)
  have g1_0 : (xup G1 c 0 y1) c 0 = y1 := xup_s
  refine ⟨5, hd, k36 (s := 5) p1 (by omega) t1 (by decide) (by decide) r1 fun A2 hA2 kA2 rA2 => ?_⟩
  have a2_0 : A2 c 0 = y1 := (kA2 c 0 (by omega)).trans g1_0
  have a25 : A2 18 5 = (t : Int) := by rw [kA2 18 5 (by omega), xup_o (by omega)]; exact h5
  have a20 : A2 t 0 = L := by rw [kA2 t 0 (by omega), xup_o (by omega)]; exact h0
  refine ⟨t, a25, ht, ?_⟩
  rw [a20, a2_0, show min 50 (L - y1) = (if L - y1 < 50 then L - y1 else 50) by split <;> omega]
  have hbb : -20000 ≤ (if L - y1 < 50 then L - y1 else 50) ∧ (if L - y1 < 50 then L - y1 else 50) ≤ 50 := by split <;> omega
  refine ⟨⟨by omega, by omega⟩, ?_⟩
  refine ⟨5, hd, k37 hA2 (by omega) (kA2.tp t1) ⟨by omega, by omega⟩ ⟨by omega, by omega⟩ rA2 fun B2 hB2 kB2 rB2 => ?_⟩
  have hb2 : 0 ≤ rY 1 (rB x1 (rWrd U n 5)) (rNum U n 1 (if L - y1 < 50 then L - y1 else 50)) ∧ rY 1 (rB x1 (rWrd U n 5)) (rNum U n 1 (if L - y1 < 50 then L - y1 else 50)) ≤ 20000 := rY_r (rWx (cRd_x r1)) (by omega) (by omega)
  obtain ⟨y2, ey2⟩ : ∃ y, y = rY 1 (rB x1 (rWrd U n 5)) (rNum U n 1 (if L - y1 < 50 then L - y1 else 50)) := ⟨_, rfl⟩
  obtain ⟨x2, ex2⟩ : ∃ x, x = rP (rB x1 (rWrd U n 5)) (rNum U n 1 (if L - y1 < 50 then L - y1 else 50)) := ⟨_, rfl⟩
  rw [← ey2] at hb2 ⊢
  rw [← ex2] at rB2
  have p2 : xPT (xup B2 c 1 (y1 + y2)) := xPT_fld (k := 1) hB2 hc (by decide) (by decide)
  have f2 : cKc c G1 (xup B2 c 1 (y1 + y2)) := (f1.trans (kA2.c.trans kB2.c)).up
  have t2 : cTp U n (xup B2 c 1 (y1 + y2)) := f2.tp cn hT
  have r2 : cRd U n (xup B2 c 1 (y1 + y2)) x2 := rB2.of fun j _ => xup_o (by omega)
  have g2_0 : (xup B2 c 1 (y1 + y2)) c 0 = y1 := by rw [xup_i (by decide), kB2 c 0 (by omega)]; exact a2_0
  have g2_1 : (xup B2 c 1 (y1 + y2)) c 1 = (y1 + y2) := xup_s
  refine ⟨5, hd, k36 (s := 6) p2 (by omega) t2 (by decide) (by decide) r2 fun A3 hA3 kA3 rA3 => ?_⟩
  have a3_0 : A3 c 0 = y1 := (kA3 c 0 (by omega)).trans g2_0
  have a3_1 : A3 c 1 = (y1 + y2) := (kA3 c 1 (by omega)).trans g2_1
  refine ⟨5, hd, k37 hA3 (by omega) (kA3.tp t2) ⟨by omega, by omega⟩ ⟨by omega, by omega⟩ rA3 fun B3 hB3 kB3 rB3 => ?_⟩
  have hb3 : 0 ≤ rY 1 (rB x2 (rWrd U n 6)) (rNum U n 1 200) ∧ rY 1 (rB x2 (rWrd U n 6)) (rNum U n 1 200) ≤ 20000 := rY_r (rWx (cRd_x r2)) (by omega) (by omega)
  obtain ⟨y3, ey3⟩ : ∃ y, y = rY 1 (rB x2 (rWrd U n 6)) (rNum U n 1 200) := ⟨_, rfl⟩
  obtain ⟨x3, ex3⟩ : ∃ x, x = rP (rB x2 (rWrd U n 6)) (rNum U n 1 200) := ⟨_, rfl⟩
  rw [← ey3] at hb3 ⊢
  rw [← ex3] at rB3
  have p3 : xPT (xup B3 c 2 y3) := xPT_fld (k := 2) hB3 hc (by decide) (by decide)
  have f3 : cKc c G1 (xup B3 c 2 y3) := (f2.trans (kA3.c.trans kB3.c)).up
  have t3 : cTp U n (xup B3 c 2 y3) := f3.tp cn hT
  have r3 : cRd U n (xup B3 c 2 y3) x3 := rB3.of fun j _ => xup_o (by omega)
  have g3_0 : (xup B3 c 2 y3) c 0 = y1 := by rw [xup_i (by decide), kB3 c 0 (by omega)]; exact a3_0
  have g3_1 : (xup B3 c 2 y3) c 1 = (y1 + y2) := by rw [xup_i (by decide), kB3 c 1 (by omega)]; exact a3_1
  have g3_2 : (xup B3 c 2 y3) c 2 = y3 := xup_s
  refine ⟨5, hd, k36 (s := 7) p3 (by omega) t3 (by decide) (by decide) r3 fun A4 hA4 kA4 rA4 => ?_⟩
  have a4_0 : A4 c 0 = y1 := (kA4 c 0 (by omega)).trans g3_0
  have a4_1 : A4 c 1 = (y1 + y2) := (kA4 c 1 (by omega)).trans g3_1
  have a4_2 : A4 c 2 = y3 := (kA4 c 2 (by omega)).trans g3_2
  rw [a4_2]
  refine ⟨5, hd, k37 hA4 (by omega) (kA4.tp t3) ⟨by omega, by omega⟩ ⟨by omega, by omega⟩ rA4 fun B4 hB4 kB4 rB4 => ?_⟩
  have hb4 : 0 ≤ rY 0 (rB x3 (rWrd U n 7)) (rNum U n 0 (y3 - 1)) ∧ rY 0 (rB x3 (rWrd U n 7)) (rNum U n 0 (y3 - 1)) ≤ 20000 := rY_r (rWx (cRd_x r3)) (by omega) (by omega)
  obtain ⟨y4, ey4⟩ : ∃ y, y = rY 0 (rB x3 (rWrd U n 7)) (rNum U n 0 (y3 - 1)) := ⟨_, rfl⟩
  obtain ⟨x4, ex4⟩ : ∃ x, x = rP (rB x3 (rWrd U n 7)) (rNum U n 0 (y3 - 1)) := ⟨_, rfl⟩
  rw [← ey4] at hb4 ⊢
  rw [← ex4] at rB4
  have p4 : xPT (xup B4 c 3 y4) := xPT_fld (k := 3) hB4 hc (by decide) (by decide)
  have f4 : cKc c G1 (xup B4 c 3 y4) := (f3.trans (kA4.c.trans kB4.c)).up
  have t4 : cTp U n (xup B4 c 3 y4) := f4.tp cn hT
  have r4 : cRd U n (xup B4 c 3 y4) x4 := rB4.of fun j _ => xup_o (by omega)
  have g4_0 : (xup B4 c 3 y4) c 0 = y1 := by rw [xup_i (by decide), kB4 c 0 (by omega)]; exact a4_0
  have g4_1 : (xup B4 c 3 y4) c 1 = (y1 + y2) := by rw [xup_i (by decide), kB4 c 1 (by omega)]; exact a4_1
  have g4_2 : (xup B4 c 3 y4) c 2 = y3 := by rw [xup_i (by decide), kB4 c 2 (by omega)]; exact a4_2
  have g4_3 : (xup B4 c 3 y4) c 3 = y4 := xup_s
  refine ⟨5, hd, k36 (s := 8) p4 (by omega) t4 (by decide) (by decide) r4 fun A5 hA5 kA5 rA5 => ?_⟩
  have a5_0 : A5 c 0 = y1 := (kA5 c 0 (by omega)).trans g4_0
  have a5_1 : A5 c 1 = (y1 + y2) := (kA5 c 1 (by omega)).trans g4_1
  have a5_2 : A5 c 2 = y3 := (kA5 c 2 (by omega)).trans g4_2
  have a5_3 : A5 c 3 = y4 := (kA5 c 3 (by omega)).trans g4_3
  rw [a5_3, a5_2]
  refine ⟨5, hd, k37 hA5 (by omega) (kA5.tp t4) ⟨by omega, by omega⟩ ⟨by omega, by omega⟩ rA5 fun B5 hB5 kB5 rB5 => ?_⟩
  have hb5 : 0 ≤ rY (y4 + 1) (rB x4 (rWrd U n 8)) (rNum U n (y4 + 1) y3) ∧ rY (y4 + 1) (rB x4 (rWrd U n 8)) (rNum U n (y4 + 1) y3) ≤ 30000 := rY_r (rWx (cRd_x r4)) (by omega) (by omega)
  obtain ⟨y5, ey5⟩ : ∃ y, y = rY (y4 + 1) (rB x4 (rWrd U n 8)) (rNum U n (y4 + 1) y3) := ⟨_, rfl⟩
  obtain ⟨x5, ex5⟩ : ∃ x, x = rP (rB x4 (rWrd U n 8)) (rNum U n (y4 + 1) y3) := ⟨_, rfl⟩
  rw [← ey5] at hb5 ⊢
  rw [← ex5] at rB5
  have p5 : xPT (xup B5 c 4 y5) := xPT_fld (k := 4) hB5 hc (by decide) (by decide)
  have f5 : cKc c G1 (xup B5 c 4 y5) := (f4.trans (kA5.c.trans kB5.c)).up
  have t5 : cTp U n (xup B5 c 4 y5) := f5.tp cn hT
  have r5 : cRd U n (xup B5 c 4 y5) x5 := rB5.of fun j _ => xup_o (by omega)
  have g5_0 : (xup B5 c 4 y5) c 0 = y1 := by rw [xup_i (by decide), kB5 c 0 (by omega)]; exact a5_0
  have g5_1 : (xup B5 c 4 y5) c 1 = (y1 + y2) := by rw [xup_i (by decide), kB5 c 1 (by omega)]; exact a5_1
  have g5_2 : (xup B5 c 4 y5) c 2 = y3 := by rw [xup_i (by decide), kB5 c 2 (by omega)]; exact a5_2
  have g5_3 : (xup B5 c 4 y5) c 3 = y4 := by rw [xup_i (by decide), kB5 c 3 (by omega)]; exact a5_3
  have g5_4 : (xup B5 c 4 y5) c 4 = y5 := xup_s
  refine ⟨5, hd, k36 (s := 9) p5 (by omega) t5 (by decide) (by decide) r5 fun A6 hA6 kA6 rA6 => ?_⟩
  have a6_0 : A6 c 0 = y1 := (kA6 c 0 (by omega)).trans g5_0
  have a6_1 : A6 c 1 = (y1 + y2) := (kA6 c 1 (by omega)).trans g5_1
  have a6_2 : A6 c 2 = y3 := (kA6 c 2 (by omega)).trans g5_2
  have a6_3 : A6 c 3 = y4 := (kA6 c 3 (by omega)).trans g5_3
  have a6_4 : A6 c 4 = y5 := (kA6 c 4 (by omega)).trans g5_4
  refine ⟨5, hd, k37 hA6 (by omega) (kA6.tp t5) ⟨by omega, by omega⟩ ⟨by omega, by omega⟩ rA6 fun B6 hB6 kB6 rB6 => ?_⟩
  have hb6 : 0 ≤ rY 0 (rB x5 (rWrd U n 9)) (rNum U n 0 99) ∧ rY 0 (rB x5 (rWrd U n 9)) (rNum U n 0 99) ≤ 30000 := rY_r (rWx (cRd_x r5)) (by omega) (by omega)
  obtain ⟨y6, ey6⟩ : ∃ y, y = rY 0 (rB x5 (rWrd U n 9)) (rNum U n 0 99) := ⟨_, rfl⟩
  obtain ⟨x6, ex6⟩ : ∃ x, x = rP (rB x5 (rWrd U n 9)) (rNum U n 0 99) := ⟨_, rfl⟩
  rw [← ey6] at hb6 ⊢
  rw [← ex6] at rB6
  have p6 : xPT (xup B6 c 5 y6) := xPT_fld (k := 5) hB6 hc (by decide) (by decide)
  have f6 : cKc c G1 (xup B6 c 5 y6) := (f5.trans (kA6.c.trans kB6.c)).up
  have t6 : cTp U n (xup B6 c 5 y6) := f6.tp cn hT
  have r6 : cRd U n (xup B6 c 5 y6) x6 := rB6.of fun j _ => xup_o (by omega)
  have g6_0 : (xup B6 c 5 y6) c 0 = y1 := by rw [xup_i (by decide), kB6 c 0 (by omega)]; exact a6_0
  have g6_1 : (xup B6 c 5 y6) c 1 = (y1 + y2) := by rw [xup_i (by decide), kB6 c 1 (by omega)]; exact a6_1
  have g6_2 : (xup B6 c 5 y6) c 2 = y3 := by rw [xup_i (by decide), kB6 c 2 (by omega)]; exact a6_2
  have g6_3 : (xup B6 c 5 y6) c 3 = y4 := by rw [xup_i (by decide), kB6 c 3 (by omega)]; exact a6_3
  have g6_4 : (xup B6 c 5 y6) c 4 = y5 := by rw [xup_i (by decide), kB6 c 4 (by omega)]; exact a6_4
  have g6_5 : (xup B6 c 5 y6) c 5 = y6 := xup_s
  refine ⟨5, hd, k36 (s := 10) p6 (by omega) t6 (by decide) (by decide) r6 fun A7 hA7 kA7 rA7 => ?_⟩
  have a7_0 : A7 c 0 = y1 := (kA7 c 0 (by omega)).trans g6_0
  have a7_1 : A7 c 1 = (y1 + y2) := (kA7 c 1 (by omega)).trans g6_1
  have a7_2 : A7 c 2 = y3 := (kA7 c 2 (by omega)).trans g6_2
  have a7_3 : A7 c 3 = y4 := (kA7 c 3 (by omega)).trans g6_3
  have a7_4 : A7 c 4 = y5 := (kA7 c 4 (by omega)).trans g6_4
  have a7_5 : A7 c 5 = y6 := (kA7 c 5 (by omega)).trans g6_5
  refine ⟨5, hd, k37 hA7 (by omega) (kA7.tp t6) ⟨by omega, by omega⟩ ⟨by omega, by omega⟩ rA7 fun B7 hB7 kB7 rB7 => ?_⟩
  have hb7 : 0 ≤ rY 1 (rB x6 (rWrd U n 10)) (rNum U n 1 20) ∧ rY 1 (rB x6 (rWrd U n 10)) (rNum U n 1 20) ≤ 30000 := rY_r (rWx (cRd_x r6)) (by omega) (by omega)
  obtain ⟨y7, ey7⟩ : ∃ y, y = rY 1 (rB x6 (rWrd U n 10)) (rNum U n 1 20) := ⟨_, rfl⟩
  obtain ⟨x7, ex7⟩ : ∃ x, x = rP (rB x6 (rWrd U n 10)) (rNum U n 1 20) := ⟨_, rfl⟩
  rw [← ey7] at hb7 ⊢
  rw [← ex7] at rB7
  have p7 : xPT (xup B7 c 6 y7) := xPT_fld (k := 6) hB7 hc (by decide) (by decide)
  have f7 : cKc c G1 (xup B7 c 6 y7) := (f6.trans (kA7.c.trans kB7.c)).up
  have t7 : cTp U n (xup B7 c 6 y7) := f7.tp cn hT
  have r7 : cRd U n (xup B7 c 6 y7) x7 := rB7.of fun j _ => xup_o (by omega)
  have g7_0 : (xup B7 c 6 y7) c 0 = y1 := by rw [xup_i (by decide), kB7 c 0 (by omega)]; exact a7_0
  have g7_1 : (xup B7 c 6 y7) c 1 = (y1 + y2) := by rw [xup_i (by decide), kB7 c 1 (by omega)]; exact a7_1
  have g7_2 : (xup B7 c 6 y7) c 2 = y3 := by rw [xup_i (by decide), kB7 c 2 (by omega)]; exact a7_2
  have g7_3 : (xup B7 c 6 y7) c 3 = y4 := by rw [xup_i (by decide), kB7 c 3 (by omega)]; exact a7_3
  have g7_4 : (xup B7 c 6 y7) c 4 = y5 := by rw [xup_i (by decide), kB7 c 4 (by omega)]; exact a7_4
  have g7_5 : (xup B7 c 6 y7) c 5 = y6 := by rw [xup_i (by decide), kB7 c 5 (by omega)]; exact a7_5
  have g7_6 : (xup B7 c 6 y7) c 6 = y7 := xup_s
  have e5 : (xup B7 c 6 y7) 18 5 = (t : Int) := (f7 18 5 (by omega) (by omega)).trans h5
  have e4 : (xup B7 c 6 y7) t 4 = G1 t 4 := f7 t 4 (by omega) (by omega)
  refine ⟨t, e5, ht, fun hK => q _ y2 y3 y4 y5 y6 y7 x2 x3 x4 x5 x6 x7 hK (fun p i h1 h2 h3 => ?_) ex2 ey2 ex3 ey3 ex4 ey4 ex5 ey5 ex6 ey6 ex7 ey7 (r7.of fun j _ => xup_o (by omega)) (by rw [xup_s, e4]) ⟨?_, ?_, ?_, ?_, ?_, ?_, ?_⟩⟩
  · rw [xup_n h2]
    exact f7 p i h1 h3
  · rw [xup_o (by omega)]; exact g7_0
  · rw [xup_o (by omega)]; exact g7_1
  · rw [xup_o (by omega)]; exact g7_2
  · rw [xup_o (by omega)]; exact g7_3
  · rw [xup_o (by omega)]; exact g7_4
  · rw [xup_o (by omega)]; exact g7_5
  · rw [xup_o (by omega)]; exact g7_6
theorem k42 {U T : Int → Int} {n p e : Int} {t : Nat} {Q : XF → Prop} (hP : xPT F) (hd : 5 < d) (ht : xob 9 t) (hat : cAt t) (h5 : F 18 5 = (t : Int)) (hT : cTp U n F) (hm : mT T) (hw : cTw F t T) (hs : cRd U n F (.ok p)) (he : F 18 11 = e) (h0 : 0 ≤ e ∧ e ≤ n) (q : ∀ G, xPT G → cOut U n t F G (rCross U n T (rE (cBl U) n p) e) → Q G) : xMV X d 42 [.ref 18] F Q := by
  have hm' := hm
  obtain ⟨g0, _, _, _, g4, _, _, _, gX, _⟩ := hm'
  have e4 : F t 4 = T 4 := hw.1.2.2.2.2.1
  by_cases h10 : T 4 = 10
  · refine m42 hP ⟨t, h5, ht, by rw [e4]; constructor <;> omega, fun c => absurd c (by omega), fun _ => ⟨5, hd, ?_⟩⟩
    rw [(cRd_ok hs).2.2.2.2.1]
    exact kFail (U := U) (n := n) hP (cRd_ok hs).1 (by omega) fun G hG kG rG _ => q G hG (cOut_er kG.l (by unfold rCross; rw [if_pos h10]) rG)
  have hlo : 0 ≤ (if T 4 = 0 then 0 else T (8 + 7 * T 4 - 7) + T (8 + 7 * T 4 - 6)) ∧ (if T 4 = 0 then 0 else T (8 + 7 * T 4 - 7) + T (8 + 7 * T 4 - 6)) ≤ 2000 := by
    split
    · omega
    · have := gX (T 4 - 1) (by omega) (by omega)
      unfold mX at this
      rw [show 8 + 7 * T 4 - 7 = 8 + 7 * (T 4 - 1) by omega, show 8 + 7 * T 4 - 6 = 8 + 7 * (T 4 - 1) + 1 by omega]
      omega
  refine m42 hP ⟨t, h5, ht, by rw [e4]; constructor <;> omega, fun _ => ⟨5, hd, k32 hP (by omega) hT he h0 fun G2 hG2 kG2 tG2 => ?_⟩, fun c => absurd (by omega) c⟩
  have g5 : G2 18 5 = (t : Int) := (kG2 18 5 (by omega)).trans h5
  have w2 : cTw G2 t T := kG2.w.tw hat hm hw
  have d4 : G2 t 4 = T 4 := w2.1.2.2.2.2.1
  have d0 : G2 t 0 = T 0 := w2.1.1
  have T2 := kG2.tp hT
  have r2 : cRd U n G2 (.ok e) := tG2.rd (cRd_ok hs).1 (cRd_ok hs).2.1 kG2
  have fin : ∀ (y1 : Int) (x1 : RR Int) (G1 : XF), x1 = rP (.ok e) (rNum U n (if T 4 = 0 then 0 else T (8 + 7 * T 4 - 7) + T (8 + 7 * T 4 - 6)) (T 0 - 1)) → y1 = rY (if T 4 = 0 then 0 else T (8 + 7 * T 4 - 7) + T (8 + 7 * T 4 - 6)) (.ok e) (rNum U n (if T 4 = 0 then 0 else T (8 + 7 * T 4 - 7) + T (8 + 7 * T 4 - 6)) (T 0 - 1)) → cKw G2 G1 → ∀ (K : XF) (y2 y3 y4 y5 y6 y7 : Int) (x2 x3 x4 x5 x6 x7 : RR Int), xPT K → (∀ p i, ¬ p = cX t (T 4) → ¬ (p = t ∧ i = 4) → ¬ (p = 18 ∧ (i = 1 ∨ i = 2 ∨ (8 ≤ i ∧ i ≤ 11))) → K p i = G1 p i) → x2 = rP (rB x1 (rWrd U n 5)) (rNum U n 1 (if T 0 - y1 < 50 then T 0 - y1 else 50)) → y2 = rY 1 (rB x1 (rWrd U n 5)) (rNum U n 1 (if T 0 - y1 < 50 then T 0 - y1 else 50)) → x3 = rP (rB x2 (rWrd U n 6)) (rNum U n 1 200) → y3 = rY 1 (rB x2 (rWrd U n 6)) (rNum U n 1 200) → x4 = rP (rB x3 (rWrd U n 7)) (rNum U n 0 (y3 - 1)) → y4 = rY 0 (rB x3 (rWrd U n 7)) (rNum U n 0 (y3 - 1)) → x5 = rP (rB x4 (rWrd U n 8)) (rNum U n (y4 + 1) y3) → y5 = rY (y4 + 1) (rB x4 (rWrd U n 8)) (rNum U n (y4 + 1) y3) → x6 = rP (rB x5 (rWrd U n 9)) (rNum U n 0 99) → y6 = rY 0 (rB x5 (rWrd U n 9)) (rNum U n 0 99) → x7 = rP (rB x6 (rWrd U n 10)) (rNum U n 1 20) → y7 = rY 1 (rB x6 (rWrd U n 10)) (rNum U n 1 20) → cRd U n K x7 → K t 4 = G1 t 4 + 1 → (K (cX t (T 4)) 0 = y1 ∧ K (cX t (T 4)) 1 = y1 + y2 ∧ K (cX t (T 4)) 2 = y3 ∧ K (cX t (T 4)) 3 = y4 ∧ K (cX t (T 4)) 4 = y5 ∧ K (cX t (T 4)) 5 = y6 ∧ K (cX t (T 4)) 6 = y7) → Q K := by
    intro y1 x1 G1 ex1 ey1 k1 K y2 y3 y4 y5 y6 y7 x2 x3 x4 x5 x6 x7 hK kK ex2 ey2 ex3 ey3 ex4 ey4 ex5 ey5 ex6 ey6 ex7 ey7 s7 c4 cv
    have c := rCross_x (k := rE (cBl U) n p) h10 ex1 ey1 ex2 ey2 ex3 ey3 ex4 ey4 ex5 ey5 ex6 ey6 ex7 ey7
    have cx : cX t (T 4) = t + 1 + 6 + (T 4).toNat := rfl
    refine q K hK ⟨fun a i z1 z2 => ?_, by rw [← c.1]; exact s7, fun a ha => ?_⟩
    · rw [kK a i (by omega) (by omega) z2, k1 a i z2, kG2 a i (by omega)]
    · rw [c.2 a ha]
      exact w2.cross hm (by omega) (fun a i z1 z2 z3 => by rw [kK a i z2 z3 (by omega), k1 a i (by omega)]) (by rw [c4, k1 t 4 (by omega), d4]) cv
  have hxc : xob 1 (cX t (T 4)) := cX_ob ht g4.1 (by omega)
  have cx : cX t (T 4) = t + 1 + 6 + (T 4).toNat := rfl
  refine ⟨t, g5, ht, t, g5, ht, ?_⟩
  rw [d4]
  refine ⟨⟨by omega, by omega⟩, t, g5, ht, ?_⟩
  rw [d4]
  refine ⟨⟨by omega, by omega⟩, fun c => ?_, fun c => ?_⟩
  · refine ⟨t, g5, ht, t, g5, ht, ?_⟩
    rw [d4]
    refine ⟨⟨by omega, by omega⟩, t, g5, ht, ?_⟩
    have el : G2 (t + 1 + 6 + (T 4 - 1).toNat) 1 = (if T 4 = 0 then 0 else T (8 + 7 * T 4 - 7) + T (8 + 7 * T 4 - 6)) := by
      have := (w2.2.1 (T 4 - 1) (by omega) (by omega)).2.1
      rw [if_neg c, show 8 + 7 * T 4 - 7 = 8 + 7 * (T 4 - 1) by omega, show 8 + 7 * T 4 - 6 = 8 + 7 * (T 4 - 1) + 1 by omega]
      exact this
    rw [el, d0]
    refine ⟨5, hd, k37 hG2 (by omega) T2 ⟨by omega, by omega⟩ ⟨by omega, by omega⟩ r2 fun G1 hG1 k1 s1 => ?_⟩
    exact c42 (L := T 0) G1 hG1 hd (k1.tp T2) ht hat hxc (by omega) ((k1 18 5 (by omega)).trans g5) s1 (rY_r (cRd_x r2) (by omega) (by omega)) ((k1 t 0 (by omega)).trans d0) (by omega) (fin _ _ G1 rfl rfl k1)
  · refine ⟨t, g5, ht, ?_⟩
    have c0 : T 4 = 0 := Classical.not_not.mp c
    have el : (0 : Int) = (if T 4 = 0 then 0 else T (8 + 7 * T 4 - 7) + T (8 + 7 * T 4 - 6)) := by rw [if_pos c0]
    rw [d0]
    refine ⟨5, hd, k37 hG2 (by omega) T2 ⟨by omega, by omega⟩ ⟨by omega, by omega⟩ r2 fun G1 hG1 k1 s1 => ?_⟩
    exact c42 (L := T 0) G1 hG1 hd (k1.tp T2) ht hat hxc (by omega) ((k1 18 5 (by omega)).trans g5) s1 (rY_r (cRd_x r2) (by omega) (by omega)) ((k1 t 0 (by omega)).trans d0) (by omega) (fin _ _ G1 (by rw [← el]) (by rw [← el]) k1)

end CL33
