section RD4
variable {X : List Int32} {d : Nat} {F : XF}
/-- what the reading of a line changes -/
def mKl (F G : XF) : Prop := ∀ p i, ¬ p = 133 → ¬ (p = 131 ∧ (i = 6 ∨ i = 7 ∨ i = 8 ∨ i = 10)) → G p i = F p i
theorem mKl.trans {F G H : XF} (a : mKl F G) (b : mKl G H) : mKl F H := fun p i h1 h2 => (b p i h1 h2).trans (a p i h1 h2)
theorem mKl.refl {F : XF} : mKl F F := fun _ _ _ _ => rfl
theorem mKw.l {F G : XF} (a : mKw F G) : mKl F G := fun p i _ h => a p i h
theorem mKl.up {F G : XF} {i v : Int} (a : mKl F G) : mKl F (xup G 133 i v) := a.trans fun p j h _ => xup_o h
theorem mKl.tp {U : Int → Int} {n : Int} {F G : XF} (a : mKl F G) (h : rTp U n F) : rTp U n G := h.of fun p i hp => a p i (by omega) (by omega)
theorem mKw.r {F G : XF} {T : Int → Int} (a : mKw F G) (e : F 133 = T) : G 133 = T := (funext fun i => a 133 i (by omega)).trans e
theorem rSt.up {n : Int} {G : XF} {x : RR Int} {i v : Int} (h : rSt n G x) : rSt n (xup G 133 i v) x := h.of fun j _ => xup_o (by decide)
theorem rTp.up {U : Int → Int} {n : Int} {G : XF} {i v : Int} (h : rTp U n G) : rTp U n (xup G 133 i v) := h.of fun p j hp => xup_n (by omega)
theorem xPT_133 {G : XF} {i v : Int} (h : xPT G) : xPT (xup G 133 i v) := xPT_arr h (by decide)
theorem rY_r {U : Int → Int} {n lo hi B : Int} {x : RR Int} (hx : ∀ p, x = .ok p → p ≤ n) (h : 0 ≤ lo ∧ lo ≤ B) (hB : 9999 ≤ B) : 0 ≤ rY lo x (rNum U n lo hi) ∧ rY lo x (rNum U n lo hi) ≤ B := by
  rcases rY_b (U := U) (lo := lo) (hi := hi) hx with h | h <;> omega
theorem rWx {U : Int → Int} {n : Int} {s : Nat} {x : RR Int} (hx : ∀ p, x = .ok p → p ≤ n) : ∀ p, rB x (rWrd U n s) = .ok p → p ≤ n := fun p hp => by
  cases x with
  | error z => cases hp
  | ok q => exact (rWrd_p (hx q rfl) hp).2

theorem c145 {U T : Int → Int} {n b y1 : Int} {x1 : RR Int} {Q : XF → Prop} (G1 : XF) (hd : 7 < d) (hT : rTp U n G1) (h4 : 0 ≤ T 4 ∧ T 4 < 10) (e1 : G1 133 = T) (hP : xPT G1) (s1 : rSt n G1 x1) (hb : inR b) (q : ∀ K (y2 y3 y4 y5 y6 y7 : Int) (x2 x3 x4 x5 x6 x7 : RR Int), xPT K → mKl G1 K → x2 = rP (rB x1 (rWrd U n 5)) (rNum U n 1 b) → y2 = rY 1 (rB x1 (rWrd U n 5)) (rNum U n 1 b) → x3 = rP (rB x2 (rWrd U n 6)) (rNum U n 1 200) → y3 = rY 1 (rB x2 (rWrd U n 6)) (rNum U n 1 200) → x4 = rP (rB x3 (rWrd U n 7)) (rNum U n 0 (y3 - 1)) → y4 = rY 0 (rB x3 (rWrd U n 7)) (rNum U n 0 (y3 - 1)) → x5 = rP (rB x4 (rWrd U n 8)) (rNum U n (y4 + 1) y3) → y5 = rY (y4 + 1) (rB x4 (rWrd U n 8)) (rNum U n (y4 + 1) y3) → x6 = rP (rB x5 (rWrd U n 9)) (rNum U n 0 99) → y6 = rY 0 (rB x5 (rWrd U n 9)) (rNum U n 0 99) → x7 = rP (rB x6 (rWrd U n 10)) (rNum U n 1 20) → y7 = rY 1 (rB x6 (rWrd U n 10)) (rNum U n 1 20) → rSt n K x7 → K 133 = mSet (mSet (mSet (mSet (mSet (mSet (mSet (mSet (T) (8 + 7 * T 4) y1) (8 + 7 * T 4 + 1) y2) (8 + 7 * T 4 + 2) y3) (8 + 7 * T 4 + 3) y4) (8 + 7 * T 4 + 4) y5) (8 + 7 * T 4 + 5) y6) (8 + 7 * T 4 + 6) y7) 4 (T 4 + 1) → Q K) : ∃ (j2 : Nat), j2 < d ∧ xMI X j2 144 [.ref (131), vi (9), vi (1), vi b] (xup (G1) (133) ((8) + ((7) * (T 4))) (y1)) (fun (y2 : Int) (G2 : XF) => ((0 ≤ (((8) + ((7) * (T 4))) + (1)) ∧ (((8) + ((7) * (T 4))) + (1)) < 163) ∧ (∃ (j3 : Nat), j3 < d ∧ xMI X j3 144 [.ref (131), vi (10), vi (1), vi (200)] (xup (G2) (133) (((8) + ((7) * (T 4))) + (1)) (y2)) (fun (y3 : Int) (G3 : XF) => ((0 ≤ (((8) + ((7) * (T 4))) + (2)) ∧ (((8) + ((7) * (T 4))) + (2)) < 163) ∧ ((0 ≤ (((8) + ((7) * (T 4))) + (2)) ∧ (((8) + ((7) * (T 4))) + (2)) < 163) ∧ (∃ (j4 : Nat), j4 < d ∧ xMI X j4 144 [.ref (131), vi (11), vi (0), vi ((y3) - (1))] (xup (G3) (133) (((8) + ((7) * (T 4))) + (2)) (y3)) (fun (y4 : Int) (G4 : XF) => ((0 ≤ (((8) + ((7) * (T 4))) + (3)) ∧ (((8) + ((7) * (T 4))) + (3)) < 163) ∧ ((0 ≤ (((8) + ((7) * (T 4))) + (3)) ∧ (((8) + ((7) * (T 4))) + (3)) < 163) ∧ ((0 ≤ (((8) + ((7) * (T 4))) + (2)) ∧ (((8) + ((7) * (T 4))) + (2)) < 163) ∧ (∃ (j5 : Nat), j5 < d ∧ xMI X j5 144 [.ref (131), vi (12), vi ((y4) + (1)), vi ((G4) (133) (((8) + ((7) * (T 4))) + (2)))] (xup (G4) (133) (((8) + ((7) * (T 4))) + (3)) (y4)) (fun (y5 : Int) (G5 : XF) => ((0 ≤ (((8) + ((7) * (T 4))) + (4)) ∧ (((8) + ((7) * (T 4))) + (4)) < 163) ∧ (∃ (j6 : Nat), j6 < d ∧ xMI X j6 144 [.ref (131), vi (13), vi (0), vi (99)] (xup (G5) (133) (((8) + ((7) * (T 4))) + (4)) (y5)) (fun (y6 : Int) (G6 : XF) => ((0 ≤ (((8) + ((7) * (T 4))) + (5)) ∧ (((8) + ((7) * (T 4))) + (5)) < 163) ∧ (∃ (j7 : Nat), j7 < d ∧ xMI X j7 144 [.ref (131), vi (14), vi (1), vi (20)] (xup (G6) (133) (((8) + ((7) * (T 4))) + (5)) (y6)) (fun (y7 : Int) (G7 : XF) => ((0 ≤ (((8) + ((7) * (T 4))) + (6)) ∧ (((8) + ((7) * (T 4))) + (6)) < 163) ∧ (xPT (xup (xup (G7) (133) (((8) + ((7) * (T 4))) + (6)) (y7)) (133) 4 (((xup (G7) (133) (((8) + ((7) * (T 4))) + (6)) (y7)) (133) 4) + (1))) → Q (xup (xup (G7) (133) (((8) + ((7) * (T 4))) + (6)) (y7)) (133) 4 (((xup (G7) (133) (((8) + ((7) * (T 4))) + (6)) (y7)) (133) 4) + (1)))))))))))))))))))))))) := by
  have r1 : (xup G1 133 (8 + 7 * T 4) y1) 133 = mSet T (8 + 7 * T 4) y1 := xup_ms e1
  have k1 : mKl G1 (xup G1 133 (8 + 7 * T 4) y1) := mKl.refl.up
  have t1 : rTp U n (xup G1 133 (8 + 7 * T 4) y1) := hT.up
  have z1 : rSt n (xup G1 133 (8 + 7 * T 4) y1) x1 := s1.up
  have p1 : xPT (xup G1 133 (8 + 7 * T 4) y1) := xPT_133 hP
  refine ⟨7, hd, p144 (j := 9) p1 (by omega) t1 (by decide) ?_ ?_ z1 fun G2 hG2 w2 v2 => ?_⟩
  · exact ⟨by omega, by omega⟩
  · exact hb
  have hb2 : 0 ≤ rY 1 (rB x1 (rWrd U n 5)) (rNum U n 1 b) ∧ rY 1 (rB x1 (rWrd U n 5)) (rNum U n 1 b) ≤ 10000 := rY_r (rWx (rSt_x s1)) (by omega) (by omega)
  change rSt n G2 (rP (rB x1 (rWrd U n 5)) (rNum U n 1 b)) at v2
  obtain ⟨y2, ey2⟩ : ∃ y, y = rY 1 (rB x1 (rWrd U n 5)) (rNum U n 1 b) := ⟨_, rfl⟩
  obtain ⟨x2, ex2⟩ : ∃ x, x = rP (rB x1 (rWrd U n 5)) (rNum U n 1 b) := ⟨_, rfl⟩
  have s2 : rSt n G2 x2 := by rw [ex2]; exact v2
  rw [← ey2] at hb2
  change _ ∧ _
  rw [show rY 1 (rB x1 (rWrd U n (rKy.getD 9 0))) (rNum U n 1 b) = y2 from ey2.symm]
  have r2 : (xup G2 133 (8 + 7 * T 4 + 1) y2) 133 = mSet (mSet T (8 + 7 * T 4) y1) (8 + 7 * T 4 + 1) y2 := xup_ms (w2.r r1)
  have k2 : mKl G1 (xup G2 133 (8 + 7 * T 4 + 1) y2) := (k1.trans w2.l).up
  have t2 : rTp U n (xup G2 133 (8 + 7 * T 4 + 1) y2) := (w2.tp t1).up
  have z2 : rSt n (xup G2 133 (8 + 7 * T 4 + 1) y2) x2 := s2.up
  have p2 : xPT (xup G2 133 (8 + 7 * T 4 + 1) y2) := xPT_133 hG2
  refine ⟨⟨by omega, by omega⟩, ?_⟩
  refine ⟨7, hd, p144 (j := 10) p2 (by omega) t2 (by decide) ?_ ?_ z2 fun G3 hG3 w3 v3 => ?_⟩
  · exact ⟨by omega, by omega⟩
  · exact ⟨by omega, by omega⟩
  have hb3 : 0 ≤ rY 1 (rB x2 (rWrd U n 6)) (rNum U n 1 200) ∧ rY 1 (rB x2 (rWrd U n 6)) (rNum U n 1 200) ≤ 10000 := rY_r (rWx (rSt_x s2)) (by omega) (by omega)
  change rSt n G3 (rP (rB x2 (rWrd U n 6)) (rNum U n 1 200)) at v3
  obtain ⟨y3, ey3⟩ : ∃ y, y = rY 1 (rB x2 (rWrd U n 6)) (rNum U n 1 200) := ⟨_, rfl⟩
  obtain ⟨x3, ex3⟩ : ∃ x, x = rP (rB x2 (rWrd U n 6)) (rNum U n 1 200) := ⟨_, rfl⟩
  have s3 : rSt n G3 x3 := by rw [ex3]; exact v3
  rw [← ey3] at hb3
  change _ ∧ _
  rw [show rY 1 (rB x2 (rWrd U n (rKy.getD 10 0))) (rNum U n 1 200) = y3 from ey3.symm]
  have r3 : (xup G3 133 (8 + 7 * T 4 + 2) y3) 133 = mSet (mSet (mSet T (8 + 7 * T 4) y1) (8 + 7 * T 4 + 1) y2) (8 + 7 * T 4 + 2) y3 := xup_ms (w3.r r2)
  have k3 : mKl G1 (xup G3 133 (8 + 7 * T 4 + 2) y3) := (k2.trans w3.l).up
  have t3 : rTp U n (xup G3 133 (8 + 7 * T 4 + 2) y3) := (w3.tp t2).up
  have z3 : rSt n (xup G3 133 (8 + 7 * T 4 + 2) y3) x3 := s3.up
  have p3 : xPT (xup G3 133 (8 + 7 * T 4 + 2) y3) := xPT_133 hG3
  refine ⟨⟨by omega, by omega⟩, ⟨by omega, by omega⟩, ?_⟩
  refine ⟨7, hd, p144 (j := 11) p3 (by omega) t3 (by decide) ?_ ?_ z3 fun G4 hG4 w4 v4 => ?_⟩
  · exact ⟨by omega, by omega⟩
  · exact ⟨by omega, by omega⟩
  have hb4 : 0 ≤ rY 0 (rB x3 (rWrd U n 7)) (rNum U n 0 (y3 - 1)) ∧ rY 0 (rB x3 (rWrd U n 7)) (rNum U n 0 (y3 - 1)) ≤ 10000 := rY_r (rWx (rSt_x s3)) (by omega) (by omega)
  change rSt n G4 (rP (rB x3 (rWrd U n 7)) (rNum U n 0 (y3 - 1))) at v4
  obtain ⟨y4, ey4⟩ : ∃ y, y = rY 0 (rB x3 (rWrd U n 7)) (rNum U n 0 (y3 - 1)) := ⟨_, rfl⟩
  obtain ⟨x4, ex4⟩ : ∃ x, x = rP (rB x3 (rWrd U n 7)) (rNum U n 0 (y3 - 1)) := ⟨_, rfl⟩
  have s4 : rSt n G4 x4 := by rw [ex4]; exact v4
  rw [← ey4] at hb4
  change _ ∧ _
  rw [show rY 0 (rB x3 (rWrd U n (rKy.getD 11 0))) (rNum U n 0 (y3 - 1)) = y4 from ey4.symm]
  have r4 : (xup G4 133 (8 + 7 * T 4 + 3) y4) 133 = mSet (mSet (mSet (mSet T (8 + 7 * T 4) y1) (8 + 7 * T 4 + 1) y2) (8 + 7 * T 4 + 2) y3) (8 + 7 * T 4 + 3) y4 := xup_ms (w4.r r3)
  have k4 : mKl G1 (xup G4 133 (8 + 7 * T 4 + 3) y4) := (k3.trans w4.l).up
  have t4 : rTp U n (xup G4 133 (8 + 7 * T 4 + 3) y4) := (w4.tp t3).up
  have z4 : rSt n (xup G4 133 (8 + 7 * T 4 + 3) y4) x4 := s4.up
  have p4 : xPT (xup G4 133 (8 + 7 * T 4 + 3) y4) := xPT_133 hG4
  refine ⟨⟨by omega, by omega⟩, ⟨by omega, by omega⟩, ⟨by omega, by omega⟩, ?_⟩
  refine ⟨7, hd, p144 (j := 12) p4 (by omega) t4 (by decide) ?_ ?_ z4 fun G5 hG5 w5 v5 => ?_⟩
  · exact ⟨by omega, by omega⟩
  · rw [w4.r r3, mSet_s]; exact ⟨by omega, by omega⟩
  rw [w4.r r3, mSet_s] at v5 ⊢
  have hb5 : 0 ≤ rY (y4 + 1) (rB x4 (rWrd U n 8)) (rNum U n (y4 + 1) y3) ∧ rY (y4 + 1) (rB x4 (rWrd U n 8)) (rNum U n (y4 + 1) y3) ≤ 10001 := rY_r (rWx (rSt_x s4)) (by omega) (by omega)
  change rSt n G5 (rP (rB x4 (rWrd U n 8)) (rNum U n (y4 + 1) y3)) at v5
  obtain ⟨y5, ey5⟩ : ∃ y, y = rY (y4 + 1) (rB x4 (rWrd U n 8)) (rNum U n (y4 + 1) y3) := ⟨_, rfl⟩
  obtain ⟨x5, ex5⟩ : ∃ x, x = rP (rB x4 (rWrd U n 8)) (rNum U n (y4 + 1) y3) := ⟨_, rfl⟩
  have s5 : rSt n G5 x5 := by rw [ex5]; exact v5
  rw [← ey5] at hb5
  change _ ∧ _
  rw [show rY (y4 + 1) (rB x4 (rWrd U n (rKy.getD 12 0))) (rNum U n (y4 + 1) y3) = y5 from ey5.symm]
  have r5 : (xup G5 133 (8 + 7 * T 4 + 4) y5) 133 = mSet (mSet (mSet (mSet (mSet T (8 + 7 * T 4) y1) (8 + 7 * T 4 + 1) y2) (8 + 7 * T 4 + 2) y3) (8 + 7 * T 4 + 3) y4) (8 + 7 * T 4 + 4) y5 := xup_ms (w5.r r4)
  have k5 : mKl G1 (xup G5 133 (8 + 7 * T 4 + 4) y5) := (k4.trans w5.l).up
  have t5 : rTp U n (xup G5 133 (8 + 7 * T 4 + 4) y5) := (w5.tp t4).up
  have z5 : rSt n (xup G5 133 (8 + 7 * T 4 + 4) y5) x5 := s5.up
  have p5 : xPT (xup G5 133 (8 + 7 * T 4 + 4) y5) := xPT_133 hG5
  refine ⟨⟨by omega, by omega⟩, ?_⟩
  refine ⟨7, hd, p144 (j := 13) p5 (by omega) t5 (by decide) ?_ ?_ z5 fun G6 hG6 w6 v6 => ?_⟩
  · exact ⟨by omega, by omega⟩
  · exact ⟨by omega, by omega⟩
  have hb6 : 0 ≤ rY 0 (rB x5 (rWrd U n 9)) (rNum U n 0 99) ∧ rY 0 (rB x5 (rWrd U n 9)) (rNum U n 0 99) ≤ 10000 := rY_r (rWx (rSt_x s5)) (by omega) (by omega)
  change rSt n G6 (rP (rB x5 (rWrd U n 9)) (rNum U n 0 99)) at v6
  obtain ⟨y6, ey6⟩ : ∃ y, y = rY 0 (rB x5 (rWrd U n 9)) (rNum U n 0 99) := ⟨_, rfl⟩
  obtain ⟨x6, ex6⟩ : ∃ x, x = rP (rB x5 (rWrd U n 9)) (rNum U n 0 99) := ⟨_, rfl⟩
  have s6 : rSt n G6 x6 := by rw [ex6]; exact v6
  rw [← ey6] at hb6
  change _ ∧ _
  rw [show rY 0 (rB x5 (rWrd U n (rKy.getD 13 0))) (rNum U n 0 99) = y6 from ey6.symm]
  have r6 : (xup G6 133 (8 + 7 * T 4 + 5) y6) 133 = mSet (mSet (mSet (mSet (mSet (mSet T (8 + 7 * T 4) y1) (8 + 7 * T 4 + 1) y2) (8 + 7 * T 4 + 2) y3) (8 + 7 * T 4 + 3) y4) (8 + 7 * T 4 + 4) y5) (8 + 7 * T 4 + 5) y6 := xup_ms (w6.r r5)
  have k6 : mKl G1 (xup G6 133 (8 + 7 * T 4 + 5) y6) := (k5.trans w6.l).up
  have t6 : rTp U n (xup G6 133 (8 + 7 * T 4 + 5) y6) := (w6.tp t5).up
  have z6 : rSt n (xup G6 133 (8 + 7 * T 4 + 5) y6) x6 := s6.up
  have p6 : xPT (xup G6 133 (8 + 7 * T 4 + 5) y6) := xPT_133 hG6
  refine ⟨⟨by omega, by omega⟩, ?_⟩
  refine ⟨7, hd, p144 (j := 14) p6 (by omega) t6 (by decide) ?_ ?_ z6 fun G7 hG7 w7 v7 => ?_⟩
  · exact ⟨by omega, by omega⟩
  · exact ⟨by omega, by omega⟩
  have hb7 : 0 ≤ rY 1 (rB x6 (rWrd U n 10)) (rNum U n 1 20) ∧ rY 1 (rB x6 (rWrd U n 10)) (rNum U n 1 20) ≤ 10000 := rY_r (rWx (rSt_x s6)) (by omega) (by omega)
  change rSt n G7 (rP (rB x6 (rWrd U n 10)) (rNum U n 1 20)) at v7
  obtain ⟨y7, ey7⟩ : ∃ y, y = rY 1 (rB x6 (rWrd U n 10)) (rNum U n 1 20) := ⟨_, rfl⟩
  obtain ⟨x7, ex7⟩ : ∃ x, x = rP (rB x6 (rWrd U n 10)) (rNum U n 1 20) := ⟨_, rfl⟩
  have s7 : rSt n G7 x7 := by rw [ex7]; exact v7
  rw [← ey7] at hb7
  change _ ∧ _
  rw [show rY 1 (rB x6 (rWrd U n (rKy.getD 14 0))) (rNum U n 1 20) = y7 from ey7.symm]
  have r7 : (xup G7 133 (8 + 7 * T 4 + 6) y7) 133 = mSet (mSet (mSet (mSet (mSet (mSet (mSet T (8 + 7 * T 4) y1) (8 + 7 * T 4 + 1) y2) (8 + 7 * T 4 + 2) y3) (8 + 7 * T 4 + 3) y4) (8 + 7 * T 4 + 4) y5) (8 + 7 * T 4 + 5) y6) (8 + 7 * T 4 + 6) y7 := xup_ms (w7.r r6)
  have k7 : mKl G1 (xup G7 133 (8 + 7 * T 4 + 6) y7) := (k6.trans w7.l).up
  have t7 : rTp U n (xup G7 133 (8 + 7 * T 4 + 6) y7) := (w7.tp t6).up
  have z7 : rSt n (xup G7 133 (8 + 7 * T 4 + 6) y7) x7 := s7.up
  have p7 : xPT (xup G7 133 (8 + 7 * T 4 + 6) y7) := xPT_133 hG7
  refine ⟨⟨by omega, by omega⟩, ?_⟩
  intro hK
  refine q _ y2 y3 y4 y5 y6 y7 x2 x3 x4 x5 x6 x7 hK k7.up ex2 ey2 ex3 ey3 ex4 ey4 ex5 ey5 ex6 ey6 ex7 ey7 z7.up ?_
  rw [xup_ms r7, r7]
  congr 1
  rw [mSet_n (by omega), mSet_n (by omega), mSet_n (by omega), mSet_n (by omega), mSet_n (by omega), mSet_n (by omega), mSet_n (by omega)]
end RD4
