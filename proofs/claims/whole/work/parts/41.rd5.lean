section RD5
variable {X : List Int32} {d : Nat} {F : XF}
theorem rB_ok {α β : Type} {a : α} {f : α → RR β} : rB (.ok a) f = f a := rfl
theorem rB_er {α β : Type} {z : Int × Int} {f : α → RR β} : rB (.error z) f = .error z := rfl
theorem rP_er {z : Int × Int} {s : Nat} {U : Int → Int} {n : Int} {g : Int → RR (Int × Int)} : rP (rB (.error z) (rWrd U n s)) g = .error z := rfl
theorem rCross_x {U T : Int → Int} {n k p : Int} {y1 y2 y3 y4 y5 y6 y7 : Int} {x1 x2 x3 x4 x5 x6 x7 : RR Int} (h10 : ¬ T 4 = 10) (ex1 : x1 = rP (.ok p) (rNum U n (if T 4 = 0 then 0 else T (8 + 7 * T 4 - 7) + T (8 + 7 * T 4 - 6)) (T 0 - 1))) (ey1 : y1 = rY (if T 4 = 0 then 0 else T (8 + 7 * T 4 - 7) + T (8 + 7 * T 4 - 6)) (.ok p) (rNum U n (if T 4 = 0 then 0 else T (8 + 7 * T 4 - 7) + T (8 + 7 * T 4 - 6)) (T 0 - 1))) (ex2 : x2 = rP (rB x1 (rWrd U n 5)) (rNum U n 1 (if T 0 - y1 < 50 then T 0 - y1 else 50))) (ey2 : y2 = rY 1 (rB x1 (rWrd U n 5)) (rNum U n 1 (if T 0 - y1 < 50 then T 0 - y1 else 50))) (ex3 : x3 = rP (rB x2 (rWrd U n 6)) (rNum U n 1 200)) (ey3 : y3 = rY 1 (rB x2 (rWrd U n 6)) (rNum U n 1 200)) (ex4 : x4 = rP (rB x3 (rWrd U n 7)) (rNum U n 0 (y3 - 1))) (ey4 : y4 = rY 0 (rB x3 (rWrd U n 7)) (rNum U n 0 (y3 - 1))) (ex5 : x5 = rP (rB x4 (rWrd U n 8)) (rNum U n (y4 + 1) y3)) (ey5 : y5 = rY (y4 + 1) (rB x4 (rWrd U n 8)) (rNum U n (y4 + 1) y3)) (ex6 : x6 = rP (rB x5 (rWrd U n 9)) (rNum U n 0 99)) (ey6 : y6 = rY 0 (rB x5 (rWrd U n 9)) (rNum U n 0 99)) (ex7 : x7 = rP (rB x6 (rWrd U n 10)) (rNum U n 1 20)) (ey7 : y7 = rY 1 (rB x6 (rWrd U n 10)) (rNum U n 1 20)) : x7 = rB (rCross U n T k p) (fun a => .ok a.2) ∧ ∀ a, rCross U n T k p = .ok a → a.1 = mSet (mSet (mSet (mSet (mSet (mSet (mSet (mSet (T) (8 + 7 * T 4) y1) (8 + 7 * T 4 + 1) y2) (8 + 7 * T 4 + 2) y3) (8 + 7 * T 4 + 3) y4) (8 + 7 * T 4 + 4) y5) (8 + 7 * T 4 + 5) y6) (8 + 7 * T 4 + 6) y7) 4 (T 4 + 1) := by
  unfold rCross
  rw [if_neg h10]
  cases h1 : rNum U n (if T 4 = 0 then 0 else T (8 + 7 * T 4 - 7) + T (8 + 7 * T 4 - 6)) (T 0 - 1) p with
  | error z =>
    simp only [rB_er]
    have g1 : x1 = .error z := by rw [ex1]; simp only [rP, rB_ok, h1, rB_er]
    have g2 : x2 = .error z := by rw [ex2, g1]; rfl
    have g3 : x3 = .error z := by rw [ex3, g2]; rfl
    have g4 : x4 = .error z := by rw [ex4, g3]; rfl
    have g5 : x5 = .error z := by rw [ex5, g4]; rfl
    have g6 : x6 = .error z := by rw [ex6, g5]; rfl
    have g7 : x7 = .error z := by rw [ex7, g6]; rfl
    exact ⟨g7, fun a h => by cases h⟩
  | ok a0 =>
    have hx1 : x1 = .ok a0.2 := by rw [ex1]; simp only [rP, rB_ok, h1]
    have hy1 : y1 = a0.1 := by rw [ey1]; simp only [rY, h1]
    simp only [rB_ok]
    cases w2 : rWrd U n 5 a0.2 with
    | error z =>
      simp only [rB_er]
      have g2 : x2 = .error z := by rw [ex2, hx1]; simp only [rP, rB_ok, w2, rB_er]
      have g3 : x3 = .error z := by rw [ex3, g2]; rfl
      have g4 : x4 = .error z := by rw [ex4, g3]; rfl
      have g5 : x5 = .error z := by rw [ex5, g4]; rfl
      have g6 : x6 = .error z := by rw [ex6, g5]; rfl
      have g7 : x7 = .error z := by rw [ex7, g6]; rfl
      exact ⟨g7, fun a h => by cases h⟩
    | ok p2 =>
      simp only [rB_ok]
      cases h2 : rNum U n 1 (if T 0 - a0.1 < 50 then T 0 - a0.1 else 50) p2 with
      | error z =>
        simp only [rB_er]
        have g2 : x2 = .error z := by rw [ex2, hx1, hy1]; simp only [rP, rB_ok, w2, h2, rB_er]
        have g3 : x3 = .error z := by rw [ex3, g2]; rfl
        have g4 : x4 = .error z := by rw [ex4, g3]; rfl
        have g5 : x5 = .error z := by rw [ex5, g4]; rfl
        have g6 : x6 = .error z := by rw [ex6, g5]; rfl
        have g7 : x7 = .error z := by rw [ex7, g6]; rfl
        exact ⟨g7, fun a h => by cases h⟩
      | ok a1 =>
        have hx2 : x2 = .ok a1.2 := by rw [ex2, hx1, hy1]; simp only [rP, rB_ok, w2, h2]
        have hy2 : y2 = a1.1 := by rw [ey2, hx1, hy1]; simp only [rY, rB_ok, w2, h2]
        simp only [rB_ok]
        cases w3 : rWrd U n 6 a1.2 with
        | error z =>
          simp only [rB_er]
          have g3 : x3 = .error z := by rw [ex3, hx2]; simp only [rP, rB_ok, w3, rB_er]
          have g4 : x4 = .error z := by rw [ex4, g3]; rfl
          have g5 : x5 = .error z := by rw [ex5, g4]; rfl
          have g6 : x6 = .error z := by rw [ex6, g5]; rfl
          have g7 : x7 = .error z := by rw [ex7, g6]; rfl
          exact ⟨g7, fun a h => by cases h⟩
        | ok p3 =>
          simp only [rB_ok]
          cases h3 : rNum U n 1 200 p3 with
          | error z =>
            simp only [rB_er]
            have g3 : x3 = .error z := by rw [ex3, hx2]; simp only [rP, rB_ok, w3, h3, rB_er]
            have g4 : x4 = .error z := by rw [ex4, g3]; rfl
            have g5 : x5 = .error z := by rw [ex5, g4]; rfl
            have g6 : x6 = .error z := by rw [ex6, g5]; rfl
            have g7 : x7 = .error z := by rw [ex7, g6]; rfl
            exact ⟨g7, fun a h => by cases h⟩
          | ok a2 =>
            have hx3 : x3 = .ok a2.2 := by rw [ex3, hx2]; simp only [rP, rB_ok, w3, h3]
            have hy3 : y3 = a2.1 := by rw [ey3, hx2]; simp only [rY, rB_ok, w3, h3]
            simp only [rB_ok]
            cases w4 : rWrd U n 7 a2.2 with
            | error z =>
              simp only [rB_er]
              have g4 : x4 = .error z := by rw [ex4, hx3]; simp only [rP, rB_ok, w4, rB_er]
              have g5 : x5 = .error z := by rw [ex5, g4]; rfl
              have g6 : x6 = .error z := by rw [ex6, g5]; rfl
              have g7 : x7 = .error z := by rw [ex7, g6]; rfl
              exact ⟨g7, fun a h => by cases h⟩
            | ok p4 =>
              simp only [rB_ok]
              cases h4 : rNum U n 0 (a2.1 - 1) p4 with
              | error z =>
                simp only [rB_er]
                have g4 : x4 = .error z := by rw [ex4, hx3, hy3]; simp only [rP, rB_ok, w4, h4, rB_er]
                have g5 : x5 = .error z := by rw [ex5, g4]; rfl
                have g6 : x6 = .error z := by rw [ex6, g5]; rfl
                have g7 : x7 = .error z := by rw [ex7, g6]; rfl
                exact ⟨g7, fun a h => by cases h⟩
              | ok a3 =>
                have hx4 : x4 = .ok a3.2 := by rw [ex4, hx3, hy3]; simp only [rP, rB_ok, w4, h4]
                have hy4 : y4 = a3.1 := by rw [ey4, hx3, hy3]; simp only [rY, rB_ok, w4, h4]
                simp only [rB_ok]
                cases w5 : rWrd U n 8 a3.2 with
                | error z =>
                  simp only [rB_er]
                  have g5 : x5 = .error z := by rw [ex5, hx4]; simp only [rP, rB_ok, w5, rB_er]
                  have g6 : x6 = .error z := by rw [ex6, g5]; rfl
                  have g7 : x7 = .error z := by rw [ex7, g6]; rfl
                  exact ⟨g7, fun a h => by cases h⟩
                | ok p5 =>
                  simp only [rB_ok]
                  cases h5 : rNum U n (a3.1 + 1) a2.1 p5 with
                  | error z =>
                    simp only [rB_er]
                    have g5 : x5 = .error z := by rw [ex5, hx4, hy4, hy3]; simp only [rP, rB_ok, w5, h5, rB_er]
                    have g6 : x6 = .error z := by rw [ex6, g5]; rfl
                    have g7 : x7 = .error z := by rw [ex7, g6]; rfl
                    exact ⟨g7, fun a h => by cases h⟩
                  | ok a4 =>
                    have hx5 : x5 = .ok a4.2 := by rw [ex5, hx4, hy4, hy3]; simp only [rP, rB_ok, w5, h5]
                    have hy5 : y5 = a4.1 := by rw [ey5, hx4, hy4, hy3]; simp only [rY, rB_ok, w5, h5]
                    simp only [rB_ok]
                    cases w6 : rWrd U n 9 a4.2 with
                    | error z =>
                      simp only [rB_er]
                      have g6 : x6 = .error z := by rw [ex6, hx5]; simp only [rP, rB_ok, w6, rB_er]
                      have g7 : x7 = .error z := by rw [ex7, g6]; rfl
                      exact ⟨g7, fun a h => by cases h⟩
                    | ok p6 =>
                      simp only [rB_ok]
                      cases h6 : rNum U n 0 99 p6 with
                      | error z =>
                        simp only [rB_er]
                        have g6 : x6 = .error z := by rw [ex6, hx5]; simp only [rP, rB_ok, w6, h6, rB_er]
                        have g7 : x7 = .error z := by rw [ex7, g6]; rfl
                        exact ⟨g7, fun a h => by cases h⟩
                      | ok a5 =>
                        have hx6 : x6 = .ok a5.2 := by rw [ex6, hx5]; simp only [rP, rB_ok, w6, h6]
                        have hy6 : y6 = a5.1 := by rw [ey6, hx5]; simp only [rY, rB_ok, w6, h6]
                        simp only [rB_ok]
                        cases w7 : rWrd U n 10 a5.2 with
                        | error z =>
                          simp only [rB_er]
                          have g7 : x7 = .error z := by rw [ex7, hx6]; simp only [rP, rB_ok, w7, rB_er]
                          exact ⟨g7, fun a h => by cases h⟩
                        | ok p7 =>
                          simp only [rB_ok]
                          cases h7 : rNum U n 1 20 p7 with
                          | error z =>
                            simp only [rB_er]
                            have g7 : x7 = .error z := by rw [ex7, hx6]; simp only [rP, rB_ok, w7, h7, rB_er]
                            exact ⟨g7, fun a h => by cases h⟩
                          | ok a6 =>
                            have hx7 : x7 = .ok a6.2 := by rw [ex7, hx6]; simp only [rP, rB_ok, w7, h7]
                            have hy7 : y7 = a6.1 := by rw [ey7, hx6]; simp only [rY, rB_ok, w7, h7]
                            simp only [rB_ok]
                            refine ⟨hx7, fun a h => ?_⟩
                            have h2 := congrArg (fun x : RR ((Int → Int) × Int) => match x with | .ok b => b.1 | .error _ => a.1) h
                            dsimp only at h2
                            rw [← h2, hy1, hy2, hy3, hy4, hy5, hy6, hy7]
theorem p145 {U T : Int → Int} {n k p : Int} {Q : XF → Prop} (hP : xPT F) (hd : 8 < d) (hT : rTp U n F) (hm : mT T) (e : F 133 = T) (hs : rSt n F (.ok p)) (q : ∀ G, xPT G → mKl F G → rSt n G (rB (rCross U n T k p) fun a => .ok a.2) → (∀ a, rCross U n T k p = .ok a → G 133 = a.1) → Q G) : xMV X d 145 [.ref 131, vi k] F Q := by
  have hm' := hm
  obtain ⟨g0, _, _, _, g4, _, _, _, gX, _⟩ := hm'
  have e0 : F 133 0 = T 0 := by rw [e]
  have e4 : F 133 4 = T 4 := by rw [e]
  by_cases h10 : T 4 = 10
  · refine m145 hP ⟨by rw [e4]; constructor <;> omega, fun c => absurd (by rw [e4]; exact h10) c, fun _ => ⟨8, hd, p137 hP hs.1 fun G hG kG b7 b8 _ _ _ => q G hG kG.l ?_ ?_⟩⟩
    · unfold rCross
      rw [if_pos h10, rB_er]
      exact ⟨b7, b8, show (1 : Int) ≤ 3 by omega, show (3 : Int) ≤ 3 by omega⟩
    · unfold rCross
      rw [if_pos h10]
      intro a h
      cases h
  have hlo : 0 ≤ (if T 4 = 0 then 0 else T (8 + 7 * T 4 - 7) + T (8 + 7 * T 4 - 6)) ∧ (if T 4 = 0 then 0 else T (8 + 7 * T 4 - 7) + T (8 + 7 * T 4 - 6)) ≤ 2000 := by
    split
    · omega
    · have := gX (T 4 - 1) (by omega) (by omega)
      unfold mX at this
      rw [show 8 + 7 * T 4 - 7 = 8 + 7 * (T 4 - 1) by omega, show 8 + 7 * T 4 - 6 = 8 + 7 * (T 4 - 1) + 1 by omega]
      omega
  have fin : ∀ (b : Int) (y1 : Int) (x1 : RR Int) (G1 : XF), x1 = rP (.ok p) (rNum U n (if T 4 = 0 then 0 else T (8 + 7 * T 4 - 7) + T (8 + 7 * T 4 - 6)) (T 0 - 1)) → y1 = rY (if T 4 = 0 then 0 else T (8 + 7 * T 4 - 7) + T (8 + 7 * T 4 - 6)) (.ok p) (rNum U n (if T 4 = 0 then 0 else T (8 + 7 * T 4 - 7) + T (8 + 7 * T 4 - 6)) (T 0 - 1)) → b = (if T 0 - y1 < 50 then T 0 - y1 else 50) → mKl F G1 → ∀ (K : XF) (y2 y3 y4 y5 y6 y7 : Int) (x2 x3 x4 x5 x6 x7 : RR Int), xPT K → mKl G1 K → x2 = rP (rB x1 (rWrd U n 5)) (rNum U n 1 b) → y2 = rY 1 (rB x1 (rWrd U n 5)) (rNum U n 1 b) → x3 = rP (rB x2 (rWrd U n 6)) (rNum U n 1 200) → y3 = rY 1 (rB x2 (rWrd U n 6)) (rNum U n 1 200) → x4 = rP (rB x3 (rWrd U n 7)) (rNum U n 0 (y3 - 1)) → y4 = rY 0 (rB x3 (rWrd U n 7)) (rNum U n 0 (y3 - 1)) → x5 = rP (rB x4 (rWrd U n 8)) (rNum U n (y4 + 1) y3) → y5 = rY (y4 + 1) (rB x4 (rWrd U n 8)) (rNum U n (y4 + 1) y3) → x6 = rP (rB x5 (rWrd U n 9)) (rNum U n 0 99) → y6 = rY 0 (rB x5 (rWrd U n 9)) (rNum U n 0 99) → x7 = rP (rB x6 (rWrd U n 10)) (rNum U n 1 20) → y7 = rY 1 (rB x6 (rWrd U n 10)) (rNum U n 1 20) → rSt n K x7 → K 133 = mSet (mSet (mSet (mSet (mSet (mSet (mSet (mSet (T) (8 + 7 * T 4) y1) (8 + 7 * T 4 + 1) y2) (8 + 7 * T 4 + 2) y3) (8 + 7 * T 4 + 3) y4) (8 + 7 * T 4 + 4) y5) (8 + 7 * T 4 + 5) y6) (8 + 7 * T 4 + 6) y7) 4 (T 4 + 1) → Q K := by
    intro b y1 x1 G1 ex1 ey1 eb kF K y2 y3 y4 y5 y6 y7 x2 x3 x4 x5 x6 x7 hK kG ex2 ey2 ex3 ey3 ex4 ey4 ex5 ey5 ex6 ey6 ex7 ey7 s7 r7
    rw [eb] at ex2 ey2
    have c := rCross_x (k := k) h10 ex1 ey1 ex2 ey2 ex3 ey3 ex4 ey4 ex5 ey5 ex6 ey6 ex7 ey7
    exact q K hK (kF.trans kG) (by rw [← c.1]; exact s7) (fun a ha => by rw [r7, c.2 a ha])
  have body : ∀ (lo : Int), lo = (if T 4 = 0 then 0 else T (8 + 7 * T 4 - 7) + T (8 + 7 * T 4 - 6)) → ∀ (y1 : Int) (G1 : XF), xPT G1 → mKw F G1 → rSt n G1 (rP (.ok p) (rNum U n lo (T 0 - 1))) → y1 = rY lo (.ok p) (rNum U n lo (T 0 - 1)) → (0 ≤ y1 ∧ y1 ≤ 10000) ∧ G1 133 = T := by
    intro lo hl y1 G1 _ k1 _ hy
    rw [hy]
    refine ⟨rY_r (rSt_x hs) (by omega) (by omega), k1.r e⟩
  refine m145 hP ⟨by rw [e4]; constructor <;> omega, fun _ => ⟨by rw [e4]; constructor <;> omega, fun c => ?_, fun c => ?_⟩, fun c => absurd (by rw [e4]; exact h10) c⟩
  · rw [e4] at c
    have el : T (8 + 7 * T 4 - 7) + T (8 + 7 * T 4 - 6) = (if T 4 = 0 then 0 else T (8 + 7 * T 4 - 7) + T (8 + 7 * T 4 - 6)) := by rw [if_neg c]
    rw [e]
    refine ⟨⟨by omega, by omega⟩, ⟨by omega, by omega⟩, 8, hd, p143 hP (by omega) hT (by rw [el]; exact ⟨by omega, by omega⟩) ⟨by omega, by omega⟩ hs fun G1 hG1 k1 s1 _ => ?_⟩
    obtain ⟨y1, ey1⟩ : ∃ y, y = rY (T (8 + 7 * T 4 - 7) + T (8 + 7 * T 4 - 6)) (.ok p) (rNum U n (T (8 + 7 * T 4 - 7) + T (8 + 7 * T 4 - 6)) (T 0 - 1)) := ⟨_, rfl⟩
    rw [← ey1]
    have bd := body _ el y1 G1 hG1 k1 s1 ey1
    have tp := k1.tp hT
    have x0 : (xup G1 133 (8 + 7 * T 4) y1) 133 0 = T 0 := by rw [xup_i (by omega), bd.2]
    rw [x0]
    replace ey1 : y1 = rY (if T 4 = 0 then 0 else T (8 + 7 * T 4 - 7) + T (8 + 7 * T 4 - 6)) (.ok p) (rNum U n (if T 4 = 0 then 0 else T (8 + 7 * T 4 - 7) + T (8 + 7 * T 4 - 6)) (T 0 - 1)) := by rw [← el]; exact ey1
    replace s1 : rSt n G1 (rP (.ok p) (rNum U n (if T 4 = 0 then 0 else T (8 + 7 * T 4 - 7) + T (8 + 7 * T 4 - 6)) (T 0 - 1))) := by rw [← el]; exact s1
    refine ⟨⟨by omega, by omega⟩, ⟨by omega, by omega⟩, ⟨by omega, by omega⟩, fun c2 => ?_, fun c2 => ?_⟩
    · exact c145 G1 (by omega) tp (by omega) bd.2 hG1 s1 ⟨by omega, by omega⟩ (fin 50 y1 _ G1 rfl ey1 (by rw [if_neg (by omega)]) k1.l)
    · exact c145 G1 (by omega) tp (by omega) bd.2 hG1 s1 ⟨by omega, by omega⟩ (fin (T 0 - y1) y1 _ G1 rfl ey1 (by rw [if_pos (by omega)]) k1.l)
  · rw [e4] at c
    have el : 0 = (if T 4 = 0 then 0 else T (8 + 7 * T 4 - 7) + T (8 + 7 * T 4 - 6)) := by rw [if_pos (by omega)]
    rw [e]
    refine ⟨8, hd, p143 hP (by omega) hT (by rw [el]; exact ⟨by omega, by omega⟩) ⟨by omega, by omega⟩ hs fun G1 hG1 k1 s1 _ => ?_⟩
    obtain ⟨y1, ey1⟩ : ∃ y, y = rY (0) (.ok p) (rNum U n (0) (T 0 - 1)) := ⟨_, rfl⟩
    rw [← ey1]
    have bd := body _ el y1 G1 hG1 k1 s1 ey1
    have tp := k1.tp hT
    have x0 : (xup G1 133 (8 + 7 * T 4) y1) 133 0 = T 0 := by rw [xup_i (by omega), bd.2]
    rw [x0]
    replace ey1 : y1 = rY (if T 4 = 0 then 0 else T (8 + 7 * T 4 - 7) + T (8 + 7 * T 4 - 6)) (.ok p) (rNum U n (if T 4 = 0 then 0 else T (8 + 7 * T 4 - 7) + T (8 + 7 * T 4 - 6)) (T 0 - 1)) := by rw [← el]; exact ey1
    replace s1 : rSt n G1 (rP (.ok p) (rNum U n (if T 4 = 0 then 0 else T (8 + 7 * T 4 - 7) + T (8 + 7 * T 4 - 6)) (T 0 - 1))) := by rw [← el]; exact s1
    refine ⟨⟨by omega, by omega⟩, ⟨by omega, by omega⟩, ⟨by omega, by omega⟩, fun c2 => ?_, fun c2 => ?_⟩
    · exact c145 G1 (by omega) tp (by omega) bd.2 hG1 s1 ⟨by omega, by omega⟩ (fin 50 y1 _ G1 rfl ey1 (by rw [if_neg (by omega)]) k1.l)
    · exact c145 G1 (by omega) tp (by omega) bd.2 hG1 s1 ⟨by omega, by omega⟩ (fin (T 0 - y1) y1 _ G1 rfl ey1 (by rw [if_pos (by omega)]) k1.l)
end RD5
