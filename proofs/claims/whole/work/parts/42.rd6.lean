section RD6
variable {X : List Int32} {d : Nat} {F : XF}
theorem rSt_er {n : Int} {z : Int × Int} (h : rSt n F (.error z)) : F 131 7 = z.1 ∧ F 131 8 = z.2 ∧ 1 ≤ z.1 ∧ z.1 ≤ 3 := h
theorem rSt_ok {n p : Int} (h : rSt n F (.ok p)) : F 131 7 = 0 ∧ F 131 8 = -1 ∧ F 131 6 = p ∧ 0 ≤ p ∧ p ≤ n := h
/-- a number alone -/
theorem rN_c {U : Int → Int} {n lo hi p : Int} : (∃ z, rNum U n lo hi p = .error z ∧ rP (.ok p) (rNum U n lo hi) = .error z) ∨ (∃ a, rNum U n lo hi p = .ok a ∧ rP (.ok p) (rNum U n lo hi) = .ok a.2 ∧ rY lo (.ok p) (rNum U n lo hi) = a.1) := by
  cases h : rNum U n lo hi p with
  | error z => left; exact ⟨z, rfl, by simp only [rP, rB_ok, h, rB_er]⟩
  | ok a => right; exact ⟨a, rfl, by simp only [rP, rB_ok, h], by simp only [rY, h]⟩
theorem rW_c {U : Int → Int} {n p : Int} {s : Nat} : (∃ z, rWrd U n s p = .error z) ∨ (∃ e, rWrd U n s p = .ok e) := by
  cases h : rWrd U n s p with
  | error z => left; exact ⟨z, rfl⟩
  | ok e => right; exact ⟨e, rfl⟩
/-- a line's outcome -/
def rOut (n : Int) (F G : XF) (R : RR ((Int → Int) × Int)) : Prop := mKl F G ∧ rSt n G (rB R fun a => .ok a.2) ∧ (∀ a, R = .ok a → G 133 = a.1)
theorem rOut_er {n : Int} {G : XF} {R : RR ((Int → Int) × Int)} {z : Int × Int} (k : mKl F G) (h : R = .error z) (s : rSt n G (.error z)) : rOut n F G R := by
  subst h
  exact ⟨k, s, fun a h => by cases h⟩
theorem rOut_ok {n : Int} {G : XF} {R : RR ((Int → Int) × Int)} {a : (Int → Int) × Int} (k : mKl F G) (h : R = .ok a) (s : rSt n G (.ok a.2)) (e : G 133 = a.1) : rOut n F G R := by
  subst h
  exact ⟨k, s, fun b h => by cases h; exact e⟩
theorem s3 {n k : Int} {G : XF} (b7 : G 131 7 = 3) (b8 : G 131 8 = k) : rSt n G (.error (3, k)) := ⟨b7, b8, show (1 : Int) ≤ 3 by omega, show (3 : Int) ≤ 3 by omega⟩
theorem s1e {n k : Int} {G : XF} (b7 : G 131 7 = 1) (b8 : G 131 8 = k) : rSt n G (.error (1, k)) := ⟨b7, b8, show (1 : Int) ≤ 1 by omega, show (1 : Int) ≤ 3 by omega⟩
theorem pOne {U T : Int → Int} {n lo hi i p : Int} {Q : Int → XF → Prop} (hP : xPT F) (hd : 2 < d) (hT : rTp U n F) (hlo : inR lo) (hhi : inR hi) (e : F 133 = T) (hs : rSt n F (.ok p)) (q : ∀ y G, xPT G → rOut n F (xup G 133 i y) (rOne U n T i lo hi p) → Q y G) : xMI X d 143 [.ref 131, vi lo, vi hi] F Q := by
  refine p143 hP hd hT hlo hhi hs fun G hG k1 s1 _ => q _ G hG ?_
  rcases rN_c (U := U) (n := n) (lo := lo) (hi := hi) (p := p) with ⟨z, h1, h2⟩ | ⟨a, h1, h2, h3⟩
  · rw [h2] at s1
    exact rOut_er k1.l.up (by unfold rOne; rw [h1]; rfl) s1.up
  · rw [h2] at s1
    exact rOut_ok (a := (mSet T i a.1, a.2)) k1.l.up (by unfold rOne; rw [h1]; rfl) s1.up (by rw [h3]; exact xup_ms (k1.r e))
theorem p148 {U T : Int → Int} {n k p : Int} {Q : XF → Prop} (hP : xPT F) (hd : 3 < d) (hT : rTp U n F) (hm : mT T) (e : F 133 = T) (hs : rSt n F (.ok p)) (q : ∀ G, xPT G → rOut n F G (rGather U n T k p) → Q G) : xMV X d 148 [.ref 131, vi k] F Q := by
  have hm' := hm
  obtain ⟨g0, _, _, _, _, _, g6, _, _, _, _, _, gg, _⟩ := hm'
  have e0 : F 133 0 = T 0 := by rw [e]
  have e6 : F 133 6 = T 6 := by rw [e]
  by_cases h4 : T 6 = 4
  · refine m148 hP ⟨by rw [e6]; constructor <;> omega, fun c => absurd (by rw [e6]; exact h4) c, fun _ => ⟨3, hd, p137 hP hs.1 fun G hG kG b7 b8 _ _ _ => q G hG (rOut_er kG.l (by unfold rGather; rw [if_pos h4]) (s3 b7 b8))⟩⟩
  have fin : ∀ (lo : Int), lo = (if T 6 = 0 then 1 else T (138 + T 6 - 1) + 1) → ∀ G, xPT G → mKw F G → rSt n G (rP (.ok p) (rNum U n lo (T 0))) → ∀ H, H = xup (xup G 133 (138 + T 6) (rY lo (.ok p) (rNum U n lo (T 0)))) 133 6 (T 6 + 1) → rOut n F H (rGather U n T k p) := by
    intro lo hl G hG k1 s1 H hH
    subst hH
    have er : rGather U n T k p = rB (rNum U n lo (T 0) p) fun a0 => .ok (mSet (mSet T (138 + T 6) a0.1) 6 (T 6 + 1), a0.2) := by unfold rGather; rw [if_neg h4, ← hl]
    rcases rN_c (U := U) (n := n) (lo := lo) (hi := T 0) (p := p) with ⟨z, h1, h2⟩ | ⟨a, h1, h2, h3⟩
    · rw [h2] at s1
      exact rOut_er k1.l.up.up (by rw [er, h1]; rfl) s1.up.up
    · rw [h2] at s1
      exact rOut_ok (a := (mSet (mSet T (138 + T 6) a.1) 6 (T 6 + 1), a.2)) k1.l.up.up (by rw [er, h1]; rfl) s1.up.up (by rw [h3]; exact xup_ms (xup_ms (k1.r e)))
  refine m148 hP ⟨by rw [e6]; constructor <;> omega, fun _ => ⟨by rw [e6]; constructor <;> omega, fun c => ?_, fun c => ?_⟩, fun c => absurd (by rw [e6]; exact h4) c⟩
  · rw [e6] at c
    have := gg (T 6 - 1) (by omega) (by omega)
    rw [show 138 + (T 6 - 1) = 138 + T 6 - 1 by omega] at this
    rw [e]
    refine ⟨⟨by omega, by omega⟩, 3, hd, p143 hP (by omega) hT ⟨by omega, by omega⟩ ⟨by omega, by omega⟩ hs fun G hG k1 s1 _ => ⟨⟨by omega, by omega⟩, fun hH => q _ hH (fin _ (by rw [if_neg c]) G hG k1 s1 _ ?_)⟩⟩
    rw [xup_i (by omega), k1.r e]
  · rw [e6] at c
    rw [e]
    refine ⟨3, hd, p143 hP (by omega) hT ⟨by omega, by omega⟩ ⟨by omega, by omega⟩ hs fun G hG k1 s1 _ => ⟨⟨by omega, by omega⟩, fun hH => q _ hH (fin _ (by rw [if_pos (by omega)]) G hG k1 s1 _ ?_)⟩⟩
    rw [xup_i (by omega), k1.r e]
theorem p147 {U T : Int → Int} {n p : Int} {Q : XF → Prop} (hP : xPT F) (hd : 3 < d) (hT : rTp U n F) (hm : mT T) (e : F 133 = T) (hs : rSt n F (.ok p)) (q : ∀ G, xPT G → rOut n F G (rSplit U n T p) → Q G) : xMV X d 147 [.ref 131] F Q := by
  have h5 := hm.2.2.2.2.2.1
  have hsp := hm.2.2.2.2.2.2.2.2.2.2.2.1
  have e5 : F 133 5 = T 5 := by rw [e]
  refine m147 hP ?_
  rw [e5]
  refine ⟨3, hd, p143 hP (by omega) hT ⟨by omega, by omega⟩ ⟨by omega, by omega⟩ hs fun G hG k1 s1 n1 => ?_⟩
  have n1' := n1 p rfl s1
  rcases rN_c (U := U) (n := n) (lo := 0) (hi := T 5 - 1) (p := p) with ⟨z, h1, h2⟩ | ⟨a, h1, h2, h3⟩
  · rw [h2] at s1
    obtain ⟨z7, z8, z1, z3⟩ := rSt_er s1
    refine ⟨by rw [z7]; constructor <;> omega, fun _ _ => s147_43 hG ⟨by rw [z7]; constructor <;> omega, fun _ _ => q G hG (rOut_er k1.l (by unfold rSplit; rw [h1]; rfl) s1), fun c => absurd (by omega) c⟩, fun c => absurd (by omega) c⟩
  · rw [h2] at s1
    have z := rSt_ok s1
    rw [h3]
    have bp := rNum_p (rSt_ok hs).2.2.2.2 h1
    have sa := hsp a.1 (by omega) (by omega)
    have r1 := k1.r e
    refine ⟨by rw [z.1]; constructor <;> omega, fun c => absurd z.1 c, fun _ => ⟨⟨by omega, by omega⟩, ?_⟩⟩
    rw [r1]
    refine ⟨⟨by omega, by omega⟩, fun c _ => s147_43 hG ⟨by rw [z.1]; constructor <;> omega, fun c => absurd z.1 c, fun _ => ⟨⟨by omega, by omega⟩, fun hH => q _ hH ?_⟩⟩, fun c => ⟨3, hd, p137 hG z.1 fun H hH kH b7 b8 _ _ _ => s147_43 hH ⟨by rw [b7]; constructor <;> omega, fun _ _ => q H hH ?_, fun c => absurd (by omega) c⟩⟩⟩
    · exact rOut_ok (a := (mSet T (108 + a.1) 1, a.2)) k1.l.up (by unfold rSplit; rw [h1, rB_ok, if_neg c]) s1.up (xup_ms r1)
    · exact rOut_er (k1.l.trans kH.l) (by unfold rSplit; rw [h1, rB_ok, if_pos (by omega)]) (s3 b7 (by rw [b8]; exact n1' z.1))
theorem l146 {T : Int → Int} {n m l u2 : Int} {Q : XF → Prop} (F0 : XF) (hm : 0 ≤ m ∧ m ≤ 30) (h5 : 0 ≤ T 5 ∧ T 5 + m ≤ 30) (q : ∀ G, xPT G → (∀ p i, ¬ p = 133 → G p i = F0 p i) → G 133 = rLong T m l → Q G) : ∀ (f k : Nat) (F : XF), xPT F → (k : Int) + f = m → (∀ p i, ¬ p = 133 → F p i = F0 p i) → (∀ i, F 133 i = if 78 + T 5 ≤ i ∧ i < 78 + T 5 + k then l else T i) → xW X d 146 64 [.ref 131, vi m, vi u2, vi l, vi k] [] F (xqv Q) := by
  intro f
  induction f with
  | zero =>
    intro k F hP hk hK hr
    have e5 : F 133 5 = T 5 := by rw [hr 5, if_neg (by omega)]
    refine s146_64 hP ⟨⟨by omega, by omega⟩, ⟨by omega, by omega⟩, fun _ hG => q _ hG (fun p i h => by rw [xup_o h]; exact hK p i h) (funext fun i => ?_), fun c => absurd (by omega) c⟩
    unfold rLong
    by_cases hi : i = 5
    · rw [if_pos hi, hi, xup_s, e5]
    · rw [if_neg hi, xup_i hi, hr i, show (k : Int) = m by omega]
  | succ f ih =>
    intro k F hP hk hK hr
    have e5 : F 133 5 = T 5 := by rw [hr 5, if_neg (by omega)]
    refine s146_64 hP ⟨⟨by omega, by omega⟩, ⟨by omega, by omega⟩, fun c => absurd c (by omega), fun _ => ?_⟩
    rw [e5]
    refine ⟨⟨by omega, by omega⟩, fun hG => ih (k + 1) _ hG (by omega) (fun p i h => by rw [xup_o h]; exact hK p i h) fun i => ?_⟩
    by_cases hi : i = 78 + T 5 + k
    · rw [hi, xup_s, if_pos (by omega)]
    · rw [xup_i hi, hr i]
      by_cases hq : 78 + T 5 ≤ i ∧ i < 78 + T 5 + (k : Int)
      · rw [if_pos hq, if_pos (by omega)]
      · rw [if_neg hq, if_neg (by omega)]
theorem p146 {U T : Int → Int} {n p : Int} {Q : XF → Prop} (hP : xPT F) (hd : 6 < d) (hT : rTp U n F) (hm : mT T) (e : F 133 = T) (hs : rSt n F (.ok p)) (q : ∀ G, xPT G → rOut n F G (rColumn U n T p) → Q G) : xMV X d 146 [.ref 131] F Q := by
  have h5 := hm.2.2.2.2.2.1
  refine m146 hP ⟨6, hd, p143 hP (by omega) hT ⟨by omega, by omega⟩ ⟨by omega, by omega⟩ hs fun G1 hG1 k1 s1 n1 => ⟨6, hd, p142 (j := 15) hG1 (by omega) (k1.tp hT) (by decide) s1 fun G2 hG2 k2 n2 s2 => ⟨6, hd, p143 hG2 (by omega) ((k1.trans k2).tp hT) ⟨by omega, by omega⟩ ⟨by omega, by omega⟩ s2 fun G3 hG3 k3 s3' _ => ?_⟩⟩⟩
  have n1' := n1 p rfl s1
  have kk := k1.trans (k2.trans k3)
  change rSt n G3 (rP (rB _ (rWrd U n 12)) _) at s3'
  rcases rN_c (U := U) (n := n) (lo := 1) (hi := 30) (p := p) with ⟨z, h1, h2⟩ | ⟨a, h1, h2, h3⟩
  · have hz : rP (rB (rP (.ok p) (rNum U n 1 30)) (rWrd U n 12)) (rNum U n 1 30) = .error z := (by rw [h2]; rfl)
    have hc : rColumn U n T p = .error z := (by unfold rColumn; rw [h1]; rfl)
    rw [hz] at s3'
    obtain ⟨z7, z8, z1, z3⟩ := rSt_er s3'
    exact ⟨by rw [z7]; constructor <;> omega, fun _ => ⟨by rw [z7]; constructor <;> omega, fun c => absurd c (by omega), fun _ _ => q G3 hG3 (rOut_er kk.l hc s3')⟩, fun c => absurd (show ¬ G3 131 7 = 0 by omega) c⟩
  rcases rW_c (U := U) (n := n) (s := 12) (p := a.2) with ⟨z, w1⟩ | ⟨p1, w1⟩
  · have hz : rP (rB (rP (.ok p) (rNum U n 1 30)) (rWrd U n 12)) (rNum U n 1 30) = .error z := (by rw [h2, rB_ok, w1]; rfl)
    have hc : rColumn U n T p = .error z := (by unfold rColumn; rw [h1, rB_ok, w1]; rfl)
    rw [hz] at s3'
    obtain ⟨z7, z8, z1, z3⟩ := rSt_er s3'
    exact ⟨by rw [z7]; constructor <;> omega, fun _ => ⟨by rw [z7]; constructor <;> omega, fun c => absurd c (by omega), fun _ _ => q G3 hG3 (rOut_er kk.l hc s3')⟩, fun c => absurd (show ¬ G3 131 7 = 0 by omega) c⟩
  have x1 : rB (rP (.ok p) (rNum U n 1 30)) (rWrd U n 12) = .ok p1 := by rw [h2, rB_ok, w1]
  rcases rN_c (U := U) (n := n) (lo := 1) (hi := 30) (p := p1) with ⟨z, g1, g2⟩ | ⟨b, g1, g2, g3⟩
  · have hz : rP (rB (rP (.ok p) (rNum U n 1 30)) (rWrd U n 12)) (rNum U n 1 30) = .error z := (by rw [x1, g2])
    have hc : rColumn U n T p = .error z := (by unfold rColumn; rw [h1, rB_ok, w1, rB_ok, g1]; rfl)
    rw [hz] at s3'
    obtain ⟨z7, z8, z1, z3⟩ := rSt_er s3'
    exact ⟨by rw [z7]; constructor <;> omega, fun _ => ⟨by rw [z7]; constructor <;> omega, fun c => absurd c (by omega), fun _ _ => q G3 hG3 (rOut_er kk.l hc s3')⟩, fun c => absurd (show ¬ G3 131 7 = 0 by omega) c⟩
  have bp := rNum_p (rSt_ok hs).2.2.2.2 h1
  have wp := rWrd_p (show a.2 ≤ n by omega) w1
  have bp2 := rNum_p (show p1 ≤ n by omega) g1
  have r3 := kk.r e
  have e35 : G3 133 5 = T 5 := by rw [r3]
  rw [x1, g2] at s3'
  have z := rSt_ok s3'
  have z10 : G1 131 10 = rE (cBl U) n p := n1' (by
    rw [h2] at s1
    exact (rSt_ok s1).1)
  have rc : rColumn U n T p = (if 30 < T 5 + a.1 then .error (3, rE (cBl U) n p) else .ok (rLong T a.1 b.1, b.2)) := by
    unfold rColumn
    rw [h1, rB_ok, w1, rB_ok, g1, rB_ok]
  have loop : T 5 + a.1 ≤ 30 → xW X d 146 64 [.ref 131, vi a.1, vi (G1 131 10), vi b.1, vi 0] [] G3 (xqv Q) := fun hle => by
    refine l146 (n := n) (T := T) (m := a.1) (l := b.1) G3 (by omega) (by omega) (fun G hG kG eG => q G hG (rOut_ok (a := (rLong T a.1 b.1, b.2)) (kk.l.trans fun p i h1 _ => kG p i h1) (by rw [rc, if_neg (by omega)]) (s3'.of fun i hi => kG 131 i (by decide)) eG)) a.1.toNat 0 G3 hG3 (by omega) (fun _ _ _ => rfl) (fun i => by rw [r3, if_neg (by omega)])
  have x1' : rB (rP (.ok p) (rNum U n 1 30)) (rWrd U n (rKy.getD 15 0)) = .ok p1 := x1
  rw [x1', h3, g3, e35]
  refine ⟨by rw [z.1]; constructor <;> omega, fun c => absurd z.1 c, fun _ => ⟨⟨by omega, by omega⟩, fun c => ⟨by rw [z.1]; constructor <;> omega, fun _ _ => loop c, fun c => absurd z.1 c⟩, fun c => ⟨6, hd, p137 hG3 z.1 fun G4 hG4 k4 b7 b8 _ _ => ⟨by rw [b7]; constructor <;> omega, fun c => absurd c (by omega), fun _ _ => q G4 hG4 (rOut_er (kk.l.trans k4.l) (by rw [rc, if_pos (by omega)]) (s3 b7 (by rw [b8]; exact z10)))⟩⟩⟩⟩
theorem p149 {U T : Int → Int} {n k p : Int} {Q : XF → Prop} (hP : xPT F) (hd : 7 < d) (hT : rTp U n F) (hm : mT T) (h6 : T 7 ≤ 6) (e : F 133 = T) (hs : rSt n F (.ok p)) (q : ∀ G, xPT G → rOut n F G (rBroken U n T k p) → Q G) : xMV X d 149 [.ref 131, vi k] F Q := by
  have h5 := hm.2.2.2.2.2.1
  have h7 := hm.2.2.2.2.2.2.2.1
  have e5 : F 133 5 = T 5 := by rw [e]
  have e7 : F 133 7 = T 7 := by rw [e]
  by_cases h4 : T 7 = 6
  · refine m149 hP ⟨by rw [e7]; constructor <;> omega, fun c => absurd (by rw [e7]; exact h4) c, fun _ => ⟨7, hd, p137 hP hs.1 fun G hG kG b7 b8 _ _ _ => q G hG (rOut_er kG.l (by unfold rBroken; rw [if_pos h4]) (s3 b7 b8))⟩⟩
  refine m149 hP ?_
  rw [e7, e5]
  refine ⟨⟨by omega, by omega⟩, fun _ => ⟨7, hd, p143 hP (by omega) hT ⟨by omega, by omega⟩ ⟨by omega, by omega⟩ hs fun G1 hG1 k1 s1 _ => ⟨⟨by omega, by omega⟩, 7, hd, ?_⟩⟩, fun c => absurd h4 c⟩
  have t1 : rTp U n (xup G1 133 (142 + 3 * T 7) (rY 0 (.ok p) (rNum U n 0 (T 5 - 1)))) := (k1.tp hT).up
  refine p144 (j := 16) (xPT_133 hG1) (by omega) t1 (by decide) ⟨by omega, by omega⟩ ⟨by omega, by omega⟩ s1.up fun G2 hG2 k2 s2 => ⟨⟨by omega, by omega⟩, 7, hd, ?_⟩
  refine p144 (j := 17) (xPT_133 hG2) (by omega) (k2.tp t1).up (by decide) ⟨by omega, by omega⟩ ⟨by omega, by omega⟩ s2.up fun G3 hG3 k3 s3' => ⟨⟨by omega, by omega⟩, fun hK => q _ hK ?_⟩
  change rSt n G3 (rP (rB (rP (rB (rP (.ok p) (rNum U n 0 (T 5 - 1))) (rWrd U n 16)) (rNum U n 0 1999)) (rWrd U n 17)) (rNum U n 1 500)) at s3'
  have kl : ∀ i v, mKl F (xup (xup G3 133 (142 + 3 * T 7 + 2) i) 133 7 v) := fun i v => (((k1.l.up.trans k2.l).up.trans k3.l).up).up
  have rb : rBroken U n T k p = rB (rNum U n 0 (T 5 - 1) p) fun a0 => rB (rWrd U n 16 a0.2) fun p1 => rB (rNum U n 0 1999 p1) fun a1 => rB (rWrd U n 17 a1.2) fun p2 => rB (rNum U n 1 500 p2) fun a2 => .ok (mBrT T a0.1 a1.1 a2.1, a2.2) := by unfold rBroken; rw [if_neg h4]
  rcases rN_c (U := U) (n := n) (lo := 0) (hi := T 5 - 1) (p := p) with ⟨z, h1, h2⟩ | ⟨a, h1, h2, h3⟩
  · rw [h2] at s3'
    exact rOut_er (kl _ _) (z := z) (by rw [rb, h1]; rfl) s3'.up.up
  rw [h2, rB_ok] at s3'
  rcases rW_c (U := U) (n := n) (s := 16) (p := a.2) with ⟨z, w1⟩ | ⟨p1, w1⟩
  · rw [w1] at s3'
    exact rOut_er (kl _ _) (z := z) (by rw [rb, h1, rB_ok, w1]; rfl) s3'.up.up
  rw [w1] at s3'
  rcases rN_c (U := U) (n := n) (lo := 0) (hi := 1999) (p := p1) with ⟨z, g1, g2⟩ | ⟨b, g1, g2, g3⟩
  · rw [g2] at s3'
    exact rOut_er (kl _ _) (z := z) (by rw [rb, h1, rB_ok, w1, rB_ok, g1]; rfl) s3'.up.up
  rw [g2, rB_ok] at s3'
  rcases rW_c (U := U) (n := n) (s := 17) (p := b.2) with ⟨z, w2⟩ | ⟨p2, w2⟩
  · rw [w2] at s3'
    exact rOut_er (kl _ _) (z := z) (by rw [rb, h1, rB_ok, w1, rB_ok, g1, rB_ok, w2]; rfl) s3'.up.up
  rw [w2] at s3'
  rcases rN_c (U := U) (n := n) (lo := 1) (hi := 500) (p := p2) with ⟨z, f1, f2⟩ | ⟨c, f1, f2, f3⟩
  · rw [f2] at s3'
    exact rOut_er (kl _ _) (z := z) (by rw [rb, h1, rB_ok, w1, rB_ok, g1, rB_ok, w2, rB_ok, f1]; rfl) s3'.up.up
  rw [f2] at s3'
  refine rOut_ok (a := (mBrT T a.1 b.1 c.1, c.2)) (kl _ _) (by rw [rb, h1, rB_ok, w1, rB_ok, g1, rB_ok, w2, rB_ok, f1]; rfl) s3'.up.up ?_
  have y2 : rY 0 (rB (rP (.ok p) (rNum U n 0 (T 5 - 1))) (rWrd U n (rKy.getD 16 0))) (rNum U n 0 1999) = b.1 := by
    show rY 0 (rB (rP (.ok p) (rNum U n 0 (T 5 - 1))) (rWrd U n 16)) (rNum U n 0 1999) = b.1
    rw [h2, rB_ok, w1, g3]
  have y3 : rY 1 (rB (rP (rB (rP (.ok p) (rNum U n 0 (T 5 - 1))) (rWrd U n (rKy.getD 16 0))) (rNum U n 0 1999)) (rWrd U n (rKy.getD 17 0))) (rNum U n 1 500) = c.1 := by
    show rY 1 (rB (rP (rB (rP (.ok p) (rNum U n 0 (T 5 - 1))) (rWrd U n 16)) (rNum U n 0 1999)) (rWrd U n 17)) (rNum U n 1 500) = c.1
    rw [h2, rB_ok, w1, g2, rB_ok, w2, f3]
  have r1 := xup_ms (i := 142 + 3 * T 7) (v := rY 0 (.ok p) (rNum U n 0 (T 5 - 1))) (k1.r e)
  have r2 := xup_ms (i := 142 + 3 * T 7 + 1) (v := rY 0 (rB (rP (.ok p) (rNum U n 0 (T 5 - 1))) (rWrd U n (rKy.getD 16 0))) (rNum U n 0 1999)) (k2.r r1)
  have r3 := xup_ms (i := 142 + 3 * T 7 + 2) (v := rY 1 (rB (rP (rB (rP (.ok p) (rNum U n 0 (T 5 - 1))) (rWrd U n (rKy.getD 16 0))) (rNum U n 0 1999)) (rWrd U n (rKy.getD 17 0))) (rNum U n 1 500)) (k3.r r2)
  rw [xup_ms r3, r3, y2, y3, h3]
  unfold mBrT
  congr 1
  rw [mSet_n (by omega), mSet_n (by omega), mSet_n (by omega)]
end RD6
