section RD9
variable {X : List Int32} {d : Nat} {F : XF}
/-- no lines -/
def rT0 (T : Int → Int) : Int → Int := fun i => if i = 0 then 100 else if i = 1 then 10 else if i = 2 then 2 else if 0 ≤ i ∧ i < 163 then 0 else T i
theorem rT0_z {T : Int → Int} {i : Int} (h : 3 ≤ i ∧ i < 163) : rT0 T i = 0 := by
  unfold rT0
  rw [if_neg (by omega), if_neg (by omega), if_neg (by omega), if_pos (by omega)]
theorem rT0_m {T : Int → Int} : mT (rT0 T) := by
  have a0 : rT0 T 0 = 100 := rfl
  have a1 : rT0 T 1 = 10 := rfl
  have a2 : rT0 T 2 = 2 := rfl
  refine ⟨by omega, by omega, by omega, by rw [rT0_z (by omega)]; omega, by rw [rT0_z (by omega)]; omega, by rw [rT0_z (by omega)]; omega, by rw [rT0_z (by omega)]; omega, by rw [rT0_z (by omega)]; omega, fun x a b => ?_, fun x y a b c => ?_, fun c a b => ?_, fun c a b => ?_, fun k a b => ?_, fun k a b => ?_⟩
  · rw [rT0_z (by omega)] at b; omega
  · rw [rT0_z (by omega)] at c; omega
  · rw [rT0_z (by omega)] at b; omega
  · left; exact rT0_z (by omega)
  · rw [rT0_z (by omega)] at b; omega
  · rw [rT0_z (by omega)] at b; omega
theorem rT0_in {T : Int → Int} : rIn (rT0 T) (fun _ => 0) := ⟨rT0_m, by rw [rT0_z (by omega)]; omega, fun j _ _ => Or.inl rfl, fun _ => ⟨rT0_z (by omega), rT0_z (by omega), rT0_z (by omega), rT0_z (by omega)⟩⟩
theorem l134 {Q : XF → Prop} (F0 : XF) (q : ∀ G, xPT G → (∀ p i, ¬ p = 133 → G p i = F0 p i) → G 133 = rT0 (F0 133) → Q G) : ∀ (f k : Nat) (F : XF), xPT F → k + f = 163 → (∀ p i, ¬ p = 133 → F p i = F0 p i) → (∀ i, F 133 i = if 0 ≤ i ∧ i < k then 0 else F0 133 i) → xW X d 134 2 [.ref 131, vi k] [] F (xqv Q) := by
  intro f
  induction f with
  | zero =>
    intro k F hP hk hK h1
    refine s134_2 hP ⟨⟨by omega, by omega⟩, fun _ hG => q _ hG (fun p i h => by rw [xup_o h, xup_o h, xup_o h]; exact hK p i h) (funext fun i => ?_), fun c => absurd (by omega) c⟩
    unfold rT0
    by_cases i2 : i = 2
    · rw [i2, xup_s]; rfl
    rw [xup_i i2]
    by_cases i1 : i = 1
    · rw [i1, xup_s]; rfl
    rw [xup_i i1]
    by_cases i0 : i = 0
    · rw [i0, xup_s]; rfl
    rw [xup_i i0, if_neg i0, if_neg i1, if_neg i2, h1 i, show (k : Int) = 163 by omega]
  | succ f ih =>
    intro k F hP hk hK h1
    refine s134_2 hP ⟨⟨by omega, by omega⟩, fun c => absurd c (by omega), fun _ => ⟨⟨by omega, by omega⟩, fun hG => ih (k + 1) _ hG (by omega) (fun p i h => by rw [xup_o h]; exact hK p i h) fun i => ?_⟩⟩
    by_cases hi : i = k
    · rw [hi, xup_s, if_pos (by omega)]
    · rw [xup_i hi, h1 i]
      by_cases hq : 0 ≤ i ∧ i < (k : Int)
      · rw [if_pos hq, if_pos (by omega)]
      · rw [if_neg hq, if_neg (by omega)]
theorem p134 {Q : XF → Prop} (hP : xPT F) (q : ∀ G, xPT G → (∀ p i, ¬ p = 133 → G p i = F p i) → G 133 = rT0 (F 133) → Q G) : xMV X d 134 [.ref 131] F Q := m134 hP fun _ => l134 F q 163 0 F hP (by omega) (fun _ _ _ => rfl) (fun i => by rw [if_neg (by omega)])
/-- what is told by the text -/
noncomputable def rTold (U : Int → Int) (n : Int) (T : Int → Int) : RR ((Int → Int) × Int) := rText U n (n.toNat + 1) (rT0 T) (fun _ => 0) 0 0
theorem l151 {U : Int → Int} {n N : Int} {Q : Int → XF → Prop} (hd : 11 < d) (F0 : XF) (R : RR ((Int → Int) × Int)) (hN0 : 0 ≤ N ∧ N ≤ 600) (q : ∀ G l (w : Value), xPT G → mKn F0 G → inR l → (∀ z, R = .error z → G 131 7 = z.1 ∧ G 131 8 = z.2 ∧ 1 ≤ z.1 ∧ z.1 ≤ 3) → (∀ a, R = .ok a → G 131 7 = 0 ∧ G 131 8 = -1 ∧ G 133 = a.1 ∧ mT a.1 ∧ a.1 7 ≤ 6 ∧ l = a.2) → xW X d 151 83 [.ref 131, vi N, vi l, w] [] G (xqi Q)) : ∀ (f : Nat) (p l : Int) (T sn : Int → Int) (F : XF) (w : Value), xPT F → rTp U n F → mKn F0 F → F 133 = T → rIn T sn → rSt n F (.ok p) → rSn (F 131 9) sn → n - p < f → 0 ≤ l → l ≤ p → rText U n f T sn p l = R → xW X d 151 58 [.ref 131, vi N, vi l, w] [] F (xqi Q) := by
  intro f
  induction f with
  | zero =>
    intro p l T sn F w hP hT hK e hi hs h9 hf hl hlp hR
    have := (rSt_ok hs).2.2.2.2
    omega
  | succ f ih =>
    intro p l T sn F w hP hT hK e hi hs h9 hf hl hlp hR
    have hN := hT.2.1
    have z := rSt_ok hs
    have bk := rE_p (c := cBl U) (n := n) (p := p)
    have bk2 := bk.2.1 z.2.2.2.2
    unfold rText at hR
    refine s151_58 hP ⟨by rw [z.1]; constructor <;> omega, fun c => absurd z.1 c, fun _ => ⟨11, hd, p136 hP hT z.2.2.1 z.2.2.2 fun G hG k1 e1 => ?_⟩⟩
    have hT1 : rTp U n G := hT.of fun a i h => k1 a i (by omega)
    have kG : mKn F0 G := hK.trans fun p i _ h => k1 p i (by omega)
    have eG : G 133 = T := (funext fun i => k1 133 i (by omega)).trans e
    have sG : rSt n G (.ok (rE (cBl U) n p)) := ⟨by rw [k1 131 7 (by omega)]; exact z.1, by rw [k1 131 8 (by omega)]; exact z.2.1, e1, by omega, bk2⟩
    by_cases hq : rE (cBl U) n p < n
    · rw [if_pos hq] at hR
      have t := hT.2.2 (rE (cBl U) n p) (by omega) hq
      have ub : 0 ≤ U (rE (cBl U) n p) ∧ U (rE (cBl U) n p) ≤ 255 := by rw [t.2]; split <;> omega
      have kk : rE (cBl U) n (rE (cBl U) n p) = rE (cBl U) n p := rE_0 bk.2.2.2
      have rl : rLine U n T sn (rE (cBl U) n p) = rLine U n T sn p := by
        unfold rLine rHead rSeen
        rw [kk]
      rw [if_pos hq]
      refine ⟨⟨by omega, by omega⟩, fun c => absurd c (by omega), fun _ => ⟨11, hd, p150 hG (by omega) hT1 hi eG sG (by rw [k1 131 9 (by omega)]; exact h9) fun H hH o _ => ?_⟩⟩
      rw [rl] at o
      have kH := kG.trans o.1
      cases hr : rLine U n T sn p with
      | error y =>
        rw [hr] at o hR
        rw [rB_er] at hR
        obtain ⟨y7, y8, y1, y3⟩ := rSt_er o.2.1
        refine s151_58 hH ⟨by rw [y7]; constructor <;> omega, fun _ _ => q H _ w hH kH ⟨by omega, by omega⟩ (fun z hz => ?_) (fun a ha => ?_), fun c => absurd (show ¬ H 131 7 = 0 by omega) c⟩
        · rw [← hR] at hz
          cases hz
          exact ⟨y7, y8, y1, y3⟩
        · rw [← hR] at ha
          cases ha
      | ok a =>
        have lp := rLine_p z.2.2.2.2 hi hr
        rw [hr] at o hR
        rw [rB_ok] at hR
        have o3 := o.2.2 a rfl
        exact ih a.2.2 (l + 1) a.1 a.2.1 H w hH (o.1.tp hT1) kH o3.1 lp.1 o.2.1 o3.2 (by omega) (by omega) (by omega) hR
    · rw [if_neg hq] at hR ⊢
      refine ⟨⟨by omega, by omega⟩, fun _ _ => q G l w hG kG ⟨by omega, by omega⟩ (fun y hy => ?_) (fun a ha => ?_), fun c => absurd rfl c⟩
      · rw [← hR] at hy; cases hy
      · rw [← hR] at ha
        rw [← ok_inj ha]
        exact ⟨by rw [k1 131 7 (by omega)]; exact z.1, by rw [k1 131 8 (by omega)]; exact z.2.1, eG, hi.1, hi.2.1, rfl⟩
theorem l151c {N l : Int} {T : Int → Int} {Q : Int → XF → Prop} (hd : 2 < d) (F0 : XF) (hT : mT (fun i => if 0 ≤ i ∧ i < 163 then F0 133 i else F0 132 i)) (q : ∀ G, xPT G → (∀ p i, (p < 131 ∨ p = 133 ∨ p = 134 ∨ p = 135 ∨ 141 < p) → G p i = F0 p i) → (∀ i, ¬ i = 0 → ¬ i = 12 → ¬ i = 17 → ¬ i = 20 → ¬ i = 21 → ¬ i = 22 → G 131 i = F0 131 i) → G 131 12 = 0 → G 132 = (fun i => if 0 ≤ i ∧ i < 163 then F0 133 i else F0 132 i) → mNow G 0 → Q l G) : ∀ (f k : Nat) (F : XF), xPT F → k + f = 163 → (∀ p i, ¬ p = 132 → F p i = F0 p i) → (∀ i, F 132 i = if 0 ≤ i ∧ i < k then F0 133 i else F0 132 i) → xW X d 151 100 [.ref 131, vi N, vi l, vi k] [] F (xqi Q) := by
  intro f
  induction f with
  | zero =>
    intro k F hP hk hK h1
    have e : xup F 131 12 0 132 = (fun i => if 0 ≤ i ∧ i < 163 then F0 133 i else F0 132 i) := funext fun i => by
      rw [xup_o (by decide), h1 i, show (k : Int) = 163 by omega]
    refine s151_100 hP ⟨⟨by omega, by omega⟩, fun _ => ⟨2, hd, mNow_begin (xPT_131 (k := 12) hP (by decide)) (by omega) (by rw [e]; exact hT) fun G hG k1 n1 _ => q G hG (fun p i h => ?_) (fun i h0 h1 h2 h3 h4 h5 => ?_) ?_ (k1.t.trans e) n1⟩, fun c => absurd (by omega) c⟩
    · rw [k1.1 p i (by omega), xup_n (by omega), hK p i (by omega)]
    · rw [k1.2 i h0 h2 h3 h4 h5, xup_n (by omega), hK 131 i (by decide)]
    · rw [k1.2 12 (by decide) (by decide) (by decide) (by decide) (by decide), xup_s]
  | succ f ih =>
    intro k F hP hk hK h1
    refine s151_100 hP ⟨⟨by omega, by omega⟩, fun c => absurd c (by omega), fun _ => ⟨⟨by omega, by omega⟩, ⟨by omega, by omega⟩, fun hG => ih (k + 1) _ hG (by omega) (fun p i h => by rw [xup_o h]; exact hK p i h) fun i => ?_⟩⟩
    by_cases hi : i = k
    · rw [hi, xup_s, if_pos (by omega), hK 133 _ (by decide)]
    · rw [xup_i hi, h1 i]
      by_cases hq : 0 ≤ i ∧ i < (k : Int)
      · rw [if_pos hq, if_pos (by omega)]
      · rw [if_neg hq, if_neg (by omega)]
/-- outside the 163 places -/
def rTo (F : XF) (T : Int → Int) : Int → Int := fun i => if 0 ≤ i ∧ i < 163 then T i else F 132 i
/-- tell: what the text leaves -/
theorem p151 {U : Int → Int} {N : Int} {Q : Int → XF → Prop} (hP : xPT F) (hd : 12 < d) (hN : inR N) (h4 : 0 ≤ F 131 4 ∧ F 131 4 ≤ 600) (hb : ∀ i, 0 ≤ i → i < F 131 4 → (-128 ≤ F 134 i ∧ F 134 i ≤ 127) ∧ U i = (if F 134 i < 0 then F 134 i + 256 else F 134 i)) (hS : mSA (F 132 5).toNat F) (q0 : ¬ (0 ≤ N ∧ N ≤ F 131 4) → mQ F Q (-3)) (q1 : (0 ≤ N ∧ N ≤ F 131 4) → ∀ z, rTold U N (F 133) = .error z → ∀ G, xPT G → (∀ p i, ¬ p = 133 → ¬ (p = 131 ∧ (i = 0 ∨ (4 ≤ i ∧ i ≤ 10))) → G p i = F p i) → G 131 4 = 0 → G 131 7 = z.1 → G 131 8 = z.2 → 1 ≤ z.1 → z.1 ≤ 3 → Q (-30 - z.1) G) (q2 : (0 ≤ N ∧ N ≤ F 131 4) → ∀ a, rTold U N (F 133) = .ok a → mT (rTo F a.1) → a.1 7 ≤ 6 → ∀ G, xPT G → (∀ p i, (p < 131 ∨ p = 134 ∨ p = 135 ∨ 141 < p) → G p i = F p i) → (∀ i, ¬ i = 0 → ¬ (4 ≤ i ∧ i ≤ 10) → ¬ i = 12 → ¬ i = 17 → ¬ i = 20 → ¬ i = 21 → ¬ i = 22 → G 131 i = F 131 i) → G 131 4 = 0 → G 131 7 = 0 → G 131 8 = -1 → G 131 12 = 0 → G 132 = rTo F a.1 → mNow G 0 → Q a.2 G) : xMI X d 151 [.ref 131, vi N] F Q := by
  have e4 : xup F 131 0 0 131 4 = F 131 4 := xup_i (by decide)
  refine m151 hP ⟨hN, ⟨by omega, by omega⟩, 12, hd, p132 (h0P hP) ⟨⟨by omega, by omega⟩, ⟨by omega, by omega⟩, ⟨by omega, by omega⟩⟩ fun y hy => ⟨hy.r, fun c => ?_, fun c hG => (q0 (hy.f (by omega))).z hS hG⟩⟩
  have g := hy.t c
  have hP1 : xPT (xup (xup (xup (xup (xup (xup (xup F 131 0 0) 131 4 0) 131 5 N) 131 6 0) 131 7 0) 131 8 (-1)) 131 9 0) := xPT_131 (k := 9) (xPT_131 (k := 8) (xPT_131 (k := 7) (xPT_131 (k := 6) (xPT_131 (k := 5) (xPT_131 (k := 4) (h0P hP) (by decide)) (by decide)) (by decide)) (by decide)) (by decide)) (by decide)
  have oth : ∀ p i, ¬ (p = 131 ∧ (i = 0 ∨ (4 ≤ i ∧ i ≤ 9))) → (xup (xup (xup (xup (xup (xup (xup F 131 0 0) 131 4 0) 131 5 N) 131 6 0) 131 7 0) 131 8 (-1)) 131 9 0) p i = F p i := fun p i h => by
    rw [xup_n (by omega), xup_n (by omega), xup_n (by omega), xup_n (by omega), xup_n (by omega), xup_n (by omega), xup_n (by omega)]
  refine ⟨12, hd, p134 hP1 fun G hG k1 e1 _ => ?_⟩
  have e133 : G 133 = rT0 (F 133) := by
    rw [e1]
    congr 1
  have g4 : G 131 4 = 0 := by rw [k1 131 4 (by decide), xup_i (by omega), xup_i (by omega), xup_i (by omega), xup_i (by omega), xup_i (by omega), xup_s]
  have g5 : G 131 5 = N := by rw [k1 131 5 (by decide), xup_i (by omega), xup_i (by omega), xup_i (by omega), xup_i (by omega), xup_s]
  have g6 : G 131 6 = 0 := by rw [k1 131 6 (by decide), xup_i (by omega), xup_i (by omega), xup_i (by omega), xup_s]
  have g7 : G 131 7 = 0 := by rw [k1 131 7 (by decide), xup_i (by omega), xup_i (by omega), xup_s]
  have g8 : G 131 8 = -1 := by rw [k1 131 8 (by decide), xup_i (by omega), xup_s]
  have g9 : G 131 9 = 0 := by rw [k1 131 9 (by decide), xup_s]
  have gT : rTp U N G := ⟨g5, by omega, fun i a b => by rw [k1 134 i (by decide), oth 134 i (by omega)]; exact hb i a (by omega)⟩
  have gK : ∀ p i, ¬ p = 133 → ¬ (p = 131 ∧ (i = 0 ∨ (4 ≤ i ∧ i ≤ 9))) → G p i = F p i := fun p i h1 h2 => by rw [k1 p i h1, oth p i h2]
  refine l151 (U := U) (n := N) (by omega) G (rTold U N (F 133)) (by omega) (fun H l w hH kH hl qe qo => ?_) (N.toNat + 1) 0 0 (rT0 (F 133)) (fun _ => 0) G _ hG gT (fun _ _ _ _ => rfl) e133 rT0_in ⟨g7, g8, g6, by omega, by omega⟩ ?_ (by omega) (by omega) (by omega) rfl
  · cases hr : rTold U N (F 133) with
    | error z =>
      obtain ⟨z7, z8, z1, z3⟩ := qe z hr
      refine s151_83 hH ⟨by rw [z7]; constructor <;> omega, fun c => absurd c (by omega), fun _ _ => ?_⟩
      rw [z7]
      exact q1 g z hr H hH (fun p i h1 h2 => by rw [kH p i h1 (by omega), gK p i h1 (by omega)]) (by rw [kH 131 4 (by decide) (by omega)]; exact g4) z7 z8 z1 z3
    | ok a =>
      obtain ⟨a7, a8, ar, am, a6, al⟩ := qo a hr
      have eF : (fun i => if 0 ≤ i ∧ i < 163 then H 133 i else H 132 i) = rTo F a.1 := funext fun i => by
        unfold rTo
        rw [ar]
        by_cases hi : 0 ≤ i ∧ i < 163
        · rw [if_pos hi, if_pos hi]
        · rw [if_neg hi, if_neg hi, kH 132 i (by decide) (by omega), gK 132 i (by decide) (by omega)]
      have mm : mT (rTo F a.1) := by
        have ei : ∀ i, 0 ≤ i → i < 163 → rTo F a.1 i = a.1 i := fun i x y => by unfold rTo; rw [if_pos ⟨x, y⟩]
        have h5 := am.2.2.2.2.2.1
        have h7 := am.2.2.2.2.2.2.2.1
        refine am.chg (fun i hi => ei i (by omega) (by omega)) (by rw [ei 1 (by omega) (by omega)]; exact am.2.1) (by rw [ei 3 (by omega) (by omega)]; exact am.2.2.2.1) (by rw [ei 7 (by omega) (by omega)]; exact h7) (fun c x y => by rw [ei _ (by omega) (by omega)]; exact am.2.2.2.2.2.2.2.2.2.2.2.1 c x y) (fun k x y => ?_)
        rw [ei 7 (by omega) (by omega)] at y
        exact (am.bk k x y).of (ei 5 (by omega) (by omega)) (fun j u v => ei _ (by omega) (by omega))
      refine s151_83 hH ⟨by rw [a7]; constructor <;> omega, fun _ _ => ?_, fun c => absurd a7 c⟩
      refine l151c (T := a.1) (by omega) H (by rw [eF]; exact mm) (fun K hK k2 k3 k12 kt kn => ?_) 163 0 H hH (by omega) (fun _ _ _ => rfl) (fun i => by rw [if_neg (by omega)])
      rw [al]
      refine q2 g a hr mm a6 K hK (fun p i h => ?_) (fun i h0 h1 h2 h3 h4 h5 h6 => ?_) ?_ ?_ ?_ k12 (kt.trans eF) kn
      · rw [k2 p i (by omega), kH p i (by omega) (by omega), gK p i (by omega) (by omega)]
      · rw [k3 i h0 h2 h3 h4 h5 h6, kH 131 i (by decide) (by omega), gK 131 i (by decide) (by omega)]
      · rw [k3 4 (by decide) (by decide) (by decide) (by decide) (by decide) (by decide), kH 131 4 (by decide) (by omega)]; exact g4
      · rw [k3 7 (by decide) (by decide) (by decide) (by decide) (by decide) (by decide)]; exact a7
      · rw [k3 8 (by decide) (by decide) (by decide) (by decide) (by decide) (by decide)]; exact a8
  · rw [g9]
    exact ⟨by omega, fun j hj => by rw [mbit_0]; rfl, rfl⟩
noncomputable def aFault (w c k : Int) : Int := if w = 0 then c else if w = 1 then k else -1
theorem p152 {w : Int} {Q : Int → XF → Prop} (hP : xPT F) (hS : mSA (F 132 5).toNat F) (hw : inR w) (q : mQ F Q (aFault w (F 131 7) (F 131 8))) : xMI X d 152 [.ref 131, vi w] F Q := by
  unfold aFault at q
  refine m152 hP ⟨hw, fun c => ⟨hw, fun c1 hG => ?_, fun c1 hG => ?_⟩, fun c hG => ?_⟩
  · rw [if_neg c, if_neg c1] at q; exact q.z hS hG
  · rw [if_neg c, if_pos (by omega)] at q; exact q.z hS hG
  · rw [if_pos (by omega)] at q; exact q.z hS hG
/-- the k-th of twenty bytes -/
def fB (a b c d e k : Int) : Int := xbyte (xbyte (xshr (if k < 4 then a else if k < 8 then b else if k < 12 then c else if k < 16 then d else e) (24 - 8 * (k % 4))))
theorem l135 {a b c e g : Int} {Q : Int → XF → Prop} (F0 : XF) (h4 : 0 ≤ F0 131 4 ∧ F0 131 4 + 20 ≤ 600) (q : ∀ G, xPT G → (∀ p i, ¬ p = 134 → ¬ (p = 131 ∧ i = 4) → G p i = F0 p i) → (∀ i, ¬ (F0 131 4 ≤ i ∧ i < F0 131 4 + 20) → G 134 i = F0 134 i) → G 131 4 = F0 131 4 + 20 → (∀ k, 0 ≤ k → k < 20 → G 134 (F0 131 4 + k) = fB a b c e g k) → Q (F0 131 4 + 20) G) : ∀ (f k : Nat) (F : XF) (w : Value), xPT F → k + f = 20 → F 131 4 = F0 131 4 + k → (∀ p i, ¬ p = 134 → ¬ (p = 131 ∧ i = 4) → F p i = F0 p i) → (∀ i, ¬ (F0 131 4 ≤ i ∧ i < F0 131 4 + 20) → F 134 i = F0 134 i) → (∀ j : Int, 0 ≤ j → j < k → F 134 (F0 131 4 + j) = fB a b c e g j) → xW X d 135 24 [.ref 131, vi a, vi b, vi c, vi e, vi g, vi k, w] [] F (xqi Q) := by
  intro f
  induction f with
  | zero =>
    intro k F w hP hk h hK hO hB
    have e1 : F 131 4 = F0 131 4 + 20 := by omega
    refine s135_24 hP ⟨⟨by omega, by omega⟩, fun _ _ => ?_, fun c => absurd (by omega) c⟩
    have := q F hP hK hO e1 (fun j x y => hB j x (by omega))
    rw [e1]
    exact this
  | succ f ih =>
    intro k F w hP hk h hK hO hB
    have go : ∀ v w, v = (if (k : Int) < 4 then a else if (k : Int) < 8 then b else if (k : Int) < 12 then c else if (k : Int) < 16 then e else g) → xPT (xup (xup F 134 (F 131 4) (xbyte (xbyte (xshr v (24 - 8 * ((k : Int) % 4)))))) 131 4 (F 131 4 + 1)) → xW X d 135 24 [.ref 131, vi a, vi b, vi c, vi e, vi g, vi ((k : Int) + 1), w] [] (xup (xup F 134 (F 131 4) (xbyte (xbyte (xshr v (24 - 8 * ((k : Int) % 4)))))) 131 4 (F 131 4 + 1)) (xqi Q) := fun v w hv hG => by
      refine ih (k + 1) _ w hG (by omega) (by rw [xup_s, h]; omega) (fun p i x y => by rw [xup_n (by omega), xup_o x]; exact hK p i x y) (fun i x => by rw [xup_o (by decide), xup_i (by omega)]; exact hO i x) (fun j x y => ?_)
      rw [xup_o (by decide)]
      by_cases hj : j = k
      · rw [hj, ← h, xup_s]
        unfold fB
        rw [← hv]
      · rw [xup_i (by omega)]
        exact hB j x (by omega)
    refine s135_24 hP ⟨⟨by omega, by omega⟩, fun c => absurd c (by omega), fun _ => ⟨⟨by omega, by omega⟩, fun c4 => ⟨⟨by omega, by omega⟩, fun c8 => ⟨⟨by omega, by omega⟩, fun c12 => ⟨⟨by omega, by omega⟩, fun c16 => ⟨⟨by omega, by omega⟩, ⟨by omega, by omega⟩, ⟨by omega, by omega⟩, fun hG => go g _ (by rw [if_neg (by omega), if_neg (by omega), if_neg (by omega), if_neg (by omega)]) hG⟩, fun c16 => ⟨⟨by omega, by omega⟩, ⟨by omega, by omega⟩, ⟨by omega, by omega⟩, fun hG => go e _ (by rw [if_neg (by omega), if_neg (by omega), if_neg (by omega), if_pos (by omega)]) hG⟩⟩, fun c12 => ⟨⟨by omega, by omega⟩, ⟨by omega, by omega⟩, ⟨by omega, by omega⟩, fun hG => go c _ (by rw [if_neg (by omega), if_neg (by omega), if_pos (by omega)]) hG⟩⟩, fun c8 => ⟨⟨by omega, by omega⟩, ⟨by omega, by omega⟩, ⟨by omega, by omega⟩, fun hG => go b _ (by rw [if_neg (by omega), if_pos (by omega)]) hG⟩⟩, fun c4 => ⟨⟨by omega, by omega⟩, ⟨by omega, by omega⟩, ⟨by omega, by omega⟩, fun hG => go a _ (by rw [if_pos (by omega)]) hG⟩⟩⟩
theorem p135 {a b c e g : Int} {Q : Int → XF → Prop} (hP : xPT F) (h4 : 0 ≤ F 131 4 ∧ F 131 4 ≤ 600) (hS : mSA (F 132 5).toNat F) (q0 : 600 < F 131 4 + 20 → mQ F Q (-4)) (q1 : F 131 4 + 20 ≤ 600 → ∀ G, xPT G → (∀ p i, ¬ p = 134 → ¬ (p = 131 ∧ (i = 4 ∨ i = 0)) → G p i = F p i) → (∀ i, ¬ (F 131 4 ≤ i ∧ i < F 131 4 + 20) → G 134 i = F 134 i) → G 131 4 = F 131 4 + 20 → (∀ k, 0 ≤ k → k < 20 → G 134 (F 131 4 + k) = fB a b c e g k) → Q (F 131 4 + 20) G) : xMI X d 135 [.ref 131, vi a, vi b, vi c, vi e, vi g] F Q := by
  have e4 : xup F 131 0 0 131 4 = F 131 4 := xup_i (by decide)
  refine m135 hP ⟨⟨by omega, by omega⟩, fun c hG => ?_, fun c hG => (q0 (by omega)).z hS hG⟩
  refine l135 (xup F 131 0 0) (by rw [e4]; omega) (fun G hG k1 k2 k3 k4 => ?_) 20 0 _ _ hG (by omega) (by omega) (fun _ _ _ _ => rfl) (fun _ _ => rfl) (fun j x y => by omega)
  rw [e4] at k2 k3 k4 ⊢
  exact q1 (by omega) G hG (fun p i x y => by rw [k1 p i x (by omega), xup_n (by omega)]) (fun i x => by rw [k2 i x, xup_o (by decide)]) k3 k4
end RD9
