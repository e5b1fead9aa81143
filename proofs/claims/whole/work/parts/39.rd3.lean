section RD3
variable {X : List Int32} {d : Nat} {F : XF}
/-- how far the reading is: at p, or a fault -/
def rSt (n : Int) (F : XF) (x : RR Int) : Prop := match x with
  | .ok p => F 131 7 = 0 ∧ F 131 8 = -1 ∧ F 131 6 = p ∧ 0 ≤ p ∧ p ≤ n
  | .error z => F 131 7 = z.1 ∧ F 131 8 = z.2 ∧ 1 ≤ z.1 ∧ z.1 ≤ 3
theorem rSt.of {n : Int} {G : XF} {x : RR Int} (h : rSt n F x) (e : ∀ i, (i = 6 ∨ i = 7 ∨ i = 8) → G 131 i = F 131 i) : rSt n G x := by
  unfold rSt at *
  rw [e 6 (by omega), e 7 (by omega), e 8 (by omega)]
  exact h
/-- behind a word -/
def rP (x : RR Int) (f : Int → RR (Int × Int)) : RR Int := rB x fun p => rB (f p) fun a => .ok a.2
/-- the number that came, else the least -/
def rY (lo : Int) (x : RR Int) (f : Int → RR (Int × Int)) : Int := match x with
  | .ok p => match f p with
    | .ok a => a.1
    | .error _ => lo
  | .error _ => lo
theorem rKy_i : ∀ j, j < 18 → ∀ i, i < 18 → ¬ i = j → strL (rKy.getD i 0) = strL (rKy.getD j 0) → ∃ m, m < strL (rKy.getD i 0) ∧ ¬ strB (rKy.getD i 0) (m : Int) = strB (rKy.getD j 0) (m : Int) := by decide +kernel
theorem rIs_u {U : Int → Int} {k e : Int} {i j : Nat} (hi : i < 18) (hj : j < 18) (a : rIs U k e (rKy.getD i 0)) (b : rIs U k e (rKy.getD j 0)) : i = j := by
  apply Classical.byContradiction
  intro h
  have hl : strL (rKy.getD i 0) = strL (rKy.getD j 0) := by have := a.1; have := b.1; omega
  obtain ⟨m, h1, h2⟩ := rKy_i j hj i hi h hl
  have h3 := a.2 m h1
  have h4 := b.2 m (by omega)
  exact h2 (h3.trans h4.symm)
theorem rKey_i {U : Int → Int} {k e : Int} {j : Nat} (hj : j < 18) : rKey U k e = j ↔ rIs U k e (rKy.getD j 0) := by
  constructor
  · intro h
    rcases rKey_p (U := U) (k := k) (e := e) with g | g
    · omega
    · have := g.2.2.1
      dsimp only at this
      rw [h, Int.toNat_natCast] at this
      exact this
  · intro h
    rcases rKey_p (U := U) (k := k) (e := e) with g | g
    · exact absurd (by dsimp only; rw [Int.toNat_natCast]; exact h) (g.2 j (by omega) (by omega))
    · have := rIs_u (by omega) hj g.2.2.1 h
      omega
theorem rKey_b {U : Int → Int} {k e : Int} : -1 ≤ rKey U k e ∧ rKey U k e < 18 := by
  rcases rKey_p (U := U) (k := k) (e := e) with g | g <;> omega
theorem p142 {U : Int → Int} {n : Int} {j : Nat} {x : RR Int} {Q : XF → Prop} (hP : xPT F) (hd : 5 < d) (hT : rTp U n F) (hj : j < 18) (h : rSt n F x) (q : ∀ G, xPT G → mKw F G → G 131 10 = F 131 10 → rSt n G (rB x (rWrd U n (rKy.getD j 0))) → Q G) : xMV X d 142 [.ref 131, vi j] F Q := by
  have hN := hT.2.1
  cases x with
  | error z =>
    obtain ⟨h1, h2, h3⟩ := h
    exact m142 hP ⟨by rw [h1]; constructor <;> omega, fun c => absurd c (by omega), fun _ hG => q F hG mKw.refl rfl ⟨h1, h2, h3⟩⟩
  | ok p =>
    obtain ⟨h1, h2, h3, h4, h5⟩ := h
    have hk := rE_p (c := cBl U) (n := n) (p := p)
    have hk2 := hk.2.1 h5
    have he := rE_p (c := cLe U) (n := n) (p := rE (cBl U) n p)
    refine m142 hP ⟨by rw [h1]; constructor <;> omega, fun _ => ⟨5, hd, p140 hP (by omega) hT h1 h3 ⟨h4, h5⟩ fun G hG k1 e1 => ?_⟩, fun c => absurd h1 c⟩
    have hT1 : rTp U n G := hT.of fun a i h => k1 a i (by omega)
    have kb := rKey_b (U := U) (k := rE (cBl U) n p) (e := rE (cLe U) n (rE (cBl U) n p))
    have kw : mKw F G := fun a i h => k1 a i (by omega)
    refine ⟨⟨by omega, by omega⟩, ⟨by omega, by omega⟩, fun c => ⟨5, hd, p137 hG (by rw [k1 131 7 (by omega)]; exact h1) fun H hH kH a7 a8 a6 a10 _ => q H hH (kw.trans kH) (by rw [a10, k1 131 10 (by omega)]) ?_⟩, fun c => ⟨5, hd, p141 hG (by omega) hT1 e1 ⟨by omega, hk2⟩ fun H hH kH a6 _ => q H hH (kw.trans fun a i h => kH a i (by omega)) (by rw [kH 131 10 (by omega), k1 131 10 (by omega)]) ?_⟩⟩
    · show rSt n H (rWrd U n (rKy.getD j 0) p)
      unfold rWrd
      rw [if_neg (by rw [mV_f (fun h => c ((rKey_i hj).mpr h))]; decide)]
      exact ⟨a7, by rw [a8, e1], show (1 : Int) ≤ 1 by omega, show (1 : Int) ≤ 3 by omega⟩
    · show rSt n H (rWrd U n (rKy.getD j 0) p)
      have c' : rKey U (rE (cBl U) n p) (rE (cLe U) n (rE (cBl U) n p)) = j := by omega
      unfold rWrd
      rw [if_pos (mV_t ((rKey_i hj).mp c'))]
      exact ⟨by rw [kH 131 7 (by omega), k1 131 7 (by omega)]; exact h1, by rw [kH 131 8 (by omega), k1 131 8 (by omega)]; exact h2, a6, by omega, he.2.1 hk2⟩
theorem l143 {U : Int → Int} {n lo hi k : Int} {Q : Int → XF → Prop} (hd : 1 < d) (F0 : XF) (hT : rTp U n F0) (hk : 0 ≤ k ∧ k ≤ n) (q : ∀ G, xPT G → (∀ a i, ¬ (a = 131 ∧ i = 6) → G a i = F0 a i) → G 131 6 = rE (cDi U) n k → xW X d 143 110 [.ref 131, vi lo, vi hi, vi (rV U k (rE (cDi U) n k - k).toNat)] [] G (xqi Q)) (h10 : F0 131 10 = k) : ∀ (f m : Nat) (F : XF), xPT F → k + m + f = n → (∀ a i, ¬ (a = 131 ∧ i = 6) → F a i = F0 a i) → F 131 6 = k + m → rE (cDi U) n k = rE (cDi U) n (k + m) → xW X d 143 40 [.ref 131, vi lo, vi hi, vi (rV U k m)] [] F (xqi Q) := by
  have hN := hT.2.1
  have stop : ∀ (m : Nat) (F : XF), xPT F → (∀ a i, ¬ (a = 131 ∧ i = 6) → F a i = F0 a i) → F 131 6 = k + m → rE (cDi U) n k = k + m → xW X d 143 110 [.ref 131, vi lo, vi hi, vi (rV U k m)] [] F (xqi Q) := fun m F hP hK hp he => by
    have := q F hP hK (by rw [hp, he])
    rw [he, show (k + (m : Int) - k).toNat = m by omega] at this
    exact this
  intro f
  induction f with
  | zero =>
    intro m F hP hm hK hp he
    have e5 : F 131 5 = n := by rw [hK 131 5 (by omega)]; exact hT.1
    exact s143_40 hP ⟨by rw [hp]; constructor <;> omega, by rw [e5]; constructor <;> omega, fun _ _ => stop m F hP hK hp (by rw [he, rE_0 (by omega)]), fun c => absurd (by omega) c⟩
  | succ f ih =>
    intro m F hP hm hK hp he
    have e5 : F 131 5 = n := by rw [hK 131 5 (by omega)]; exact hT.1
    have t := hT.2.2 (k + m) (by omega) (by omega)
    have e4 : F 134 (k + m) = F0 134 (k + m) := hK 134 _ (by omega)
    have e10 : F 131 10 = k := by rw [hK 131 10 (by omega)]; exact h10
    refine s143_40 hP ⟨by rw [hp]; constructor <;> omega, by rw [e5]; constructor <;> omega, fun c => absurd c (by omega), fun _ => ?_⟩
    rw [hp, e4]
    refine ⟨⟨by omega, by omega⟩, 1, hd, p139 hP (by omega) ⟨by omega, by omega⟩ fun y hy => ⟨hy.r, fun c _ => stop m F hP hK hp ?_, fun c => ?_⟩⟩
    · have := hy.f c
      rw [hT.di (by omega) (by omega)] at this
      rw [he, rE_0 (fun h => this h.2)]
    · have g := hy.t c
      have g2 := (hT.di (by omega) (by omega)).mp g
      have nx : ∀ G, xPT G → G = xup F 131 6 (k + m + 1) → xW X d 143 40 [.ref 131, vi lo, vi hi, vi (rV U k (m + 1))] [] G (xqi Q) := fun G hG eG => by
        subst eG
        refine ih (m + 1) _ hG (by omega) (fun a i h => by rw [xup_n h]; exact hK a i h) (by rw [xup_s]; omega) ?_
        rw [he, rE_1 ⟨by omega, g2⟩]
        congr 1
        omega
      rw [hp, e10]
      refine ⟨⟨by omega, by omega⟩, fun c2 hG => ?_, fun c2 => ⟨⟨by omega, by omega⟩, fun hG => ?_⟩⟩
      · have := nx _ hG rfl
        rw [rV, if_neg (by omega)] at this
        exact this
      · have := nx _ hG rfl
        rw [rV, if_pos (by omega), t.2, if_neg (by omega)] at this
        rw [e4]
        exact this
def rVal (lo : Int) (a : RR (Int × Int)) : Int := match a with
  | .ok b => b.1
  | .error _ => lo
def rOkN (k : Int) (G : XF) (a : RR (Int × Int)) : Prop := match a with
  | .ok b => G 131 7 = 0 ∧ G 131 8 = -1 ∧ G 131 6 = b.2 ∧ G 131 10 = k
  | .error z => G 131 7 = z.1 ∧ G 131 8 = z.2 ∧ 1 ≤ z.1 ∧ z.1 ≤ 3
theorem p143 {U : Int → Int} {n lo hi : Int} {x : RR Int} {Q : Int → XF → Prop} (hP : xPT F) (hd : 2 < d) (hT : rTp U n F) (hlo : inR lo) (hhi : inR hi) (h : rSt n F x) (q : ∀ G, xPT G → mKw F G → rSt n G (rP x (rNum U n lo hi)) → (∀ p, x = .ok p → rSt n G (rP x (rNum U n lo hi)) → G 131 7 = 0 → G 131 10 = rE (cBl U) n p) → Q (rY lo x (rNum U n lo hi)) G) : xMI X d 143 [.ref 131, vi lo, vi hi] F Q := by
  have hN := hT.2.1
  cases x with
  | error z =>
    obtain ⟨h1, h2, h3⟩ := h
    exact m143 hP ⟨by rw [h1]; constructor <;> omega, fun c => absurd c (by omega), fun _ hG => q F hG mKw.refl ⟨h1, h2, h3⟩ (fun p hp => by cases hp)⟩
  | ok p =>
    obtain ⟨h1, h2, h3, h4, h5⟩ := h
    have hk := rE_p (c := cBl U) (n := n) (p := p)
    have hk2 := hk.2.1 h5
    have he := rE_p (c := cDi U) (n := n) (p := rE (cBl U) n p)
    have ub : -1 ≤ (if rE (cBl U) n p < n then U (rE (cBl U) n p) else -1) ∧ (if rE (cBl U) n p < n then U (rE (cBl U) n p) else -1) ≤ 255 := by
      split
      · next h =>
        have := hT.2.2 (rE (cBl U) n p) (by omega) h
        rw [this.2]
        split <;> omega
      · omega
    have fin : ∀ (G : XF) (a : RR (Int × Int)), rNum U n lo hi p = a → xPT G → mKw F G → rOkN (rE (cBl U) n p) G a → Q (rVal lo a) G := fun G a ha hG kG hs => by
      have qq := q G hG kG
      have e1 : rP (.ok p) (rNum U n lo hi) = rB a fun b => .ok b.2 := by
        show rB (rNum U n lo hi p) _ = _
        rw [ha]
      have e2 : rY lo (.ok p) (rNum U n lo hi) = rVal lo a := by
        show rVal lo (rNum U n lo hi p) = _
        rw [ha]
      rw [e1, e2] at qq
      cases a with
      | error z => exact qq hs (fun p' hp hs' h7 => absurd h7 (by obtain ⟨g1, g2, g3, g4⟩ := hs; omega))
      | ok b =>
        have bp := rNum_p h5 ha
        exact qq ⟨hs.1, hs.2.1, hs.2.2.1, by omega, by omega⟩ (fun p' hp hs' h7 => by cases hp; exact hs.2.2.2)
    refine m143 hP ⟨by rw [h1]; constructor <;> omega, fun _ => ⟨2, hd, p136 hP hT h3 ⟨h4, h5⟩ fun G hG k1 e1 => ⟨2, hd, p139 hG (by omega) ⟨by omega, by omega⟩ fun y hy => ⟨hy.r, fun c hH => ?_, fun c => ?_⟩⟩⟩, fun c => absurd h1 c⟩
    · have g := hy.t c
      have gk : rE (cBl U) n p < n ∧ cDi U (rE (cBl U) n p) = true := by
        by_cases hq : rE (cBl U) n p < n
        · rw [if_pos hq] at g
          exact ⟨hq, by unfold cDi; simp only [decide_eq_true_eq]; exact g⟩
        · rw [if_neg hq] at g; omega
      have kw : mKw F (xup G 131 10 (G 131 6)) := (show mKw F G from fun a i h => k1 a i (by omega)).up (by omega)
      have hT1 : rTp U n (xup G 131 10 (G 131 6)) := kw.tp hT
      have hr : rNum U n lo hi p = (if 4 < rE (cDi U) n (rE (cBl U) n p) - rE (cBl U) n p ∨ ¬ (lo ≤ rV U (rE (cBl U) n p) (rE (cDi U) n (rE (cBl U) n p) - rE (cBl U) n p).toNat ∧ rV U (rE (cBl U) n p) (rE (cDi U) n (rE (cBl U) n p) - rE (cBl U) n p).toNat ≤ hi) then .error (2, rE (cBl U) n p) else .ok (rV U (rE (cBl U) n p) (rE (cDi U) n (rE (cBl U) n p) - rE (cBl U) n p).toNat, rE (cDi U) n (rE (cBl U) n p))) := by
        unfold rNum
        rw [if_pos gk]
      have vb := rV_b (U := U) (k := rE (cBl U) n p) (m := (rE (cDi U) n (rE (cBl U) n p) - rE (cBl U) n p).toNat) (fun i hi => by
        have := he.2.2.1 (rE (cBl U) n p + i) (by omega) (by omega)
        unfold cDi at this
        simpa using this)
      have he2 := he.2.1 hk2
      refine l143 (k := rE (cBl U) n p) (by omega) (xup G 131 10 (G 131 6)) hT1 ⟨by omega, hk2⟩ (fun H hH' kH a6 => ?_) (by rw [xup_s]; exact e1) (n - rE (cBl U) n p).toNat 0 _ hH (by omega) (fun _ _ _ => rfl) (by rw [xup_i (by omega), e1]; omega) (by congr 1; omega)
      have h7' : H 131 7 = 0 := by rw [kH 131 7 (by omega), xup_i (by omega), k1 131 7 (by omega)]; exact h1
      have h8' : H 131 8 = -1 := by rw [kH 131 8 (by omega), xup_i (by omega), k1 131 8 (by omega)]; exact h2
      have h10' : H 131 10 = rE (cBl U) n p := by rw [kH 131 10 (by omega), xup_s, e1]
      have kwH : mKw F H := kw.trans fun a i h => kH a i (by omega)
      have bad : (4 < rE (cDi U) n (rE (cBl U) n p) - rE (cBl U) n p ∨ ¬ (lo ≤ rV U (rE (cBl U) n p) (rE (cDi U) n (rE (cBl U) n p) - rE (cBl U) n p).toNat ∧ rV U (rE (cBl U) n p) (rE (cDi U) n (rE (cBl U) n p) - rE (cBl U) n p).toNat ≤ hi)) → xW X d 143 135 [.ref 131, vi lo, vi hi, vi (rV U (rE (cBl U) n p) (rE (cDi U) n (rE (cBl U) n p) - rE (cBl U) n p).toNat)] [] H (xqi Q) := fun hb => by
        refine s143_135 hH' ⟨2, hd, p137 hH' h7' fun K hK kK b7 b8 _ _ => ⟨by rw [b7]; constructor <;> omega, fun _ _ => ?_, fun c => absurd (by rw [b7]; decide) c⟩⟩
        rw [if_pos hb] at hr
        exact fin K _ hr hK (kwH.trans kK) ⟨b7, by rw [b8]; exact h10', show (1 : Int) ≤ 2 by omega, show (2 : Int) ≤ 3 by omega⟩
      refine s143_110 hH' ⟨by rw [a6, h10']; constructor <;> omega, fun c4 _ => bad (Or.inl (by rw [a6, h10'] at c4; exact c4)), fun c4 => ⟨⟨by omega, by omega⟩, hlo, hhi, 2, hd, p132 hH' ⟨⟨by omega, by omega⟩, ⟨by omega, by omega⟩, ⟨by omega, by omega⟩⟩ fun y2 hy2 => ⟨hy2.r, fun c5 => ⟨by rw [h7']; constructor <;> omega, fun c6 => absurd h7' c6, fun _ _ => ?_⟩, fun c5 _ => bad (Or.inr (hy2.f (by omega)))⟩⟩⟩
      rw [a6, h10'] at c4
      rw [if_neg (by rintro (h | h); exact c4 h; exact h (hy2.t c5))] at hr
      exact fin H _ hr hH' kwH ⟨h7', h8', a6, h10'⟩
    · have g := hy.f (by omega)
      have gk : ¬ (rE (cBl U) n p < n ∧ cDi U (rE (cBl U) n p) = true) := fun h => by
        rw [if_pos h.1] at g
        have h2 := h.2
        unfold cDi at h2
        simp only [decide_eq_true_eq] at h2
        exact g h2
      have hr : rNum U n lo hi p = .error (1, rE (cBl U) n p) := by unfold rNum; rw [if_neg gk]
      refine ⟨2, hd, p137 hG (by rw [k1 131 7 (by omega)]; exact h1) fun K hK kK b7 b8 _ _ _ => ?_⟩
      exact fin K _ hr hK ((show mKw F G from fun a i h => k1 a i (by omega)).trans kK) ⟨b7, by rw [b8]; exact e1, show (1 : Int) ≤ 1 by omega, show (1 : Int) ≤ 3 by omega⟩
theorem p144 {U : Int → Int} {n lo hi : Int} {j : Nat} {x : RR Int} {Q : Int → XF → Prop} (hP : xPT F) (hd : 6 < d) (hT : rTp U n F) (hj : j < 18) (hlo : inR lo) (hhi : inR hi) (h : rSt n F x) (q : ∀ G, xPT G → mKw F G → rSt n G (rP (rB x (rWrd U n (rKy.getD j 0))) (rNum U n lo hi)) → Q (rY lo (rB x (rWrd U n (rKy.getD j 0))) (rNum U n lo hi)) G) : xMI X d 144 [.ref 131, vi j, vi lo, vi hi] F Q :=
  m144 hP ⟨6, hd, p142 hP (by omega) hT hj h fun G hG k1 _ s1 => ⟨6, hd, p143 hG (by omega) (k1.tp hT) hlo hhi s1 fun H hH k2 s2 _ _ => q H hH (k1.trans k2) s2⟩⟩
theorem rY_b {U : Int → Int} {n lo hi : Int} {x : RR Int} (hx : ∀ p, x = .ok p → p ≤ n) : rY lo x (rNum U n lo hi) = lo ∨ (lo ≤ rY lo x (rNum U n lo hi) ∧ rY lo x (rNum U n lo hi) ≤ hi ∧ 0 ≤ rY lo x (rNum U n lo hi) ∧ rY lo x (rNum U n lo hi) ≤ 9999) := by
  unfold rY
  cases x with
  | error z => left; rfl
  | ok p =>
    dsimp only
    cases hr : rNum U n lo hi p with
    | error z => left; rfl
    | ok a =>
      right
      have := rNum_p (hx p rfl) hr
      dsimp only
      omega
theorem rSt_x {n : Int} {x : RR Int} (h : rSt n F x) : ∀ p, x = .ok p → p ≤ n := fun p hp => by
  subst hp
  exact h.2.2.2.2
end RD3
