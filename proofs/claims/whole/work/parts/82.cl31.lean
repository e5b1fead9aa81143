section CL31
variable {X : List Int32} {d : Nat} {F : XF}
/-! the class's tokens -/
/-- the tape, as the class has it -/
def cTp (U : Int → Int) (n : Int) (F : XF) : Prop := F 18 6 = n ∧ (0 ≤ n ∧ n ≤ 600) ∧ ∀ i, 0 ≤ i → i < n → (0 ≤ U i ∧ U i ≤ 255) ∧ F 19 i = U i
theorem cTp.of {U : Int → Int} {n : Int} {G : XF} (h : cTp U n F) (e : ∀ p i, (p = 19 ∨ (p = 18 ∧ i = 6)) → G p i = F p i) : cTp U n G := ⟨by rw [e 18 6 (by omega)]; exact h.1, h.2.1, fun i a b => by rw [e 19 i (by omega)]; exact h.2.2 i a b⟩
/-- the token that begins at k: its kind, what it is, where it ends -/
def tK (U : Int → Int) (n k : Int) : Int := if k < n then (if cDi U k = true then 1 else if cLe U k = true then 2 else 3) else 0
def tV (U : Int → Int) (n k : Int) : Int := if k < n then (if cDi U k = true then rV U k (rE (cDi U) n k - k).toNat else if cLe U k = true then 0 else U k) else 0
def tN (U : Int → Int) (n k : Int) : Int := if k < n then (if cDi U k = true then rE (cDi U) n k else if cLe U k = true then rE (cLe U) n k else k + 1) else k
theorem cDi_u {U : Int → Int} {k : Int} : cDi U k = true ↔ 48 ≤ U k ∧ U k ≤ 57 := by unfold cDi; simp only [decide_eq_true_eq]
theorem cLe_u {U : Int → Int} {k : Int} : cLe U k = true ↔ 97 ≤ U k ∧ U k ≤ 122 := by unfold cLe; simp only [decide_eq_true_eq]
theorem cBl_u {U : Int → Int} {k : Int} : cBl U k = true ↔ U k = 32 := by unfold cBl; simp only [decide_eq_true_eq]
theorem cDi_le {U : Int → Int} {k : Int} (h : cDi U k = true) : ¬ cLe U k = true := fun g => by
  have a := cDi_u.mp h
  have b := cLe_u.mp g
  omega
theorem tok0 {U : Int → Int} {n k : Int} (h : ¬ k < n) : tK U n k = 0 ∧ tV U n k = 0 ∧ tN U n k = k := ⟨if_neg h, if_neg h, if_neg h⟩
theorem tok1 {U : Int → Int} {n k : Int} (h : k < n) (g : cDi U k = true) : tK U n k = 1 ∧ tV U n k = rV U k (rE (cDi U) n k - k).toNat ∧ tN U n k = rE (cDi U) n k := ⟨(if_pos h).trans (if_pos g), (if_pos h).trans (if_pos g), (if_pos h).trans (if_pos g)⟩
theorem tok2 {U : Int → Int} {n k : Int} (h : k < n) (g : cLe U k = true) : tK U n k = 2 ∧ tV U n k = 0 ∧ tN U n k = rE (cLe U) n k := by
  have g1 : ¬ cDi U k = true := fun z => cDi_le z g
  exact ⟨(if_pos h).trans ((if_neg g1).trans (if_pos g)), (if_pos h).trans ((if_neg g1).trans (if_pos g)), (if_pos h).trans ((if_neg g1).trans (if_pos g))⟩
theorem tok3 {U : Int → Int} {n k : Int} (h : k < n) (g1 : ¬ cDi U k = true) (g2 : ¬ cLe U k = true) : tK U n k = 3 ∧ tV U n k = U k ∧ tN U n k = k + 1 :=
  ⟨(if_pos h).trans ((if_neg g1).trans (if_neg g2)), (if_pos h).trans ((if_neg g1).trans (if_neg g2)), (if_pos h).trans ((if_neg g1).trans (if_neg g2))⟩
/-- what token it is -/
theorem tok_c {U : Int → Int} {n k : Int} : (¬ k < n ∧ tK U n k = 0 ∧ tV U n k = 0 ∧ tN U n k = k) ∨ ((k < n ∧ cDi U k = true) ∧ tK U n k = 1 ∧ tV U n k = rV U k (rE (cDi U) n k - k).toNat ∧ tN U n k = rE (cDi U) n k) ∨ ((k < n ∧ cLe U k = true) ∧ tK U n k = 2 ∧ tV U n k = 0 ∧ tN U n k = rE (cLe U) n k) ∨ ((k < n ∧ ¬ cDi U k = true ∧ ¬ cLe U k = true) ∧ tK U n k = 3 ∧ tV U n k = U k ∧ tN U n k = k + 1) := by
  by_cases h : k < n
  · by_cases g1 : cDi U k = true
    · exact Or.inr (Or.inl ⟨⟨h, g1⟩, tok1 h g1⟩)
    · by_cases g2 : cLe U k = true
      · exact Or.inr (Or.inr (Or.inl ⟨⟨h, g2⟩, tok2 h g2⟩))
      · exact Or.inr (Or.inr (Or.inr ⟨⟨h, g1, g2⟩, tok3 h g1 g2⟩))
  · exact Or.inl ⟨h, tok0 h⟩
/-- the token at hand is the first from p on -/
def cTk (U : Int → Int) (n : Int) (F : XF) (p : Int) : Prop := (0 ≤ p ∧ p ≤ n) ∧ F 18 8 = tK U n (rE (cBl U) n p) ∧ F 18 9 = rE (cBl U) n p ∧ F 18 10 = tV U n (rE (cBl U) n p) ∧ F 18 11 = tN U n (rE (cBl U) n p)
theorem cTk.of {U : Int → Int} {n p : Int} {G : XF} (h : cTk U n F p) (e : ∀ i, 8 ≤ i → i ≤ 11 → G 18 i = F 18 i) : cTk U n G p := by
  unfold cTk at *
  rw [e 8 (by omega) (by omega), e 9 (by omega) (by omega), e 10 (by omega) (by omega), e 11 (by omega) (by omega)]
  exact h
/-- what a step changes; what the reading of a word or a number changes -/
def cKs (F G : XF) : Prop := ∀ p i, ¬ (p = 18 ∧ 8 ≤ i ∧ i ≤ 11) → G p i = F p i
def cKw (F G : XF) : Prop := ∀ p i, ¬ (p = 18 ∧ (i = 1 ∨ i = 2 ∨ (8 ≤ i ∧ i ≤ 11))) → G p i = F p i
theorem cKs.w {F G : XF} (a : cKs F G) : cKw F G := fun p i h => a p i (by omega)
theorem cKs.tp {U : Int → Int} {n : Int} {F G : XF} (a : cKs F G) (h : cTp U n F) : cTp U n G := h.of fun p i hp => a p i (by omega)
theorem cKw.tp {U : Int → Int} {n : Int} {F G : XF} (a : cKw F G) (h : cTp U n F) : cTp U n G := h.of fun p i hp => a p i (by omega)
theorem cKw.refl {F : XF} : cKw F F := fun _ _ _ => rfl
theorem cKw.trans {F G H : XF} (a : cKw F G) (b : cKw G H) : cKw F H := fun p i h => (b p i h).trans (a p i h)
theorem xPT_18 {F : XF} {k : Nat} {v : Int} (hP : xPT F) (hk : ∀ q ∈ xpt 5, ¬ k = q.1) : xPT (xup F 18 (k : Int) v) := xPT_fld hP xob_5 (by decide) hk
theorem l32a {U : Int → Int} {n : Int} {Q : XF → Prop} (F0 : XF) (hT : cTp U n F0) (k0 : Int) (q : ∀ G, xPT G → (∀ a i, ¬ (a = 18 ∧ i = 11) → G a i = F0 a i) → G 18 11 = k0 → xW X d 32 38 [.ref 18] [] G (xqv Q)) : ∀ (f : Nat) (p : Int) (F : XF), xPT F → 0 ≤ p → p ≤ n → p + f = n → (∀ a i, ¬ (a = 18 ∧ i = 11) → F a i = F0 a i) → F 18 11 = p → rE (cBl U) n p = k0 → xW X d 32 0 [.ref 18] [] F (xqv Q) := by
  have hN := hT.2.1
  intro f
  induction f with
  | zero =>
    intro p F hP h0 h1 hf hK hp hk
    have e6 : F 18 6 = n := by rw [hK 18 6 (by omega)]; exact hT.1
    rw [rE_0 (by omega)] at hk
    exact s32_0 hP ⟨by rw [hp]; constructor <;> omega, by rw [e6]; constructor <;> omega, fun _ _ => q F hP hK (hp.trans hk), fun c => absurd (by omega) c⟩
  | succ f ih =>
    intro p F hP h0 h1 hf hK hp hk
    have e6 : F 18 6 = n := by rw [hK 18 6 (by omega)]; exact hT.1
    have t := hT.2.2 p h0 (by omega)
    have e4 : F 19 p = U p := by rw [hK 19 p (by omega)]; exact t.2
    refine s32_0 hP ⟨by rw [hp]; constructor <;> omega, by rw [e6]; constructor <;> omega, fun c => absurd c (by omega), fun _ => ?_⟩
    rw [hp, e4]
    refine ⟨⟨by omega, by omega⟩, ⟨by omega, by omega⟩, fun c _ => ?_, fun c hG => ?_⟩
    · rw [rE_0 (fun h => c (cBl_u.mp h.2))] at hk
      exact q F hP hK (hp.trans hk)
    · rw [rE_1 ⟨by omega, cBl_u.mpr (Classical.not_not.mp c)⟩] at hk
      exact ih (p + 1) _ hG (by omega) (by omega) (by omega) (fun a i h => by rw [xup_n h]; exact hK a i h) xup_s hk
theorem l32d {U : Int → Int} {n k : Int} {Q : XF → Prop} (F0 : XF) (hd : 0 < d) (hT : cTp U n F0) (hk : 0 ≤ k ∧ k ≤ n) (h9 : F0 18 9 = k) (q : ∀ G, xPT G → (∀ a i, ¬ (a = 18 ∧ (i = 10 ∨ i = 11)) → G a i = F0 a i) → G 18 10 = rV U k (rE (cDi U) n k - k).toNat → G 18 11 = rE (cDi U) n k → Q G) : ∀ (f m : Nat) (F : XF), xPT F → k + m + f = n → (∀ a i, ¬ (a = 18 ∧ (i = 10 ∨ i = 11)) → F a i = F0 a i) → F 18 10 = rV U k m → F 18 11 = k + m → rE (cDi U) n k = rE (cDi U) n (k + m) → xW X d 32 90 [.ref 18] [] F (xqv Q) := by
  have hN := hT.2.1
  have stop : ∀ (m : Nat) (F : XF), xPT F → (∀ a i, ¬ (a = 18 ∧ (i = 10 ∨ i = 11)) → F a i = F0 a i) → F 18 10 = rV U k m → F 18 11 = k + m → rE (cDi U) n k = k + m → Q F := by
    intro m F hP hK hv hp he
    refine q F hP hK ?_ (hp.trans he.symm)
    rw [hv, he, show (k + (m : Int) - k).toNat = m by omega]
  intro f
  induction f with
  | zero =>
    intro m F hP hf hK hv hp he
    have e6 : F 18 6 = n := by rw [hK 18 6 (by omega)]; exact hT.1
    rw [rE_0 (p := k + (m : Int)) (by omega)] at he
    exact s32_90 hP ⟨by rw [hp]; constructor <;> omega, by rw [e6]; constructor <;> omega, fun _ _ => stop m F hP hK hv hp he, fun c => absurd (by omega) c⟩
  | succ f ih =>
    intro m F hP hf hK hv hp he
    have e6 : F 18 6 = n := by rw [hK 18 6 (by omega)]; exact hT.1
    have e9 : F 18 9 = k := by rw [hK 18 9 (by omega)]; exact h9
    have t := hT.2.2 (k + m) (by omega) (by omega)
    have e4 : F 19 (k + m) = U (k + m) := by rw [hK 19 _ (by omega)]; exact t.2
    refine s32_90 hP ⟨by rw [hp]; constructor <;> omega, by rw [e6]; constructor <;> omega, fun c => absurd c (by omega), fun _ => ?_⟩
    rw [hp, e4]
    refine ⟨⟨by omega, by omega⟩, 0, hd, k33 hP ⟨by omega, by omega⟩ fun y hy => ⟨hy.r, fun c _ => ?_, fun c => ?_⟩⟩
    · rw [rE_0 (p := k + (m : Int)) (fun h => hy.f c (cDi_u.mp h.2))] at he
      exact stop m F hP hK hv hp he
    · rw [rE_1 (p := k + (m : Int)) ⟨by omega, cDi_u.mpr (hy.t c)⟩] at he
      rw [hp, e9, e4, hv]
      have he' : rE (cDi U) n k = rE (cDi U) n (k + ((m + 1 : Nat) : Int)) := by rw [he]; congr 1; omega
      refine ⟨⟨by omega, by omega⟩, fun c4 hG => ih (m + 1) _ hG (by omega) (fun a i h => by rw [xup_n (by omega)]; exact hK a i h) ?_ (by rw [xup_s]; omega) he', fun c4 => ⟨⟨by omega, by omega⟩, fun hG => ih (m + 1) _ hG (by omega) (fun a i h => by rw [xup_n (by omega), xup_n (by omega)]; exact hK a i h) ?_ (by rw [xup_s]; omega) he'⟩⟩
      · rw [xup_i (by omega), hv, rV, if_neg (by omega)]
      · rw [xup_i (by omega), xup_s, rV, if_pos (by omega)]
        omega
theorem l32l {U : Int → Int} {n : Int} {Q : XF → Prop} (F0 : XF) (hd : 0 < d) (hT : cTp U n F0) (k0 : Int) (q : ∀ G, xPT G → (∀ a i, ¬ (a = 18 ∧ i = 11) → G a i = F0 a i) → G 18 11 = k0 → Q G) : ∀ (f : Nat) (p : Int) (F : XF), xPT F → 0 ≤ p → p ≤ n → p + f = n → (∀ a i, ¬ (a = 18 ∧ i = 11) → F a i = F0 a i) → F 18 11 = p → rE (cLe U) n p = k0 → xW X d 32 186 [.ref 18] [] F (xqv Q) := by
  have hN := hT.2.1
  intro f
  induction f with
  | zero =>
    intro p F hP h0 h1 hf hK hp hk
    have e6 : F 18 6 = n := by rw [hK 18 6 (by omega)]; exact hT.1
    rw [rE_0 (by omega)] at hk
    exact s32_186 hP ⟨by rw [hp]; constructor <;> omega, by rw [e6]; constructor <;> omega, fun _ _ => q F hP hK (hp.trans hk), fun c => absurd (by omega) c⟩
  | succ f ih =>
    intro p F hP h0 h1 hf hK hp hk
    have e6 : F 18 6 = n := by rw [hK 18 6 (by omega)]; exact hT.1
    have t := hT.2.2 p h0 (by omega)
    have e4 : F 19 p = U p := by rw [hK 19 p (by omega)]; exact t.2
    refine s32_186 hP ⟨by rw [hp]; constructor <;> omega, by rw [e6]; constructor <;> omega, fun c => absurd c (by omega), fun _ => ?_⟩
    rw [hp, e4]
    refine ⟨⟨by omega, by omega⟩, 0, hd, k34 hP ⟨by omega, by omega⟩ fun y hy => ⟨hy.r, fun c _ => ?_, fun c hG => ?_⟩⟩
    · rw [rE_0 (fun h => hy.f c (cLe_u.mp h.2))] at hk
      exact q F hP hK (hp.trans hk)
    · rw [rE_1 ⟨by omega, cLe_u.mpr (hy.t c)⟩] at hk
      rw [hp] at hG ⊢
      exact ih (p + 1) _ hG (by omega) (by omega) (by omega) (fun a i h => by rw [xup_n h]; exact hK a i h) xup_s hk
/-- a step -/
theorem k32 {U : Int → Int} {n p : Int} {Q : XF → Prop} (hP : xPT F) (hd : 0 < d) (hT : cTp U n F) (hp : F 18 11 = p) (h0 : 0 ≤ p ∧ p ≤ n) (q : ∀ G, xPT G → cKs F G → cTk U n G p → Q G) : xMV X d 32 [.ref 18] F Q := by
  have hN := hT.2.1
  have bk := rE_p (c := cBl U) (n := n) (p := p)
  refine l32a F hT (rE (cBl U) n p) (fun G hG kG e11 => ?_) (n - p).toNat p F hP h0.1 h0.2 (by omega) (fun _ _ _ => rfl) hp rfl
  obtain ⟨k, ek⟩ : ∃ k, k = rE (cBl U) n p := ⟨_, rfl⟩
  have q' : ∀ H, xPT H → cKs F H → H 18 8 = tK U n k → H 18 9 = k → H 18 10 = tV U n k → H 18 11 = tN U n k → Q H := fun H hH kH a b c e => q H hH kH ⟨h0, by rw [← ek]; exact a, by rw [← ek]; exact b, by rw [← ek]; exact c, by rw [← ek]; exact e⟩
  rw [← ek] at e11 bk
  have kb : 0 ≤ k ∧ k ≤ n := ⟨by omega, bk.2.1 h0.2⟩
  have hTG : cTp U n G := hT.of fun a i h => kG a i (by omega)
  have e6 := hTG.1
  clear q ek
  refine s32_38 hG ⟨by rw [e11]; constructor <;> omega, by rw [e6]; constructor <;> omega, fun c => ?_, fun c hH => ?_⟩
  · rw [e11, e6] at c
    have t := hTG.2.2 k kb.1 c
    rw [e11, t.2]
    refine ⟨⟨by omega, by omega⟩, 0, hd, k33 (xPT_18 (k := 10) (xPT_18 (k := 9) hG (by decide)) (by decide)) ⟨by omega, by omega⟩ fun y hy => ⟨hy.r, fun c1 => ?_, fun c1 hH => ?_⟩⟩
    · have nd : ¬ cDi U k = true := fun z => hy.f c1 (cDi_u.mp z)
      have f11 : (xup (xup G 18 9 k) 18 10 0) 18 11 = k := by rw [xup_i (by decide), xup_i (by decide), e11]
      have f19 : (xup (xup G 18 9 k) 18 10 0) 19 k = U k := by rw [xup_o (by decide), xup_o (by decide), t.2]
      rw [f11, f19]
      refine ⟨⟨by omega, by omega⟩, 0, hd, k34 (xPT_18 (k := 10) (xPT_18 (k := 9) hG (by decide)) (by decide)) ⟨by omega, by omega⟩ fun y2 hy2 => ⟨hy2.r, fun c2 => ?_, fun c2 hH => ?_⟩⟩
      · have nl : ¬ cLe U k = true := fun z => hy2.f c2 (cLe_u.mp z)
        have tk := tok3 c nd nl
        rw [f11, f19]
        refine ⟨⟨by omega, by omega⟩, fun hH => q' _ hH (fun a i h => ?_) ?_ ?_ ?_ ?_⟩
        · rw [xup_n (by omega), xup_n (by omega), xup_n (by omega), xup_n (by omega), xup_n (by omega)]
          exact kG a i (by omega)
        · rw [xup_i (by decide), xup_i (by decide), xup_s, tk.1]
        · rw [xup_i (by decide), xup_i (by decide), xup_i (by decide), xup_i (by decide), xup_s]
        · rw [xup_i (by decide), xup_s, tk.2.1]
        · rw [xup_s, tk.2.2]
      · have tk := tok2 c (cLe_u.mpr (hy2.t c2))
        have hTH : cTp U n (xup (xup (xup G 18 9 k) 18 10 0) 18 8 2) := hTG.of fun a i h => by rw [xup_n (by omega), xup_n (by omega), xup_n (by omega)]
        refine l32l _ hd hTH (rE (cLe U) n k) (fun H hH' kH a11 => q' H hH' (fun a i h => ?_) ?_ ?_ ?_ ?_) (n - k).toNat k _ hH kb.1 kb.2 (by omega) (fun _ _ _ => rfl) (by rw [xup_i (by decide)]; exact f11) rfl
        · rw [kH a i (by omega), xup_n (by omega), xup_n (by omega), xup_n (by omega)]
          exact kG a i (by omega)
        · rw [kH 18 8 (by omega), xup_s, tk.1]
        · rw [kH 18 9 (by omega), xup_i (by decide), xup_i (by decide), xup_s]
        · rw [kH 18 10 (by omega), xup_i (by decide), xup_s, tk.2.1]
        · rw [a11, tk.2.2]
    · have tk := tok1 c (cDi_u.mpr (hy.t c1))
      have hTH : cTp U n (xup (xup (xup G 18 9 k) 18 10 0) 18 8 1) := hTG.of fun a i h => by rw [xup_n (by omega), xup_n (by omega), xup_n (by omega)]
      refine l32d (k := k) _ hd hTH kb (by rw [xup_i (by decide), xup_i (by decide), xup_s]) (fun H hH' kH a10 a11 => q' H hH' (fun a i h => ?_) ?_ ?_ ?_ ?_) (n - k).toNat 0 _ hH (by omega) (fun _ _ _ => rfl) (by rw [xup_i (by decide), xup_s]; rfl) (by rw [xup_i (by decide), xup_i (by decide), xup_i (by decide), e11]; omega) (by congr 1; omega)
      · rw [kH a i (by omega), xup_n (by omega), xup_n (by omega), xup_n (by omega)]
        exact kG a i (by omega)
      · rw [kH 18 8 (by omega), xup_s, tk.1]
      · rw [kH 18 9 (by omega), xup_i (by decide), xup_i (by decide), xup_s]
      · rw [a10, tk.2.1]
      · rw [a11, tk.2.2]
  · have tk := tok0 (U := U) (show ¬ k < n by rw [e11, e6] at c; exact c)
    rw [e11] at hH ⊢
    refine q' _ hH (fun a i h => ?_) ?_ ?_ ?_ ?_
    · rw [xup_n (by omega), xup_n (by omega), xup_n (by omega)]
      exact kG a i (by omega)
    · rw [xup_s, tk.1]
    · rw [xup_i (by decide), xup_i (by decide), xup_s]
    · rw [xup_i (by decide), xup_s, tk.2.1]
    · rw [xup_i (by decide), xup_i (by decide), xup_i (by decide), e11, tk.2.2]
/-! how far the class's reading is -/
def cRd (U : Int → Int) (n : Int) (F : XF) (x : RR Int) : Prop := match x with
  | .ok p => F 18 1 = 0 ∧ F 18 2 = -1 ∧ cTk U n F p
  | .error z => F 18 1 = z.1 ∧ F 18 2 = z.2 ∧ 1 ≤ z.1 ∧ z.1 ≤ 3
theorem cRd.of {U : Int → Int} {n : Int} {G : XF} {x : RR Int} (h : cRd U n F x) (e : ∀ i, (i = 1 ∨ i = 2 ∨ (8 ≤ i ∧ i ≤ 11)) → G 18 i = F 18 i) : cRd U n G x := by
  cases x with
  | error z =>
    obtain ⟨a, b, c⟩ := h
    exact ⟨by rw [e 1 (by omega)]; exact a, by rw [e 2 (by omega)]; exact b, c⟩
  | ok p =>
    obtain ⟨a, b, c⟩ := h
    exact ⟨by rw [e 1 (by omega)]; exact a, by rw [e 2 (by omega)]; exact b, c.of fun i h1 h2 => e i (by omega)⟩
theorem cRd_er {U : Int → Int} {n : Int} {z : Int × Int} (h : cRd U n F (.error z)) : F 18 1 = z.1 ∧ F 18 2 = z.2 ∧ 1 ≤ z.1 ∧ z.1 ≤ 3 := h
theorem cRd_ok {U : Int → Int} {n p : Int} (h : cRd U n F (.ok p)) : F 18 1 = 0 ∧ F 18 2 = -1 ∧ cTk U n F p := h
/-- the first fault is kept -/
theorem kFail {U : Int → Int} {n p f : Int} {Q : XF → Prop} (hP : xPT F) (h1 : F 18 1 = 0) (hf : 1 ≤ f ∧ f ≤ 3) (q : ∀ G, xPT G → cKw F G → cRd U n G (.error (f, p)) → Q G) : xMV X d 31 [.ref 18, vi f, vi p] F Q :=
  k31 hP (by rw [h1]; exact ⟨by omega, by omega⟩) fun G hG kG a _ => q G hG (fun o i h => kG o i (by omega)) ⟨(a h1).1, (a h1).2, hf.1, hf.2⟩
theorem l35 {U : Int → Int} {n k : Int} {s : Nat} {Q : Int → XF → Prop} (hP : xPT F) (hd : 3 < d) (hT : cTp U n F) (hs : s < 18) (h9 : F 18 9 = k) (hk : 0 ≤ k ∧ k + strL s ≤ n) (q1 : (∀ i : Nat, i < strL s → strB s i = U (k + i)) → Q 1 F) (q0 : ¬ (∀ i : Nat, i < strL s → strB s i = U (k + i)) → Q 0 F) : ∀ (f m : Nat), m + f = strL s → (∀ i : Nat, i < m → strB s i = U (k + i)) → xW X d 35 28 [.ref 18, .ref (xSB + 2 * s), vi m] [] F (xqi Q) := by
  have hN := hT.2.1
  have hl := strL_c s (by omega)
  intro f
  induction f with
  | zero =>
    intro m hm h
    refine s35_28 hP (by omega) ⟨3, hd, p221 hP (by omega) (by omega) ⟨⟨by omega, by omega⟩, ⟨by omega, by omega⟩, fun _ _ => q1 fun i hi => h i (by omega), fun c => absurd (by omega) c⟩⟩
  | succ f ih =>
    intro m hm h
    have sb := strB_b s (by omega) m (by omega)
    have t := hT.2.2 (k + m) (by omega) (by omega)
    refine s35_28 hP (by omega) ⟨3, hd, p221 hP (by omega) (by omega) ⟨⟨by omega, by omega⟩, ⟨by omega, by omega⟩, fun c => absurd c (by omega), fun _ => ?_⟩⟩
    rw [h9]
    refine ⟨⟨by omega, by omega⟩, 3, hd, p222 hP (by omega) (by omega) ⟨by omega, by omega⟩ ?_⟩
    rw [t.2]
    refine ⟨⟨by omega, by omega⟩, ⟨by omega, by omega⟩, fun c _ => ?_, fun c _ => q0 fun z => c (z m (by omega)).symm⟩
    have := ih (m + 1) (by omega) (fun i hi => by
      by_cases hq : i = m
      · subst hq; exact c.symm
      · exact h i (by omega))
    rw [show ((m + 1 : Nat) : Int) = (m : Int) + 1 by omega] at this
    exact this
/-- is the token this word? -/
theorem k35c {U : Int → Int} {n k : Int} {s : Nat} {Q : Int → XF → Prop} (hP : xPT F) (hd : 3 < d) (hT : cTp U n F) (hs : s < 18) (hs1 : 1 ≤ strL s) (hk : 0 ≤ k ∧ k ≤ n) (h8 : F 18 8 = tK U n k) (h9 : F 18 9 = k) (h11 : F 18 11 = tN U n k) (q : ∀ y, mB y (rIs U k (rE (cLe U) n k) s) → Q y F) : xMI X d 35 [.ref 18, .ref (xSB + 2 * s)] F Q := by
  have hN := hT.2.1
  have hl := strL_c s (by omega)
  have bl := rE_p (c := cLe U) (n := n) (p := k)
  have b3 := bl.2.1 hk.2
  by_cases h2 : k < n ∧ cLe U k = true
  · have tk := tok2 h2.1 h2.2
    rw [tk.1] at h8
    rw [tk.2.2] at h11
    refine m35 hP (by omega) ⟨by rw [h8]; constructor <;> omega, fun c => absurd h8 c, fun _ => ⟨3, hd, p221 hP (by omega) (by omega) ⟨by rw [h11, h9]; constructor <;> omega, ⟨by omega, by omega⟩, fun c _ => ?_, fun c _ => q 0 (mB.i0 fun z => c (by rw [h11, h9]; exact z.1.symm))⟩⟩⟩
    rw [h11, h9] at c
    exact l35 hP hd hT hs h9 (by omega) (fun z => q 1 (mB.i1 ⟨c.symm, z⟩)) (fun z => q 0 (mB.i0 fun w => z w.2)) (strL s) 0 (by omega) (fun i hi => absurd hi (by omega))
  · have e : rE (cLe U) n k = k := rE_0 h2
    have ne : ¬ F 18 8 = 2 := by
      rw [h8]
      rcases tok_c (U := U) (n := n) (k := k) with z | z | z | z
      · omega
      · omega
      · exact absurd z.1 h2
      · omega
    have kb : -1 ≤ tK U n k ∧ tK U n k ≤ 3 := by rcases tok_c (U := U) (n := n) (k := k) with z | z | z | z <;> omega
    refine m35 hP (by omega) ⟨by rw [h8]; constructor <;> omega, fun _ _ => q 0 (mB.i0 fun z => ?_), fun c => absurd ne c⟩
    have := z.1
    omega
theorem cTk.b {U : Int → Int} {n p : Int} (h : cTk U n F p) : 0 ≤ rE (cBl U) n p ∧ rE (cBl U) n p ≤ n ∧ p ≤ rE (cBl U) n p := by
  have bk := rE_p (c := cBl U) (n := n) (p := p)
  have b2 := bk.2.1 h.1.2
  have := h.1.1
  exact ⟨by omega, b2, bk.1⟩
theorem k35 {U : Int → Int} {n p : Int} {s : Nat} {Q : Int → XF → Prop} (hP : xPT F) (hd : 3 < d) (hT : cTp U n F) (hs : s < 18) (hs1 : 1 ≤ strL s) (h : cTk U n F p) (q : ∀ y, mB y (rIs U (rE (cBl U) n p) (rE (cLe U) n (rE (cBl U) n p)) s) → Q y F) : xMI X d 35 [.ref 18, .ref (xSB + 2 * s)] F Q :=
  k35c hP hd hT hs hs1 ⟨h.b.1, h.b.2.1⟩ h.2.1 h.2.2.1 h.2.2.2.2 q
/-- where a word ends -/
theorem cTk.e {U : Int → Int} {n p : Int} {s : Nat} (h : cTk U n F p) (hs1 : 1 ≤ strL s) (z : rIs U (rE (cBl U) n p) (rE (cLe U) n (rE (cBl U) n p)) s) : F 18 11 = rE (cLe U) n (rE (cBl U) n p) := by
  by_cases h2 : rE (cBl U) n p < n ∧ cLe U (rE (cBl U) n p) = true
  · rw [h.2.2.2.2, (tok2 h2.1 h2.2).2.2]
  · have := z.1
    rw [rE_0 h2] at this
    omega
theorem k36 {U : Int → Int} {n : Int} {s : Nat} {x : RR Int} {Q : XF → Prop} (hP : xPT F) (hd : 4 < d) (hT : cTp U n F) (hs : s < 18) (hs1 : 1 ≤ strL s) (h : cRd U n F x) (q : ∀ G, xPT G → cKw F G → cRd U n G (rB x (rWrd U n s)) → Q G) : xMV X d 36 [.ref 18, .ref (xSB + 2 * s)] F Q := by
  cases x with
  | error z =>
    obtain ⟨h1, h2, h3⟩ := h
    exact m36 hP (by omega) ⟨by rw [h1]; constructor <;> omega, fun c => absurd c (by omega), fun _ hG => q F hG cKw.refl ⟨h1, h2, h3⟩⟩
  | ok p =>
    obtain ⟨h1, h2, h3⟩ := h
    have bk := rE_p (c := cBl U) (n := n) (p := p)
    have b2 := bk.2.1 h3.1.2
    have bl := rE_p (c := cLe U) (n := n) (p := rE (cBl U) n p)
    have b3 := bl.2.1 b2
    refine m36 hP (by omega) ⟨by rw [h1]; constructor <;> omega, fun _ => ⟨4, hd, k35 hP (by omega) hT hs hs1 h3 fun y hy => ⟨hy.r, fun c => ⟨4, hd, ?_⟩, fun c => ⟨4, hd, k32 hP (by omega) hT (h3.e hs1 (hy.t c)) (by have := h3.1; omega) fun G hG kG tG _ => q G hG kG.w ?_⟩⟩⟩, fun c => absurd h1 c⟩
    · rw [h3.2.2.1]
      refine kFail (U := U) (n := n) hP h1 (by omega) fun G hG kG rG _ => q G hG kG ?_
      show cRd U n G (rWrd U n s p)
      unfold rWrd
      rw [if_neg (by rw [mV_f (hy.f c)]; decide)]
      exact rG
    · show cRd U n G (rWrd U n s p)
      unfold rWrd
      rw [if_pos (mV_t (hy.t c))]
      exact ⟨by rw [kG 18 1 (by omega)]; exact h1, by rw [kG 18 2 (by omega)]; exact h2, tG⟩
theorem k37 {U : Int → Int} {n lo hi : Int} {x : RR Int} {Q : Int → XF → Prop} (hP : xPT F) (hd : 1 < d) (hT : cTp U n F) (hlo : inR lo) (hhi : inR hi) (h : cRd U n F x) (q : ∀ G, xPT G → cKw F G → cRd U n G (rP x (rNum U n lo hi)) → Q (rY lo x (rNum U n lo hi)) G) : xMI X d 37 [.ref 18, vi lo, vi hi] F Q := by
  cases x with
  | error z =>
    obtain ⟨h1, h2, h3⟩ := h
    exact m37 hP ⟨by rw [h1]; constructor <;> omega, fun c => absurd c (by omega), fun _ hG => q F hG cKw.refl ⟨h1, h2, h3⟩⟩
  | ok p =>
    obtain ⟨h1, h2, h3⟩ := h
    obtain ⟨h0, h8, h9, h10, h11⟩ := h3
    have hN := hT.2.1
    have bk := rE_p (c := cBl U) (n := n) (p := p)
    have b2 := bk.2.1 h0.2
    have bd := rE_p (c := cDi U) (n := n) (p := rE (cBl U) n p)
    have b3 := bd.2.1 b2
    have fin : ∀ (G : XF) (a : RR (Int × Int)), rNum U n lo hi p = a → xPT G → cKw F G → cRd U n G (rB a fun b => .ok b.2) → Q (rVal lo a) G := fun G a ha hG kG hs => by
      have qq := q G hG kG
      have e1 : rP (.ok p) (rNum U n lo hi) = rB a fun b => .ok b.2 := by
        show rB (rNum U n lo hi p) _ = _
        rw [ha]
      have e2 : rY lo (.ok p) (rNum U n lo hi) = rVal lo a := by
        show rVal lo (rNum U n lo hi p) = _
        rw [ha]
      rw [e1, e2] at qq
      exact qq hs
    have bad : ∀ f, 1 ≤ f ∧ f ≤ 3 → rNum U n lo hi p = .error (f, rE (cBl U) n p) → ∃ j, j < d ∧ xMV X j 31 [.ref 18, vi f, vi (F 18 9)] F (fun G => xPT G → Q lo G) := fun f hf hr => by
      rw [h9]
      exact ⟨1, hd, kFail (U := U) (n := n) hP h1 hf fun G hG kG rG _ => fin G _ hr hG kG rG⟩
    by_cases gk : rE (cBl U) n p < n ∧ cDi U (rE (cBl U) n p) = true
    · have tk := tok1 gk.1 gk.2
      have hr : rNum U n lo hi p = (if 4 < rE (cDi U) n (rE (cBl U) n p) - rE (cBl U) n p ∨ ¬ (lo ≤ rV U (rE (cBl U) n p) (rE (cDi U) n (rE (cBl U) n p) - rE (cBl U) n p).toNat ∧ rV U (rE (cBl U) n p) (rE (cDi U) n (rE (cBl U) n p) - rE (cBl U) n p).toNat ≤ hi) then .error (2, rE (cBl U) n p) else .ok (rV U (rE (cBl U) n p) (rE (cDi U) n (rE (cBl U) n p) - rE (cBl U) n p).toNat, rE (cDi U) n (rE (cBl U) n p))) := by
        unfold rNum
        rw [if_pos gk]
      have vb := rV_b (U := U) (k := rE (cBl U) n p) (m := (rE (cDi U) n (rE (cBl U) n p) - rE (cBl U) n p).toNat) (fun i hi => cDi_u.mp (bd.2.2.1 (rE (cBl U) n p + i) (by omega) (by omega)))
      rw [tk.1] at h8
      rw [tk.2.1] at h10
      rw [tk.2.2] at h11
      refine m37 hP ⟨by rw [h1]; constructor <;> omega, fun _ => ⟨by rw [h8]; constructor <;> omega, fun _ => ⟨by rw [h11, h9]; constructor <;> omega, fun c4 => bad 2 (by omega) (by rw [hr, if_pos (Or.inl (by omega))]), fun c4 => ⟨by rw [h10]; constructor <;> omega, hlo, fun c5 => bad 2 (by omega) (by rw [hr, if_pos (Or.inr (by omega))]), fun c5 => ⟨by rw [h10]; constructor <;> omega, hhi, fun c6 => ⟨1, hd, k32 hP (by omega) hT h11 (by omega) fun G hG kG tG _ => ?_⟩, fun c6 => bad 2 (by omega) (by rw [hr, if_pos (Or.inr (by omega))])⟩⟩⟩, fun c => absurd h8 c⟩, fun c => absurd h1 c⟩
      rw [h10]
      refine fin G (.ok (rV U (rE (cBl U) n p) (rE (cDi U) n (rE (cBl U) n p) - rE (cBl U) n p).toNat, rE (cDi U) n (rE (cBl U) n p))) ?_ hG kG.w ⟨by rw [kG 18 1 (by omega)]; exact h1, by rw [kG 18 2 (by omega)]; exact h2, tG⟩
      rw [hr, if_neg (by omega)]
    · have hr : rNum U n lo hi p = .error (1, rE (cBl U) n p) := by unfold rNum; rw [if_neg gk]
      have ne : ¬ F 18 8 = 1 := by
        rw [h8]
        rcases tok_c (U := U) (n := n) (k := rE (cBl U) n p) with z | z | z | z
        · omega
        · exact absurd z.1 gk
        · omega
        · omega
      have kb : -1 ≤ F 18 8 ∧ F 18 8 ≤ 3 := by rw [h8]; rcases tok_c (U := U) (n := n) (k := rE (cBl U) n p) with z | z | z | z <;> omega
      exact m37 hP ⟨by rw [h1]; constructor <;> omega, fun _ => ⟨⟨by omega, by omega⟩, fun c => absurd c ne, fun _ => bad 1 (by omega) hr⟩, fun c => absurd h1 c⟩
theorem k38 {U : Int → Int} {n : Int} {x : RR Int} {Q : XF → Prop} (hP : xPT F) (hd : 1 < d) (hT : cTp U n F) (h : cRd U n F x) (q : ∀ G, xPT G → cKw F G → cRd U n G (rB x (rSemi U n)) → Q G) : xMV X d 38 [.ref 18] F Q := by
  cases x with
  | error z =>
    obtain ⟨h1, h2, h3⟩ := h
    exact m38 hP ⟨by rw [h1]; constructor <;> omega, fun c => absurd c (by omega), fun _ hG => q F hG cKw.refl ⟨h1, h2, h3⟩⟩
  | ok p =>
    obtain ⟨h1, h2, h3⟩ := h
    obtain ⟨h0, h8, h9, h10, h11⟩ := h3
    have hN := hT.2.1
    have bk := rE_p (c := cBl U) (n := n) (p := p)
    have b2 := bk.2.1 h0.2
    have bad : ¬ (rE (cBl U) n p < n ∧ U (rE (cBl U) n p) = 59) → ∃ j, j < d ∧ xMV X j 31 [.ref 18, vi 1, vi (F 18 9)] F (fun G => xPT G → Q G) := fun hn => by
      rw [h9]
      refine ⟨1, hd, kFail (U := U) (n := n) hP h1 (by omega) fun G hG kG rG _ => q G hG kG ?_⟩
      show cRd U n G (rSemi U n p)
      unfold rSemi
      rw [if_neg hn]
      exact rG
    obtain ⟨k, ek⟩ : ∃ k, k = rE (cBl U) n p := ⟨_, rfl⟩
    have kb : -1 ≤ F 18 8 ∧ F 18 8 ≤ 3 := by rw [h8]; rcases tok_c (U := U) (n := n) (k := rE (cBl U) n p) with z | z | z | z <;> omega
    refine m38 hP ⟨by rw [h1]; constructor <;> omega, fun _ => ⟨⟨by omega, by omega⟩, fun c => bad fun z => c ?_, fun c => ?_⟩, fun c => absurd h1 c⟩
    · rw [h8]
      exact (tok3 z.1 (fun g => by have := cDi_u.mp g; omega) (fun g => by have := cLe_u.mp g; omega)).1
    · have c' : tK U n (rE (cBl U) n p) = 3 := by rw [← h8]; exact Classical.not_not.mp c
      have z : (rE (cBl U) n p < n ∧ ¬ cDi U (rE (cBl U) n p) = true ∧ ¬ cLe U (rE (cBl U) n p) = true) := by
        rcases tok_c (U := U) (n := n) (k := rE (cBl U) n p) with z | z | z | z
        · omega
        · omega
        · omega
        · exact z.1
      have tk := tok3 z.1 z.2.1 z.2.2
      have t := hT.2.2 (rE (cBl U) n p) (by omega) z.1
      rw [tk.2.1] at h10
      rw [tk.2.2] at h11
      refine ⟨by rw [h10]; constructor <;> omega, fun c2 => bad fun z2 => c2 (by rw [h10]; exact z2.2), fun c2 => ⟨1, hd, k32 hP (by omega) hT h11 (by omega) fun G hG kG tG _ => q G hG kG.w ?_⟩⟩
      show cRd U n G (rSemi U n p)
      unfold rSemi
      rw [if_pos ⟨z.1, by rw [← h10]; exact Classical.not_not.mp c2⟩]
      exact ⟨by rw [kG 18 1 (by omega)]; exact h1, by rw [kG 18 2 (by omega)]; exact h2, tG⟩
end CL31
