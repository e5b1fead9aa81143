section RD2
variable {X : List Int32} {d : Nat} {F : XF}
def rKs : List Nat := [1, 6, 12, 16, 22, 28, 35, 41, 48, 55, 60, 66, 71, 74, 79, 85, 87, 90, 94]
theorem rKf : ∀ j, j < 18 → rKy.getD j 0 < 18 ∧ 1 ≤ strL (rKy.getD j 0) ∧ rKs.getD (j + 1) 0 = rKs.getD j 0 + strL (rKy.getD j 0) + 1 ∧ rKs.getD j 0 + strL (rKy.getD j 0) < strL 18 ∧ strB 18 ((rKs.getD j 0 + strL (rKy.getD j 0) : Nat) : Int) = 32 ∧ (∀ i, i < strL (rKy.getD j 0) → strB 18 ((rKs.getD j 0 + i : Nat) : Int) = strB (rKy.getD j 0) (i : Int) ∧ ¬ strB 18 ((rKs.getD j 0 + i : Nat) : Int) = 32) := by decide +kernel
theorem rK18 : rKs.getD 18 0 = strL 18 ∧ strL 18 = 94 := by decide +kernel
theorem xand255 : ∀ b : Nat, b < 256 → xand ((b : Int) - 128) 255 = if (b : Int) - 128 < 0 then (b : Int) - 128 + 256 else (b : Int) - 128 := by decide +kernel
/-- the tape, as the reference has it -/
def rTp (U : Int → Int) (n : Int) (F : XF) : Prop := F 131 5 = n ∧ (0 ≤ n ∧ n ≤ 600) ∧ ∀ i, 0 ≤ i → i < n → (-128 ≤ F 134 i ∧ F 134 i ≤ 127) ∧ U i = (if F 134 i < 0 then F 134 i + 256 else F 134 i)
theorem rTp.of {U : Int → Int} {n : Int} {G : XF} (h : rTp U n F) (e : ∀ p i, (p = 134 ∨ (p = 131 ∧ i = 5)) → G p i = F p i) : rTp U n G := ⟨by rw [e 131 5 (by omega)]; exact h.1, h.2.1, fun i a b => by rw [e 134 i (by omega)]; exact h.2.2 i a b⟩
/-- what the reading of a word or a number changes -/
def mKw (F G : XF) : Prop := ∀ p i, ¬ (p = 131 ∧ (i = 6 ∨ i = 7 ∨ i = 8 ∨ i = 10)) → G p i = F p i
theorem mKw.trans {F G H : XF} (a : mKw F G) (b : mKw G H) : mKw F H := fun p i h => (b p i h).trans (a p i h)
theorem mKw.refl {F : XF} : mKw F F := fun _ _ _ => rfl
theorem mKw.tp {U : Int → Int} {n : Int} {F G : XF} (a : mKw F G) (h : rTp U n F) : rTp U n G := h.of fun p i hp => a p i (by omega)
theorem mKw.up {F G : XF} {i v : Int} (a : mKw F G) (h : i = 6 ∨ i = 7 ∨ i = 8 ∨ i = 10) : mKw F (xup G 131 i v) := a.trans fun p j hp => xup_n (by omega)
theorem xPT_131 {F : XF} {k : Nat} {v : Int} (hP : xPT F) (hk : ∀ q ∈ xpt 12, ¬ k = q.1) : xPT (xup F 131 (k : Int) v) := xPT_fld hP xob_12 (by decide) hk
theorem l136 {U : Int → Int} {n : Int} {Q : Int → XF → Prop} (F0 : XF) (hT : rTp U n F0) (k0 : Int) (q : ∀ G, xPT G → (∀ a i, ¬ (a = 131 ∧ i = 6) → G a i = F0 a i) → G 131 6 = k0 → Q (if k0 < n then U k0 else -1) G) : ∀ (f : Nat) (p : Int) (F : XF), xPT F → 0 ≤ p → p ≤ n → p + f = n → (∀ a i, ¬ (a = 131 ∧ i = 6) → F a i = F0 a i) → F 131 6 = p → rE (cBl U) n p = k0 → xW X d 136 0 [.ref 131] [] F (xqi Q) := by
  have stop : ∀ (p : Int) (F : XF), xPT F → 0 ≤ p → p ≤ n → (∀ a i, ¬ (a = 131 ∧ i = 6) → F a i = F0 a i) → F 131 6 = p → ¬ (p < n ∧ cBl U p = true) → rE (cBl U) n p = k0 → xW X d 136 38 [.ref 131] [] F (xqi Q) := by
    intro p F hP h0 h1 hK hp hn hk
    rw [rE_0 hn] at hk
    have e5 : F 131 5 = n := by rw [hK 131 5 (by omega)]; exact hT.1
    have hN := hT.2.1
    refine s136_38 hP ⟨by rw [hp]; constructor <;> omega, by rw [e5]; constructor <;> omega, fun c _ => ?_, fun c => ⟨by omega, fun _ => ?_⟩⟩
    · have := q F hP hK (hp.trans hk)
      rw [if_neg (by omega)] at this
      exact this
    · have t := hT.2.2 p h0 (by omega)
      have e4 : F 134 p = F0 134 p := hK 134 p (by omega)
      have := q F hP hK (hp.trans hk)
      rw [if_pos (by omega), ← hk, t.2] at this
      rw [hp, e4]
      have x := xand255 (F0 134 p + 128).toNat (by omega)
      rw [show (((F0 134 p + 128).toNat : Nat) : Int) - 128 = F0 134 p by omega] at x
      rw [x]
      exact this
  intro f
  induction f with
  | zero =>
    intro p F hP h0 h1 hf hK hp hk
    have e5 : F 131 5 = n := by rw [hK 131 5 (by omega)]; exact hT.1
    have hN := hT.2.1
    exact s136_0 hP ⟨by rw [hp]; constructor <;> omega, by rw [e5]; constructor <;> omega, fun _ _ => stop p F hP h0 h1 hK hp (by omega) hk, fun c => absurd (by omega) c⟩
  | succ f ih =>
    intro p F hP h0 h1 hf hK hp hk
    have e5 : F 131 5 = n := by rw [hK 131 5 (by omega)]; exact hT.1
    have hN := hT.2.1
    have t := hT.2.2 p h0 (by omega)
    have e4 : F 134 p = F0 134 p := hK 134 p (by omega)
    refine s136_0 hP ⟨by rw [hp]; constructor <;> omega, by rw [e5]; constructor <;> omega, fun c => absurd c (by omega), fun _ => ?_⟩
    rw [hp, e4]
    refine ⟨⟨by omega, by omega⟩, ⟨by omega, by omega⟩, fun c _ => stop p F hP h0 h1 hK hp (fun h => ?_) hk, fun c hG => ?_⟩
    · have := h.2
      unfold cBl at this
      simp only [decide_eq_true_eq] at this
      rw [t.2] at this
      split at this <;> omega
    · have hb : p < n ∧ cBl U p = true := by
        refine ⟨by omega, ?_⟩
        unfold cBl
        simp only [decide_eq_true_eq]
        rw [t.2]
        split <;> omega
      rw [rE_1 hb] at hk
      exact ih (p + 1) _ hG (by omega) (by omega) (by omega) (fun a i h => by rw [xup_n h]; exact hK a i h) xup_s hk
theorem p136 {U : Int → Int} {n p : Int} {Q : Int → XF → Prop} (hP : xPT F) (hT : rTp U n F) (hp : F 131 6 = p) (h0 : 0 ≤ p ∧ p ≤ n) (q : ∀ G, xPT G → (∀ a i, ¬ (a = 131 ∧ i = 6) → G a i = F a i) → G 131 6 = rE (cBl U) n p → Q (if rE (cBl U) n p < n then U (rE (cBl U) n p) else -1) G) : xMI X d 136 [.ref 131] F Q :=
  l136 F hT _ q (n - p).toNat p F hP h0.1 h0.2 (by omega) (fun _ _ _ => rfl) hp rfl
theorem p137 {a b : Int} {Q : XF → Prop} (hP : xPT F) (h7 : F 131 7 = 0) (q : ∀ G, xPT G → mKw F G → G 131 7 = a → G 131 8 = b → G 131 6 = F 131 6 → G 131 10 = F 131 10 → Q G) : xMV X d 137 [.ref 131, vi a, vi b] F Q := by
  refine m137 hP ⟨by rw [h7]; constructor <;> omega, fun _ hG => q _ hG ((mKw.refl.up (by omega)).up (by omega)) ?_ xup_s ?_ ?_, fun c => absurd h7 c⟩
  · rw [xup_i (by omega), xup_s]
  · rw [xup_i (by omega), xup_i (by omega)]
  · rw [xup_i (by omega), xup_i (by omega)]
theorem p138 {c : Int} {Q : Int → XF → Prop} (hP : xPT F) (hd : 0 < d) (hc : inR c) (q : ∀ y, mB y (97 ≤ c ∧ c ≤ 122) → Q y F) : xMI X d 138 [vi c] F Q := m138 hP ⟨hc, 0, hd, p132 hP ⟨⟨by omega, by omega⟩, ⟨by omega, by omega⟩, ⟨by omega, by omega⟩⟩ fun y h => ⟨h.z, fun _ => q y h⟩⟩
theorem p139 {c : Int} {Q : Int → XF → Prop} (hP : xPT F) (hd : 0 < d) (hc : inR c) (q : ∀ y, mB y (48 ≤ c ∧ c ≤ 57) → Q y F) : xMI X d 139 [vi c] F Q := m139 hP ⟨hc, 0, hd, p132 hP ⟨⟨by omega, by omega⟩, ⟨by omega, by omega⟩, ⟨by omega, by omega⟩⟩ fun y h => ⟨h.z, fun _ => q y h⟩⟩
theorem rTp.le {U : Int → Int} {n : Int} (h : rTp U n F) {i : Int} (a : 0 ≤ i) (b : i < n) : (97 ≤ F 134 i ∧ F 134 i ≤ 122) ↔ cLe U i = true := by
  have := h.2.2 i a b
  unfold cLe
  simp only [decide_eq_true_eq]
  rw [this.2]
  split <;> omega
theorem rTp.di {U : Int → Int} {n : Int} (h : rTp U n F) {i : Int} (a : 0 ≤ i) (b : i < n) : (48 ≤ F 134 i ∧ F 134 i ≤ 57) ↔ cDi U i = true := by
  have := h.2.2 i a b
  unfold cDi
  simp only [decide_eq_true_eq]
  rw [this.2]
  split <;> omega
theorem l141 {U : Int → Int} {n : Int} {Q : XF → Prop} (hd : 1 < d) (F0 : XF) (hT : rTp U n F0) (k0 : Int) (q : ∀ G, xPT G → (∀ a i, ¬ (a = 131 ∧ i = 6) → G a i = F0 a i) → G 131 6 = k0 → Q G) : ∀ (f : Nat) (p : Int) (F : XF), xPT F → 0 ≤ p → p ≤ n → p + f = n → (∀ a i, ¬ (a = 131 ∧ i = 6) → F a i = F0 a i) → F 131 6 = p → rE (cLe U) n p = k0 → xW X d 141 0 [.ref 131] [] F (xqv Q) := by
  intro f
  induction f with
  | zero =>
    intro p F hP h0 h1 hf hK hp hk
    have e5 : F 131 5 = n := by rw [hK 131 5 (by omega)]; exact hT.1
    have hN := hT.2.1
    rw [rE_0 (by omega)] at hk
    exact s141_0 hP ⟨by rw [hp]; constructor <;> omega, by rw [e5]; constructor <;> omega, fun _ _ => q F hP hK (hp.trans hk), fun c => absurd (by omega) c⟩
  | succ f ih =>
    intro p F hP h0 h1 hf hK hp hk
    have e5 : F 131 5 = n := by rw [hK 131 5 (by omega)]; exact hT.1
    have hN := hT.2.1
    have t := hT.2.2 p h0 (by omega)
    have e4 : F 134 p = F0 134 p := hK 134 p (by omega)
    refine s141_0 hP ⟨by rw [hp]; constructor <;> omega, by rw [e5]; constructor <;> omega, fun c => absurd c (by omega), fun _ => ?_⟩
    rw [hp, e4]
    refine ⟨⟨by omega, by omega⟩, 1, hd, p138 hP (by omega) ⟨by omega, by omega⟩ fun y hy => ⟨hy.r, fun c _ => ?_, fun c hG => ?_⟩⟩
    · have := hy.f c
      rw [hT.le h0 (by omega)] at this
      rw [rE_0 (fun h => this h.2)] at hk
      exact q F hP hK (hp.trans hk)
    · have := hy.t c
      rw [hT.le h0 (by omega)] at this
      rw [rE_1 ⟨by omega, this⟩] at hk
      rw [hp] at hG ⊢
      exact ih (p + 1) _ hG (by omega) (by omega) (by omega) (fun a i h => by rw [xup_n h]; exact hK a i h) xup_s hk
theorem p141 {U : Int → Int} {n p : Int} {Q : XF → Prop} (hP : xPT F) (hd : 1 < d) (hT : rTp U n F) (hp : F 131 6 = p) (h0 : 0 ≤ p ∧ p ≤ n) (q : ∀ G, xPT G → (∀ a i, ¬ (a = 131 ∧ i = 6) → G a i = F a i) → G 131 6 = rE (cLe U) n p → Q G) : xMV X d 141 [.ref 131] F Q :=
  l141 hd F hT _ q (n - p).toNat p F hP h0.1 h0.2 (by omega) (fun _ _ _ => rfl) hp rfl
/-! which word stands here -/
section WORD
variable {U : Int → Int} {n k e : Int} {Q : Int → XF → Prop}
theorem rKey_m {U : Int → Int} {k e : Int} : ∃ y, mFst 18 (fun j => rIs U k e (rKy.getD j.toNat 0)) y := by
  by_cases h : ∃ j : Nat, j < 18 ∧ rIs U k e (rKy.getD j 0)
  · have key : ∀ m : Nat, (∃ j, j < m ∧ rIs U k e (rKy.getD j 0)) → ∃ j, j < m ∧ rIs U k e (rKy.getD j 0) ∧ ∀ i, i < j → ¬ rIs U k e (rKy.getD i 0) := by
      intro m
      induction m with
      | zero => rintro ⟨j, h, _⟩; omega
      | succ m ih =>
        rintro ⟨j, h1, h2⟩
        rcases Classical.em (∃ j, j < m ∧ rIs U k e (rKy.getD j 0)) with q | q
        · obtain ⟨a, b, c, d⟩ := ih q
          exact ⟨a, by omega, c, d⟩
        · refine ⟨j, h1, h2, fun i hi hr => q ⟨i, by omega, hr⟩⟩
    obtain ⟨j, a, b, c⟩ := key 18 h
    refine ⟨(j : Int), Or.inr ⟨by omega, by omega, ?_, fun s p q r => c s.toNat (by omega) r⟩⟩
    dsimp only
    rw [Int.toNat_natCast]
    exact b
  · exact ⟨-1, Or.inl ⟨rfl, fun s a b r => h ⟨s.toNat, by omega, r⟩⟩⟩
theorem rKey_p {U : Int → Int} {k e : Int} : mFst 18 (fun j => rIs U k e (rKy.getD j.toNat 0)) (rKey U k e) := Classical.epsilon_spec rKey_m
/-- the letters of one word, compared -/
theorem l140c {j : Nat} (hP : xPT F) (hd : 3 < d) (hT : rTp U n F) (hk : 0 ≤ k ∧ k ≤ e ∧ e ≤ n) (hs : F 131 6 = k) (hj : j < 18) (q1 : rIs U k e (rKy.getD j 0) → Q j F) (q0 : ¬ rIs U k e (rKy.getD j 0) → ∀ w4 w5 w6, xW X d 140 61 [.ref 131, vi (e - k), vi ((j : Int) + 1), vi ((rKs.getD (j + 1) 0 : Nat) : Int), w4, w5, w6] [] F (xqi Q)) : ∀ (f m : Nat) (l : Int), (m : Int) + f = e - k → (l = 1 ∧ (strL (rKy.getD j 0) : Int) = e - k ∧ (∀ i : Nat, i < m → strB (rKy.getD j 0) i = U (k + i))) ∨ (l = 0 ∧ ¬ rIs U k e (rKy.getD j 0)) → xW X d 140 109 [.ref 131, vi (e - k), vi j, vi ((rKs.getD j 0 : Nat) : Int), vi (((rKs.getD j 0 + strL (rKy.getD j 0) : Nat)) : Int), vi l, vi m] [] F (xqi Q) := by
  have kf := rKf j hj
  have hN := hT.2.1
  have hl := strL_c (rKy.getD j 0) (by omega)
  have k18 := rK18
  have fin : ∀ (m : Nat) (l : Int), (l = 1 ∧ rIs U k e (rKy.getD j 0)) ∨ (l = 0 ∧ ¬ rIs U k e (rKy.getD j 0)) → xW X d 140 157 [.ref 131, vi (e - k), vi j, vi ((rKs.getD j 0 : Nat) : Int), vi (((rKs.getD j 0 + strL (rKy.getD j 0) : Nat)) : Int), vi l, vi m] [] F (xqi Q) := by
    intro m l h
    refine s140_157 hP ⟨⟨by omega, by omega⟩, fun c _ => ?_, fun c _ => q1 ?_⟩
    · have := q0 (by rcases h with h | h; omega; exact h.2) (vi (((rKs.getD j 0 + strL (rKy.getD j 0) : Nat)) : Int)) (vi l) (vi m)
      rw [show (((rKs.getD j 0 + strL (rKy.getD j 0) : Nat)) : Int) + 1 = ((rKs.getD (j + 1) 0 : Nat) : Int) by rw [kf.2.2.1]; omega]
      exact this
    · rcases h with h | h
      · exact h.2
      · exact absurd h.1 c
  intro f
  induction f with
  | zero =>
    intro m l hm h
    refine s140_109 hP ⟨⟨by omega, by omega⟩, ⟨by omega, by omega⟩, fun _ _ => fin m l ?_, fun c => absurd (by omega) c⟩
    rcases h with h | h
    · exact Or.inl ⟨h.1, h.2.1, fun i hi => h.2.2 i (by omega)⟩
    · exact Or.inr h
  | succ f ih =>
    intro m l hm h
    refine s140_109 hP ⟨⟨by omega, by omega⟩, ⟨by omega, by omega⟩, fun c => absurd c (by omega), fun _ => ⟨by rcases h with h | h <;> constructor <;> omega, fun c _ => fin m l (Or.inr ?_), fun c => ?_⟩⟩
    · rcases h with h | h
      · omega
      · exact h
    · have h' : l = 1 ∧ (strL (rKy.getD j 0) : Int) = e - k ∧ (∀ i : Nat, i < m → strB (rKy.getD j 0) i = U (k + i)) := by
        rcases h with h | h
        · exact h
        · exact absurd h.1 c
      have km := kf.2.2.2.2.2 m (by omega)
      have sb := strB_b (rKy.getD j 0) (by omega) m (by omega)
      have t := hT.2.2 (k + m) (by omega) (by omega)
      refine ⟨3, hd, p222 hP (by omega) (by omega) ⟨by omega, by omega⟩ ?_⟩
      rw [hs, show ((rKs.getD j 0 : Nat) : Int) + (m : Int) = ((rKs.getD j 0 + m : Nat) : Int) by omega, km.1]
      refine ⟨⟨by omega, by omega⟩, ⟨by omega, by omega⟩, ⟨by omega, by omega⟩, fun c2 _ => ih (m + 1) 0 (by omega) (Or.inr ⟨rfl, fun hr => c2 ?_⟩), fun c2 _ => ih (m + 1) 1 (by omega) (Or.inl ⟨rfl, h'.2.1, fun i hi => ?_⟩)⟩
      · have := hr.2 m (by omega)
        rw [t.2] at this
        split at this <;> omega
      · by_cases hq : i = m
        · subst hq
          rw [t.2]
          split <;> omega
        · exact h'.2.2 i (by omega)
/-- the end of one word among the words -/
theorem l140b {j : Nat} {w5 w6 : Value} (hP : xPT F) (hd : 3 < d) (hj : j < 18) (hk : 0 ≤ k ∧ k ≤ e ∧ e ≤ 600) (q : ∀ l, (l = 1 ∧ (strL (rKy.getD j 0) : Int) = e - k) ∨ (l = 0 ∧ ¬ (strL (rKy.getD j 0) : Int) = e - k) → xW X d 140 109 [.ref 131, vi (e - k), vi j, vi ((rKs.getD j 0 : Nat) : Int), vi (((rKs.getD j 0 + strL (rKy.getD j 0) : Nat)) : Int), vi l, vi 0] [] F (xqi Q)) : ∀ (f m : Nat), m + f = strL (rKy.getD j 0) → xW X d 140 73 [.ref 131, vi (e - k), vi j, vi ((rKs.getD j 0 : Nat) : Int), vi ((rKs.getD j 0 + m : Nat) : Int), w5, w6] [] F (xqi Q) := by
  have kf := rKf j hj
  have k18 := rK18
  have hl := strL_c (rKy.getD j 0) (by omega)
  intro f
  induction f with
  | zero =>
    intro m hm
    rw [show m = strL (rKy.getD j 0) by omega]
    refine s140_73 hP ⟨3, hd, p222 hP (by omega) (by omega) ⟨by omega, by omega⟩ ?_⟩
    rw [kf.2.2.2.2.1]
    refine ⟨⟨by omega, by omega⟩, fun _ => ⟨⟨by omega, by omega⟩, ⟨by omega, by omega⟩, fun c2 _ => q 0 (Or.inr ⟨rfl, by omega⟩), fun c2 _ => q 1 (Or.inl ⟨rfl, by omega⟩)⟩, fun c => absurd rfl c⟩
  | succ f ih =>
    intro m hm
    have km := kf.2.2.2.2.2 m (by omega)
    have sb := strB_b (rKy.getD j 0) (by omega) m (by omega)
    refine s140_73 hP ⟨3, hd, p222 hP (by omega) (by omega) ⟨by omega, by omega⟩ ⟨by rw [km.1]; constructor <;> omega, fun c => absurd c km.2, fun _ _ => ?_⟩⟩
    have := ih (m + 1) (by omega)
    rw [show ((rKs.getD j 0 + (m + 1) : Nat) : Int) = ((rKs.getD j 0 + m : Nat) : Int) + 1 by omega] at this
    exact this
theorem l140a (hP : xPT F) (hd : 3 < d) (hT : rTp U n F) (hk : 0 ≤ k ∧ k ≤ e ∧ e ≤ n) (hs : F 131 6 = k) (q : Q (rKey U k e) F) : ∀ (f j : Nat) (w4 w5 w6 : Value), j + f = 18 → (∀ i, i < j → ¬ rIs U k e (rKy.getD i 0)) → xW X d 140 61 [.ref 131, vi (e - k), vi j, vi ((rKs.getD j 0 : Nat) : Int), w4, w5, w6] [] F (xqi Q) := by
  have k18 := rK18
  have hN := hT.2.1
  intro f
  induction f with
  | zero =>
    intro j w4 w5 w6 hj hno
    have : j = 18 := by omega
    subst this
    refine s140_61 hP ⟨3, hd, p221 hP (by omega) (by omega) ⟨by rw [k18.1]; constructor <;> omega, ⟨by omega, by omega⟩, fun _ _ => ?_, fun c => absurd (by rw [k18.1]; omega) c⟩⟩
    have e1 : rKey U k e = -1 := by
      rcases rKey_p (U := U) (k := k) (e := e) with h | h
      · exact h.1
      · exact absurd h.2.2.1 (hno _ (by omega))
    rw [e1] at q
    exact q
  | succ f ih =>
    intro j w4 w5 w6 hj hno
    have kf := rKf j (by omega)
    refine s140_61 hP ⟨3, hd, p221 hP (by omega) (by omega) ⟨⟨by omega, by omega⟩, ⟨by omega, by omega⟩, fun c => absurd c (by omega), fun _ _ => ?_⟩⟩
    refine l140b hP hd (by omega) (by omega) (fun l hl => ?_) (strL (rKy.getD j 0)) 0 (by omega)
    refine l140c hP hd hT hk hs (by omega) (fun hr => ?_) (fun hr w4 w5 w6 => ?_) (e - k).toNat 0 l (by omega) ?_
    · have e1 : rKey U k e = j := by
        rcases rKey_p (U := U) (k := k) (e := e) with h | h
        · exact absurd (by dsimp only; rw [Int.toNat_natCast]; exact hr) (h.2 j (by omega) (by omega))
        · rcases Int.lt_trichotomy (rKey U k e) j with g | g | g
          · exact absurd h.2.2.1 (hno _ (by omega))
          · exact g
          · exact absurd (by dsimp only; rw [Int.toNat_natCast]; exact hr) (h.2.2.2 j (by omega) g)
      rw [e1] at q
      exact q
    · exact ih (j + 1) w4 w5 w6 (by omega) fun i hi => by
        by_cases hq : i = j
        · rw [hq]; exact hr
        · exact hno i (by omega)
    · rcases hl with h | h
      · exact Or.inl ⟨h.1, h.2, fun i hi => by omega⟩
      · exact Or.inr ⟨h.1, fun hr => h.2 hr.1⟩
theorem l140l (hP : xPT F) (hd : 3 < d) (hT : rTp U n F) (hk : 0 ≤ k ∧ k ≤ n) (hs : F 131 6 = k) (q : Q (rKey U k (rE (cLe U) n k)) F) : ∀ (f m : Nat) (w2 w3 w4 w5 w6 : Value), k + m + f = n → rE (cLe U) n k = rE (cLe U) n (k + m) → xW X d 140 21 [.ref 131, vi m, w2, w3, w4, w5, w6] [] F (xqi Q) := by
  have hN := hT.2.1
  have e5 := hT.1
  have stop : ∀ (m : Nat) (w4 w5 w6 : Value), k + m ≤ n → rE (cLe U) n k = k + m → xW X d 140 61 [.ref 131, vi m, vi 0, vi 1, w4, w5, w6] [] F (xqi Q) := by
    intro m w4 w5 w6 h1 h2
    rw [h2] at q
    have := l140a (X := X) (e := k + m) hP hd hT (by omega) hs q 18 0 w4 w5 w6 (by omega) (fun i h => absurd h (by omega))
    rw [show k + (m : Int) - k = m by omega] at this
    exact this
  intro f
  induction f with
  | zero =>
    intro m w2 w3 w4 w5 w6 hm he
    refine s140_21 hP ⟨by rw [hs]; constructor <;> omega, by rw [e5]; constructor <;> omega, fun _ _ => stop m w4 w5 w6 (by omega) ?_, fun c => absurd (by omega) c⟩
    rw [he, rE_0 (by omega)]
  | succ f ih =>
    intro m w2 w3 w4 w5 w6 hm he
    have t := hT.2.2 (k + m) (by omega) (by omega)
    refine s140_21 hP ⟨by rw [hs]; constructor <;> omega, by rw [e5]; constructor <;> omega, fun c => absurd c (by omega), fun _ => ?_⟩
    rw [hs]
    refine ⟨⟨by omega, by omega⟩, 3, hd, p138 hP (by omega) ⟨by omega, by omega⟩ fun y hy => ⟨hy.r, fun c _ => stop m w4 w5 w6 (by omega) ?_, fun c _ => ?_⟩⟩
    · have := hy.f c
      rw [hT.le (by omega) (by omega)] at this
      rw [he, rE_0 (fun h => this h.2)]
    · have := hy.t c
      rw [hT.le (by omega) (by omega)] at this
      refine ih (m + 1) w2 w3 w4 w5 w6 (by omega) ?_
      rw [he, rE_1 ⟨by omega, this⟩]
      congr 1
      omega
theorem p140 {p : Int} (hP : xPT F) (hd : 4 < d) (hT : rTp U n F) (h7 : F 131 7 = 0) (hp : F 131 6 = p) (h0 : 0 ≤ p ∧ p ≤ n) (q : ∀ G, xPT G → (∀ a i, ¬ (a = 131 ∧ i = 6) → G a i = F a i) → G 131 6 = rE (cBl U) n p → Q (rKey U (rE (cBl U) n p) (rE (cLe U) n (rE (cBl U) n p))) G) : xMI X d 140 [.ref 131] F Q := by
  have hN := hT.2.1
  have hk := rE_p (c := cBl U) (n := n) (p := p)
  have hk2 := hk.2.1 h0.2
  refine m140 hP ⟨by rw [h7]; constructor <;> omega, fun c => absurd h7 c, fun _ => ⟨4, hd, p136 hP hT hp h0 fun G hG k1 e1 => ?_⟩⟩
  have hT1 : rTp U n G := hT.of fun a i h => k1 a i (by omega)
  have ub : -1 ≤ (if rE (cBl U) n p < n then U (rE (cBl U) n p) else -1) ∧ (if rE (cBl U) n p < n then U (rE (cBl U) n p) else -1) ≤ 255 := by
    split
    · next h =>
      have := hT.2.2 (rE (cBl U) n p) (by omega) h
      rw [this.2]
      split <;> omega
    · omega
  refine ⟨4, hd, p138 hG (by omega) ⟨by omega, by omega⟩ fun y hy => ⟨hy.r, fun c _ => ?_, fun c _ => ?_⟩⟩
  · exact l140l hG (by omega) hT1 (by omega) e1 (q G hG k1 e1) (n - rE (cBl U) n p).toNat 0 _ _ _ _ _ (by omega) (by congr 1; omega)
  · have e2 : rE (cLe U) n (rE (cBl U) n p) = rE (cBl U) n p := rE_0 fun h => by
      have := hy.f (by omega)
      rw [if_pos h.1] at this
      unfold cLe at h
      simp only [decide_eq_true_eq] at h
      exact this h.2
    have e3 : rKey U (rE (cBl U) n p) (rE (cLe U) n (rE (cBl U) n p)) = -1 := by
      rcases rKey_p (U := U) (k := rE (cBl U) n p) (e := rE (cLe U) n (rE (cBl U) n p)) with h | h
      · exact h.1
      · have := h.2.2.1.1
        have kf := rKf (rKey U (rE (cBl U) n p) (rE (cLe U) n (rE (cBl U) n p))).toNat (by omega)
        omega
    have := q G hG k1 e1
    rw [e3] at this
    exact this
end WORD
end RD2
