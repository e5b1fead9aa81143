section CL22
variable {X : List Int32} {d : Nat} {F : XF}
variable {T T' : Int → Int} {t : Nat} {Q : XF → Prop}
/-! the class's acts: how each is taken back -/
theorem o37 : xob (xkd0 37) 37 := ⟨by decide, rfl⟩
/-- act j of G is act j' of F -/
def cEq (F G : XF) (j j' : Int) : Prop := G 38 j = F 38 j' ∧ G 39 j = F 39 j' ∧ G 40 j = F 40 j' ∧ G 41 j = F 41 j'
def cEt (G : XF) (j k a b c : Int) : Prop := G 38 j = k ∧ G 39 j = a ∧ G 40 j = b ∧ G 41 j = c
def cPush (F G : XF) (k a b c : Int) : Prop := (F 37 0 < 10 ∧ G 37 0 = F 37 0 + 1 ∧ (∀ j, 0 ≤ j → j < F 37 0 → cEq F G j j) ∧ cEt G (F 37 0) k a b c) ∨ (F 37 0 = 10 ∧ G 37 0 = 10 ∧ (∀ j, 0 ≤ j → j < 9 → cEq F G j (j + 1)) ∧ cEt G 9 k a b c)
def cKa (F G : XF) : Prop := ∀ p i, ¬ (p = 37 ∧ i = 0) → ¬ (38 ≤ p ∧ p ≤ 41) → G p i = F p i
theorem k1 (hP : xPT F) (q : ∀ G, xPT G → cKa F G → G 37 0 = 0 → Q G) : xMV X d 1 [.ref 37] F Q := m1 hP fun hG => q _ hG (fun p i a _ => xup_n a) xup_s
theorem k3 (hP : xPT F) (q : ∀ G, xPT G → cKa F G → G 37 0 = 9 → (∀ j, 0 ≤ j → j < 9 → cEq F G j (j + 1)) → Q G) : xMV X d 3 [.ref 37] F Q := by
  have loop : ∀ (n : Nat) (x : Int) (G : XF), xPT G → 1 ≤ x → x + n = 10 → cKa F G → (∀ j, 0 ≤ j → j < 10 → cEq F G j (if j < x - 1 then j + 1 else j)) → xW X d 3 2 [.ref 37, vi x] [] G (xqv Q) := by
    intro n
    induction n with
    | zero =>
      intro x G hG hx hn kG e
      refine s3_2 hG ⟨⟨by omega, by omega⟩, fun _ hH => q _ hH (fun p i a b => by rw [xup_n a]; exact kG p i a b) xup_s fun j a b => ?_, fun z => absurd (by omega) z⟩
      have := e j a (by omega)
      rw [if_pos (by omega)] at this
      unfold cEq at this ⊢
      rw [xup_o (by decide), xup_o (by decide), xup_o (by decide), xup_o (by decide)]
      exact this
    | succ n ih =>
      intro x G hG hx hn kG e
      refine s3_2 hG ⟨⟨by omega, by omega⟩, fun z => absurd z (by omega), fun _ => ⟨by omega, by omega, by omega, by omega, by omega, by omega, by omega, by omega, fun hH => ih (x + 1) _ hH (by omega) (by omega) (fun p i a b => by rw [xup_o (by omega), xup_o (by omega), xup_o (by omega), xup_o (by omega)]; exact kG p i a b) fun j a b => ?_⟩⟩
      unfold cEq at e ⊢
      by_cases z : j = x - 1
      · subst z
        have ex := e x (by omega) (by omega)
        rw [if_neg (by omega)] at ex
        rw [if_pos (by omega), show x - 1 + 1 = x by omega]
        refine ⟨?_, ?_, ?_, ?_⟩
        · rw [xup_o (by decide), xup_o (by decide), xup_o (by decide), xup_s]; exact ex.1
        · rw [xup_o (by decide), xup_o (by decide), xup_s]; exact ex.2.1
        · rw [xup_o (by decide), xup_s]; exact ex.2.2.1
        · rw [xup_s]; exact ex.2.2.2
      · have ej := e j a b
        rw [xup_o (by decide), xup_o (by decide), xup_o (by decide), xup_i z, xup_o (by decide), xup_o (by decide), xup_i z, xup_o (by decide), xup_o (by decide), xup_i z, xup_o (by decide), xup_o (by decide), xup_i z, xup_o (by decide), xup_o (by decide), xup_o (by decide)]
        by_cases y : j < x - 1
        · rw [if_pos y] at ej
          rw [if_pos (by omega)]; exact ej
        · rw [if_neg y] at ej
          rw [if_neg (by omega)]; exact ej
  exact m3 hP fun _ => loop 9 1 F hP (by omega) (by omega) (fun _ _ _ _ => rfl) fun j a b => by rw [if_neg (by omega)]; exact ⟨rfl, rfl, rfl, rfl⟩
theorem k2 {k a b c : Int} (hP : xPT F) (hd : 0 < d) (hn : 0 ≤ F 37 0 ∧ F 37 0 ≤ 10) (q : ∀ G, xPT G → cKa F G → cPush F G k a b c → Q G) : xMV X d 2 [.ref 37, vi k, vi a, vi b, vi c] F Q := by
  have put : ∀ G : XF, xPT G → cKa F G → (0 ≤ G 37 0 ∧ G 37 0 < 10) → (∀ H, (∀ j, 0 ≤ j → j < G 37 0 → cEq G H j j) → H 37 0 = G 37 0 + 1 → cEt H (G 37 0) k a b c → cPush F H k a b c) → xW X d 2 13 [.ref 37, vi k, vi a, vi b, vi c] [] G (xqv Q) := fun G hG kG hb hp => by
    refine s2_13 hG ⟨hb, hb, hb, hb, fun hH => q _ hH (fun p i u v => by rw [xup_n u, xup_o (by omega), xup_o (by omega), xup_o (by omega), xup_o (by omega)]; exact kG p i u v) (hp _ (fun j u v => ?_) xup_s ?_)⟩
    · have e : ∀ p : Nat, (38 ≤ p ∧ p ≤ 41) → xup (xup (xup (xup (xup G 38 (G 37 0) k) 39 (G 37 0) a) 40 (G 37 0) b) 41 (G 37 0) c) 37 0 (G 37 0 + 1) p j = G p j := fun p hp => by rw [xup_n (by omega), xup_n (by omega), xup_n (by omega), xup_n (by omega), xup_n (by omega)]
      exact ⟨e 38 (by omega), e 39 (by omega), e 40 (by omega), e 41 (by omega)⟩
    · unfold cEt
      refine ⟨?_, ?_, ?_, ?_⟩
      · rw [xup_o (by decide), xup_o (by decide), xup_o (by decide), xup_o (by decide), xup_s]
      · rw [xup_o (by decide), xup_o (by decide), xup_o (by decide), xup_s]
      · rw [xup_o (by decide), xup_o (by decide), xup_s]
      · rw [xup_o (by decide), xup_s]
  refine m2 hP ⟨⟨by omega, by omega⟩, fun z _ => put F hP (fun _ _ _ _ => rfl) (by omega) fun H e1 e2 e3 => Or.inl ⟨z, e2, e1, e3⟩, fun z => ⟨0, hd, k3 hP fun G hG kG g9 eG _ => put G hG kG (by omega) fun H e1 e2 e3 => Or.inr ⟨by omega, by omega, fun j u v => ?_, by rw [g9] at e3; exact e3⟩⟩⟩
  have x := e1 j u (by omega)
  have y := eG j u v
  unfold cEq at *
  exact ⟨x.1.trans y.1, x.2.1.trans y.2.1, x.2.2.1.trans y.2.2.1, x.2.2.2.trans y.2.2.2⟩
/-- taken back by act (k, a, b, c), T is T' -/
def cBk (k a b c : Int) (T T' : Int → Int) : Prop := (k = 0 ∧ (0 ≤ a ∧ a < 30) ∧ (∀ i, ¬ i = 108 + a → T' i = T i) ∧ T' (108 + a) = 1 - T (108 + a)) ∨ (k = 1 ∧ (∀ i, ¬ i = 3 → T' i = T i) ∧ T' 3 = a) ∨ (k = 2 ∧ T' 7 = T 7 - 1 ∧ 1 ≤ T 7 ∧ (∀ i, ¬ i = 7 → i < 142 + 3 * (T 7 - 1) → T' i = T i)) ∨ (k = 3 ∧ T 7 ≤ 6 ∧ T' 7 = T 7 + 1 ∧ (∀ i, ¬ i = 7 → i < 142 + 3 * T 7 → T' i = T i) ∧ T' (142 + 3 * T 7) = a ∧ T' (142 + 3 * T 7 + 1) = b ∧ T' (142 + 3 * T 7 + 2) = c)
/-- the town holds fewer of the broken ones, or as many -/
theorem cTw.sw {G : XF} (h : cTw F t T) (h4 : 0 ≤ T 4 ∧ T 4 ≤ 10) (h5 : 0 ≤ T 5 ∧ T 5 ≤ 30) (h6 : 0 ≤ T 6 ∧ T 6 ≤ 4) (e : ∀ p i, (t ≤ p ∧ p < t + 17) → ¬ (p = t ∧ i = 11) → G p i = F p i) (h7 : 0 ≤ T' 7 ∧ T' 7 ≤ T 7) (h11 : G t 11 = T' 7) (s : ∀ i, ¬ i = 7 → i < 142 + 3 * T' 7 → T' i = T i) : cTw G t T' := by
  obtain ⟨⟨a0, a1, a2, a3, a4, a5, a6, a7⟩, x, c, b, g, k⟩ := h
  have e0 : ∀ i, ¬ i = 11 → G t i = F t i := fun i z => e t i (by omega) (by omega)
  have s4 : T' 4 = T 4 := s 4 (by omega) (by omega)
  have s5 : T' 5 = T 5 := s 5 (by omega) (by omega)
  have s6 : T' 6 = T 6 := s 6 (by omega) (by omega)
  refine ⟨⟨by rw [e0 _ (by omega), s _ (by omega) (by omega)]; exact a0, by rw [e0 _ (by omega), s _ (by omega) (by omega)]; exact a1, by rw [e0 _ (by omega), s _ (by omega) (by omega)]; exact a2, by rw [e0 _ (by omega), s _ (by omega) (by omega)]; exact a3, by rw [e0 _ (by omega), s _ (by omega) (by omega)]; exact a4, by rw [e0 _ (by omega), s _ (by omega) (by omega)]; exact a5, by rw [e0 _ (by omega), s _ (by omega) (by omega)]; exact a6, h11⟩, fun y p q => ?_, fun y p q => by rw [e _ _ (by omega) (by omega), s _ (by omega) (by omega)]; exact c y p (by omega), fun y p => by rw [e0 _ (by omega), s _ (by omega) (by omega)]; exact b y p, fun y p q => by rw [e _ _ (by omega) (by omega), s _ (by omega) (by omega)]; exact g y p (by omega), fun y p q => by rw [e _ _ (by omega) (by omega), e _ _ (by omega) (by omega), e _ _ (by omega) (by omega), s _ (by omega) (by omega), s _ (by omega) (by omega), s _ (by omega) (by omega)]; exact k y p (by omega)⟩
  have := x y p (by omega)
  unfold cCr cX at *
  have ex : ∀ i, G (t + 1 + 6 + y.toNat) i = F (t + 1 + 6 + y.toNat) i := fun i => e _ i (by omega) (by omega)
  rw [ex, ex, ex, ex, ex, ex, ex, s _ (by omega) (by omega), s _ (by omega) (by omega), s _ (by omega) (by omega), s _ (by omega) (by omega), s _ (by omega) (by omega), s _ (by omega) (by omega), s _ (by omega) (by omega)]
  exact this
/-- an act is taken back -/
theorem k4 {k a b c : Int} (hP : xPT F) (hd : 0 < d) (ht : xob 9 t) (h7 : t + 17 ≤ 37) (hT : mT T) (hw : cTw F t T) (hn : 1 ≤ F 37 0 ∧ F 37 0 ≤ 10) (he : cEt F (F 37 0 - 1) k a b c) (hb : cBk k a b c T T') (q : ∀ G, xPT G → (∀ p i, ¬ (p = 37 ∧ i = 0) → ¬ (t ≤ p ∧ p < t + 17) → G p i = F p i) → G 37 0 = F 37 0 - 1 → cTw G t T' → Q G) : xMV X d 4 [.ref 37, .ref t] F Q := by
  obtain ⟨e1, e2, e3, e4⟩ := he
  have h77 := hT.2.2.2.2.2.2.2.1
  have hs := hT.2.2.2.2.2.2.2.2.2.2.2.1
  have w7 : cTw (xup F 37 0 (F 37 0 - 1)) t T := hw.of hT fun p i z => xup_o (by omega)
  have tw := w7.1
  have f11 : xup F 37 0 (F 37 0 - 1) t 11 = T 7 := tw.2.2.2.2.2.2.2
  have hk : k = 0 ∨ k = 1 ∨ k = 2 ∨ k = 3 := by
    rcases hb with z | z | z | z
    · exact Or.inl z.1
    · exact Or.inr (Or.inl z.1)
    · exact Or.inr (Or.inr (Or.inl z.1))
    · exact Or.inr (Or.inr (Or.inr z.1))
  have fr : ∀ (v : Int) (j : Int) p i, ¬ (p = 37 ∧ i = 0) → ¬ (t ≤ p ∧ p < t + 17) → xup (xup F 37 0 (F 37 0 - 1)) t j v p i = F p i := fun v j p i x y => by rw [xup_n (by omega), xup_n x]
  have cn : ∀ (v : Int) (j : Int), xup (xup F 37 0 (F 37 0 - 1)) t j v 37 0 = F 37 0 - 1 := fun v j => by rw [xup_n (by omega), xup_s]
  refine m4 hP ht ⟨⟨by omega, by omega⟩, fun _ => ?_, fun z => absurd hn.1 z⟩
  rw [e1, e2, e3, e4, f11]
  refine ⟨by omega, by rcases hk with z | z | z | z <;> rw [z] <;> exact ⟨by decide, by decide⟩, fun z => ⟨by omega, by omega, by omega, 0, hd, ?_⟩, fun z => ⟨by omega, fun hG => ?_⟩, fun z => ⟨by omega, fun hG => ?_⟩, fun z => ⟨⟨by omega, by omega⟩, fun hG => ?_⟩⟩
  · have hP2 : xPT (xup F 37 0 (F 37 0 - 1)) := xPT_fld (k := 0) hP o37 (by decide) (by decide)
    rcases hb with y | y | y | y
    · omega
    · omega
    · omega
    · refine k74 hP2 ht hT y.2.1 w7 fun G hG kG wG _ => q G hG (fun p i u v => by rw [kG p i v, xup_n u]) (by rw [kG 37 0 (by omega), xup_s]) ?_
      have m := fun i (u : ¬ i = 7) (v : i < 142 + 3 * T 7) => mBrT_o (T := T) (c := a) (t := b) (m := c) (i := i) h77.1 u (Or.inl v)
      have z0 := mBrT_0 (T := T) (c := a) (t := b) (m := c) h77.1
      refine wG.sw (by rw [m 4 (by omega) (by omega)]; exact hT.2.2.2.2.1) (by rw [m 5 (by omega) (by omega)]; exact hT.2.2.2.2.2.1) (by rw [m 6 (by omega) (by omega)]; exact hT.2.2.2.2.2.2.1) (fun _ _ _ _ => rfl) (by rw [mBrT_7]; omega) (by rw [wG.1.2.2.2.2.2.2.2, mBrT_7]; omega) fun i u v => ?_
      by_cases i0 : i < 142 + 3 * T 7
      · rw [m i u i0]; exact y.2.2.2.1 i u i0
      by_cases i1 : i = 142 + 3 * T 7
      · rw [i1, z0.1]; exact y.2.2.2.2.1
      by_cases i2 : i = 142 + 3 * T 7 + 1
      · rw [i2, z0.2.1]; exact y.2.2.2.2.2.1
      · rw [show i = 142 + 3 * T 7 + 2 by omega, z0.2.2]; exact y.2.2.2.2.2.2
  · rcases hb with y | y | y | y
    · obtain ⟨_, ya, yo, yt⟩ := y
      obtain ⟨u, eu⟩ : ∃ u, u = xup F 37 0 (F 37 0 - 1) t 8 := ⟨_, rfl⟩
      rw [← eu] at hG ⊢
      have bu := w7.2.2.2.1
      rw [← eu] at bu
      refine q _ hG (fr _ _) (cn _ _) (w7.to hT (fun p i z => xup_n (by omega)) ⟨?_, ?_, ?_, ?_, ?_, ?_, ?_, ?_⟩ (yo _ (by omega)) (yo _ (by omega)) (yo _ (by omega)) (yo _ (by omega)) (fun i z => yo _ (by omega)) fun j hj => ?_)
      · rw [xup_i (by omega), yo _ (by omega)]; exact tw.1
      · rw [xup_i (by omega), yo _ (by omega)]; exact tw.2.1
      · rw [xup_i (by omega), yo _ (by omega)]; exact tw.2.2.1
      · rw [xup_i (by omega), yo _ (by omega)]; exact tw.2.2.2.1
      · rw [xup_i (by omega), yo _ (by omega)]; exact tw.2.2.2.2.1
      · rw [xup_i (by omega), yo _ (by omega)]; exact tw.2.2.2.2.2.1
      · rw [xup_i (by omega), yo _ (by omega)]; exact tw.2.2.2.2.2.2.1
      · rw [xup_i (by omega), yo _ (by omega)]; exact tw.2.2.2.2.2.2.2
      · rw [xup_s, mbit_xor, mbit_shl' ya.1 (by omega) (by omega)]
        have bj := bu j hj
        by_cases v : (j : Int) = a
        · rw [decide_eq_true v, Bool.xor_true, v, yt, ← v, bj]
          cases mbit u j <;> decide
        · rw [decide_eq_false v, Bool.xor_false, yo _ (by omega)]
          exact bj
    · omega
    · omega
    · omega
  · rcases hb with y | y | y | y
    · omega
    · have : T' = mSet T 3 a := by
        funext i
        by_cases u : i = 3
        · rw [u, mSet_s]; exact y.2.2
        · rw [mSet_n u]; exact y.2.1 i u
      rw [this] at q
      exact q _ hG (fr _ _) (cn _ _) (w7.v3 hT)
    · omega
    · omega
  · rcases hb with y | y | y | y
    · omega
    · omega
    · exact q _ hG (fr _ _) (cn _ _) (w7.sw hT.2.2.2.2.1 hT.2.2.2.2.2.1 hT.2.2.2.2.2.2.1 (fun p i u v => xup_n v) (by omega) (by rw [xup_s]; omega) fun i u v => y.2.2.2 i u (by omega))
    · omega
end CL22
