section CL18
variable {X : List Int32} {d : Nat} {F : XF}
variable {T : Int → Int} {t : Nat} {Q : Int → XF → Prop}
/-- all but the marshals is as it was -/
def cAm (F G : XF) : Prop := ∀ p i, ¬ (128 ≤ p ∧ p ≤ 130) → G p i = F p i
theorem mRc_i {sp i j : Int} (hT : mT T) (hi : 0 ≤ i ∧ i < T 4) (hj : 0 ≤ j ∧ j < T 4) (hs : 1 ≤ sp) : mRc T sp i j ↔ (¬ (mFi T j (mLast T)).1 = -1 ∧ 0 < (mFi T j (mLast T)).1 - (mFi T i (mLast T)).2 - 1 ∧ (if 0 ≤ T (8 + 7 * j) - T (8 + 7 * i) then T (8 + 7 * j) - T (8 + 7 * i) else 0 - (T (8 + 7 * j) - T (8 + 7 * i))) ≤ sp * ((mFi T j (mLast T)).1 - (mFi T i (mLast T)).2 - 1)) := by
  have hO := hT.2.2.2.2.2.2.2.2.2.1
  have hX := hT.2.2.2.2.2.2.2.2.1
  have xi := hX i hi.1 hi.2
  have xj := hX j hj.1 hj.2
  unfold mX at xi xj
  have fb := mFi_b (T := T) (x := j) (mLast T)
  obtain ⟨u, eu⟩ : ∃ u, u = (mFi T j (mLast T)).1 - (mFi T i (mLast T)).2 - 1 := ⟨_, rfl⟩
  have em : (if 0 ≤ T (8 + 7 * j) - T (8 + 7 * i) then T (8 + 7 * j) - T (8 + 7 * i) else 0 - (T (8 + 7 * j) - T (8 + 7 * i))) = (if T (8 + 7 * j) < T (8 + 7 * i) then T (8 + 7 * i) - T (8 + 7 * j) else T (8 + 7 * j) - T (8 + 7 * i)) := by
    by_cases z : T (8 + 7 * j) < T (8 + 7 * i)
    · rw [if_neg (by omega), if_pos z]; omega
    · rw [if_pos (by omega), if_neg z]
  unfold mRc
  rw [em, ← eu, Int.mul_comm u sp]
  constructor
  · rintro ⟨a, b⟩
    refine ⟨a, ?_, b⟩
    apply Classical.byContradiction
    intro w
    have neg : sp * u ≤ 0 := by
      have := Int.mul_le_mul_of_nonneg_left (show u ≤ 0 by omega) (show 0 ≤ sp by omega)
      rw [Int.mul_zero] at this
      exact this
    by_cases z : i = j
    · subst z
      have u1 : u ≤ -1 := by omega
      have := Int.mul_le_mul_of_nonneg_left u1 (show 0 ≤ sp by omega)
      rw [if_neg (by omega)] at b
      omega
    · by_cases y : i < j
      · have := hO i j hi.1 y hj.2
        rw [if_neg (by omega)] at b
        omega
      · have := hO j i hj.1 (by omega) hi.2
        rw [if_pos (by omega)] at b
        omega
  · rintro ⟨a, _, c⟩
    exact ⟨a, c⟩
theorem k25 {sp : Int} (hP : xPT F) (hd : 13 < d) (ht : xob 9 t) (h7 : t + 17 ≤ 70) (hT : mT T) (hw : cTw F t T) (hf : cFn F T (mLast T)) (hs : 1 ≤ sp ∧ sp ≤ 50) (q : ∀ G, xPT G → cAm F G → Q (mMs T sp (T 4).toNat).1 G) : xMI X d 25 [.ref 128, .ref t, .ref 98, vi sp] F Q := by
  have h4 := hT.2.2.2.2.1
  have hX := hT.2.2.2.2.2.2.2.2.1
  have ll := (mLast_p (T := T)).1
  have gW : ∀ G, cAm F G → cTw G t T := fun G k => hw.of hT fun p i z => k p i (by omega)
  have g2 : ∀ G, cAm F G → ∀ x, 0 ≤ x → x < T 4 → G 102 x = (mFi T x (mLast T)).1 ∧ G 103 x = (mFi T x (mLast T)).2 := fun G k x a b => by
    rw [k 102 x (by omega), k 103 x (by omega)]
    exact (hf.2.2 x a b).2.2
  have cnt : ∀ (n x : Nat) (G : XF) (w6 w7 : Value), xPT G → cAm F G → cRc G (mRc T sp) (T 4).toNat → (∀ j, 0 ≤ j → j < T 4 → G 130 j = (mMs T sp x).2 j) → (x : Int) + n = T 4 → xW X d 25 158 [.ref 128, .ref t, .ref 98, vi sp, vi (mMs T sp x).1, vi (x : Int), w6, w7] [] G (xqi Q) := by
    intro n
    induction n with
    | zero =>
      intro x G w6 w7 hG kG hr hc hn
      have gw := gW G kG
      rw [show (T 4).toNat = x by omega] at q
      exact s25_158 hG ht ⟨⟨by omega, by omega⟩, by rw [gw.1.2.2.2.2.1]; constructor <;> omega, fun _ _ => q G hG kG, fun z => absurd (by rw [gw.1.2.2.2.2.1]; omega) z⟩
    | succ n ih =>
      intro x G w6 w7 hG kG hr hc hn
      have gw := gW G kG
      have gx := g2 G kG x (by omega) (by omega)
      have fb := mFi_b (T := T) (x := x) (mLast T)
      have mp := mMs_p (sp := sp) hT x (by omega)
      have step : mMs T sp (x + 1) = if (mFi T x (mLast T)).1 = -1 then mMs T sp x else ((mMs T sp x).1 + (1 - (mFn (mRc T sp) (T 4).toNat 11 x (fun _ => 0) (mMs T sp x).2).1), (mFn (mRc T sp) (T 4).toNat 11 x (fun _ => 0) (mMs T sp x).2).2.2) := by rw [mMs]
      have hP2 : xPT (xup G 128 2 0) := xPT_fld (k := 2) hG o128 (by decide) (by decide)
      refine s25_158 hG ht ⟨⟨by omega, by omega⟩, by rw [gw.1.2.2.2.2.1]; constructor <;> omega, fun z => absurd z (by rw [gw.1.2.2.2.2.1]; omega), fun _ => ⟨by omega, ?_⟩⟩
      rw [gx.1]
      refine ⟨⟨by omega, by omega⟩, fun z hH => ?_, fun z => ⟨13, hd, ?_⟩⟩
      · rw [if_pos z] at step
        have := ih (x + 1) (xup G 128 2 0) w6 w7 hH (fun p i u => by rw [xup_n (by omega)]; exact kG p i u) (hr.of fun p i u v => xup_n u) (fun j a b => by rw [xup_o (by decide), step]; exact hc j a b) (by omega)
        rw [step] at this
        exact this
      · rw [if_neg z] at step
        have k2 : cAm F (xup G 128 2 0) := fun p i u => by rw [xup_n (by omega)]; exact kG p i u
        have mk : mFk (fun _ => True) ((T 4).toNat : Int) (mMs T sp x).2 := fun j a b => by
          rcases mp.2.2 j a (by omega) with u | u
          · exact Or.inl u
          · exact Or.inr ⟨u.1, by omega, trivial⟩
        have rp := mFn_p (rc := mRc T sp) (N := (T 4).toNat) (H := fun _ => True) 11 x (fun _ => 0) (mMs T sp x).2 ⟨by omega, by omega, trivial⟩ mk
        refine k26 (rc := mRc T sp) (N := (T 4).toNat) (by omega) 11 13 (xup G 128 2 0) x 0 (fun _ => 0) (mMs T sp x).2 _ (by omega) (by omega) (by omega) hP2 ⟨by omega, by omega⟩ mk (hr.of fun p i u v => xup_n u) (fun j a b => ⟨?_, ?_⟩) fun H hH kH sH => ⟨by rcases rp.1 with u | u <;> rw [u] <;> exact ⟨by decide, by decide⟩, fun z1 hH2 => ?_, fun z1 hH2 => ?_⟩
        · rw [xup_s, mbit_0]
          exact ⟨fun u => absurd u (by decide), fun u => absurd rfl u⟩
        · rw [xup_o (by decide)]; exact hc j a (by omega)
        · have := ih (x + 1) H w6 w7 hH2 (fun p i u => by rw [kH p i (by omega) (by omega)]; exact k2 p i u) ((hr.of fun p i u v => xup_n u).of kH) (fun j a b => by rw [step]; exact (sH j a (by omega)).2) (by omega)
          rw [step, show (mFn (mRc T sp) (T 4).toNat 11 x (fun _ => 0) (mMs T sp x).2).1 = 1 by omega] at this
          dsimp only at this
          rw [show (mMs T sp x).1 + (1 - 1) = (mMs T sp x).1 by omega] at this
          exact this
        · have := ih (x + 1) H w6 w7 hH2 (fun p i u => by rw [kH p i (by omega) (by omega)]; exact k2 p i u) ((hr.of fun p i u v => xup_n u).of kH) (fun j a b => by rw [step]; exact (sH j a (by omega)).2) (by omega)
          rw [step, show (mFn (mRc T sp) (T 4).toNat 11 x (fun _ => 0) (mMs T sp x).2).1 = 0 by omega] at this
          exact this
  have reach : ∀ (n : Nat) (i : Int) (w : ∀ (G : XF) (w5 w6 w7 : Value), xPT G → cAm F G → (∀ j, 0 ≤ j → j < 10 → G 130 j = -1) → (∀ k j : Int, 0 ≤ k → k < 10 → 0 ≤ j → j < 10 → (mbit (G 129 k) j.toNat = true ↔ (k < i + 1 ∧ k < T 4 ∧ j < T 4 ∧ mRc T sp k j))) → xW X d 25 35 [.ref 128, .ref t, .ref 98, vi sp, vi (i + 1), w5, w6, w7] [] G (xqi Q)), (0 ≤ i ∧ i < T 4) → ∀ (j : Int) (G : XF) (w6 w7 : Value), xPT G → cAm F G → (∀ j, 0 ≤ j → j < 10 → G 130 j = -1) → 0 ≤ j → j + n = T 4 → (∀ k l : Int, 0 ≤ k → k < 10 → 0 ≤ l → l < 10 → (mbit (G 129 k) l.toNat = true ↔ ((k < i ∨ (k = i ∧ l < j)) ∧ k < T 4 ∧ l < T 4 ∧ mRc T sp k l))) → xW X d 25 47 [.ref 128, .ref t, .ref 98, vi sp, vi i, vi j, w6, w7] [] G (xqi Q) := by
    intro n
    induction n with
    | zero =>
      intro i w hi j G w6 w7 hG kG h3 hj hn hb
      have gw := gW G kG
      refine s25_47 hG ht ⟨⟨by omega, by omega⟩, by rw [gw.1.2.2.2.2.1]; constructor <;> omega, fun _ _ => w G _ _ _ hG kG h3 fun k l a b c e => ?_, fun z => absurd (by rw [gw.1.2.2.2.2.1]; omega) z⟩
      rw [hb k l a b c e]
      constructor
      · rintro ⟨u, v⟩; exact ⟨by omega, v⟩
      · rintro ⟨u, v⟩; exact ⟨by have := v.2.1; omega, v⟩
    | succ n ih =>
      intro i w hi j G w6 w7 hG kG h3 hj hn hb
      have gw := gW G kG
      have gj := g2 G kG j hj (by omega)
      have gi := g2 G kG i hi.1 hi.2
      have fj := mFi_b (T := T) (x := j) (mLast T)
      have fi := mFi_b (T := T) (x := i) (mLast T)
      have cj := (gw.2.1 j hj (by omega)).1
      have ci := (gw.2.1 i hi.1 hi.2).1
      have xj := hX j hj (by omega)
      have xi := hX i hi.1 hi.2
      unfold mX at xj xi
      have h0 := hT.1
      have mi := mRc_i (T := T) (sp := sp) (i := i) (j := j) hT hi ⟨hj, by omega⟩ hs.1
      have skip : ¬ mRc T sp i j → ∀ w6 w7, xW X d 25 47 [.ref 128, .ref t, .ref 98, vi sp, vi i, vi (j + 1), w6, w7] [] G (xqi Q) := fun no w6 w7 => by
        refine ih i w hi (j + 1) G w6 w7 hG kG h3 (by omega) (by omega) fun k l a b c e => ?_
        rw [hb k l a b c e]
        constructor
        · rintro ⟨u, v⟩; exact ⟨by omega, v⟩
        · rintro ⟨u, v⟩
          refine ⟨?_, v⟩
          by_cases y : k = i ∧ l = j
          · rw [y.1, y.2] at v; exact absurd v.2.2 no
          · omega
      refine s25_47 hG ht ⟨⟨by omega, by omega⟩, by rw [gw.1.2.2.2.2.1]; constructor <;> omega, fun z => absurd z (by rw [gw.1.2.2.2.2.1]; omega), fun _ => ⟨by omega, by omega, by omega, by omega, ?_⟩⟩
      rw [cj, ci, gj.1, gi.2]
      obtain ⟨M, eM⟩ : ∃ M, M = (if 0 ≤ T (8 + 7 * j) - T (8 + 7 * i) then T (8 + 7 * j) - T (8 + 7 * i) else 0 - (T (8 + 7 * j) - T (8 + 7 * i))) := ⟨_, rfl⟩
      rw [← eM] at mi ⊢
      have Mb : 0 ≤ M ∧ M ≤ 1000 := by
        rw [eM]
        split <;> omega
      obtain ⟨U, eU⟩ : ∃ U, U = (mFi T j (mLast T)).1 - (mFi T i (mLast T)).2 - 1 := ⟨_, rfl⟩
      rw [← eU] at mi ⊢
      refine ⟨⟨by omega, by omega⟩, by omega, ⟨by omega, by omega⟩, fun z _ => skip (fun u => (mi.mp u).1 z) _ _, fun z => ⟨⟨by omega, by omega⟩, fun z1 _ => skip (fun u => by have := (mi.mp u).2.1; omega) _ _, fun z1 => ?_⟩⟩
      have mb := mul_b (a := sp) (b := U) (by omega) (by omega)
      refine ⟨⟨by omega, by omega⟩, ⟨by omega, by omega⟩, fun z2 _ => skip (fun u => by have := (mi.mp u).2.2; omega) _ _, fun z2 => ⟨by omega, by omega, fun hH => ?_⟩⟩
      have yes : mRc T sp i j := mi.mpr ⟨z, by omega, by omega⟩
      refine ih i w hi (j + 1) _ _ _ hH (fun p k u => by rw [xup_o (by omega)]; exact kG p k u) (fun k a b => by rw [xup_o (by decide)]; exact h3 k a b) (by omega) (by omega) fun k l a b c e => ?_
      by_cases y : k = i
      · rw [y, xup_s, mbit_or, mbit_shl' (by omega) (by omega) (by omega)]
        by_cases y2 : l = j
        · rw [y2, decide_eq_true (show ((j.toNat : Nat) : Int) = j by omega), Bool.or_true]
          exact ⟨fun _ => ⟨by omega, by omega, by omega, yes⟩, fun _ => rfl⟩
        · rw [decide_eq_false (show ¬ ((l.toNat : Nat) : Int) = j by omega), Bool.or_false, hb i l hi.1 (by omega) c e]
          constructor
          · rintro ⟨u, v⟩; exact ⟨by omega, v⟩
          · rintro ⟨u, v⟩; exact ⟨by omega, v⟩
      · rw [xup_i y, hb k l a b c e]
        constructor
        · rintro ⟨u, v⟩; exact ⟨by omega, v⟩
        · rintro ⟨u, v⟩; exact ⟨by omega, v⟩
  have rows : ∀ (n : Nat) (i : Int) (G : XF) (w5 w6 w7 : Value), xPT G → cAm F G → (∀ j, 0 ≤ j → j < 10 → G 130 j = -1) → 0 ≤ i → i + n = T 4 → (∀ k j : Int, 0 ≤ k → k < 10 → 0 ≤ j → j < 10 → (mbit (G 129 k) j.toNat = true ↔ (k < i ∧ k < T 4 ∧ j < T 4 ∧ mRc T sp k j))) → xW X d 25 35 [.ref 128, .ref t, .ref 98, vi sp, vi i, w5, w6, w7] [] G (xqi Q) := by
    intro n
    induction n with
    | zero =>
      intro i G w5 w6 w7 hG kG h3 hi hn hb
      have gw := gW G kG
      refine s25_35 hG ht ⟨⟨by omega, by omega⟩, by rw [gw.1.2.2.2.2.1]; constructor <;> omega, fun _ _ => cnt (T 4).toNat 0 G _ _ hG kG (fun k j a b c e => ?_) (fun j a b => h3 j a (by omega)) (by omega), fun z => absurd (by rw [gw.1.2.2.2.2.1]; omega) z⟩
      rw [hb k j a (by omega) c e]
      constructor
      · rintro ⟨_, _, u, v⟩; exact ⟨by omega, v⟩
      · rintro ⟨u, v⟩; exact ⟨by omega, by omega, by omega, v⟩
    | succ n ih =>
      intro i G w5 w6 w7 hG kG h3 hi hn hb
      have gw := gW G kG
      refine s25_35 hG ht ⟨⟨by omega, by omega⟩, by rw [gw.1.2.2.2.2.1]; constructor <;> omega, fun z => absurd z (by rw [gw.1.2.2.2.2.1]; omega), fun _ _ => reach (T 4).toNat i (fun H w5 w6 w7 hH kH h3 hb' => ih (i + 1) H w5 w6 w7 hH kH h3 (by omega) (by omega) hb') (by omega) 0 G _ _ hG kG h3 (by omega) (by omega) fun k l a b c e => ?_⟩
      rw [hb k l a b c e]
      constructor
      · rintro ⟨u, v⟩; exact ⟨by omega, v⟩
      · rintro ⟨u, v⟩; exact ⟨by omega, v⟩
  have clr : ∀ (n : Nat) (i : Int) (G : XF) (w5 w6 w7 : Value), xPT G → cAm F G → 0 ≤ i → i + n = 10 → (∀ j, 0 ≤ j → j < i → G 130 j = -1 ∧ G 129 j = 0) → xW X d 25 3 [.ref 128, .ref t, .ref 98, vi sp, vi i, w5, w6, w7] [] G (xqi Q) := by
    intro n
    induction n with
    | zero =>
      intro i G w5 w6 w7 hG kG hi hn hb
      refine s25_3 hG ht ⟨⟨by omega, by omega⟩, fun _ _ => rows (T 4).toNat 0 G _ _ _ hG kG (fun j a b => (hb j a (by omega)).1) (by omega) (by omega) fun k j a b c e => ?_, fun z => absurd (by omega) z⟩
      rw [(hb k a (by omega)).2, mbit_0]
      exact ⟨fun u => absurd u (by decide), fun u => by have := u.1; omega⟩
    | succ n ih =>
      intro i G w5 w6 w7 hG kG hi hn hb
      refine s25_3 hG ht ⟨⟨by omega, by omega⟩, fun z => absurd z (by omega), fun _ => ⟨by omega, by omega, fun hH => ih (i + 1) _ w5 w6 w7 hH (fun p k u => by rw [xup_o (by omega), xup_o (by omega)]; exact kG p k u) (by omega) (by omega) fun j a b => ?_⟩⟩
      by_cases y : j = i
      · rw [y, xup_o (by decide), xup_s, xup_s]; exact ⟨rfl, rfl⟩
      · rw [xup_o (by decide), xup_i y, xup_i y, xup_o (by decide)]; exact hb j a (by omega)
  exact m25 hP ht fun _ => clr 10 0 F _ _ _ hP (fun _ _ _ => rfl) (by omega) (by omega) fun j a b => by omega
end CL18
