section CL17
variable {X : List Int32} {d : Nat} {F : XF}
theorem o128 : xob (xkd0 128) 128 := ⟨by decide, rfl⟩
/-- bit j of canReach i -/
def cRc (F : XF) (rc : Int → Int → Prop) (N : Nat) : Prop := ∀ i j : Int, 0 ≤ i → i < N → 0 ≤ j → j < 10 → (mbit (F 129 i) j.toNat = true ↔ j < N ∧ rc i j)
/-- who was looked at, and from where each comes -/
def cMs (F : XF) (N : Nat) (a f : Int → Int) : Prop := ∀ j : Int, 0 ≤ j → j < N → (mbit (F 128 2) j.toNat = true ↔ ¬ a j = 0) ∧ F 130 j = f j
def cMf (F G : XF) : Prop := ∀ p i, ¬ (p = 128 ∧ i = 2) → ¬ p = 130 → G p i = F p i
theorem cMf.trans {F G H : XF} (a : cMf F G) (b : cMf G H) : cMf F H := fun p i x y => (b p i x y).trans (a p i x y)
theorem cRc.of {G : XF} {rc : Int → Int → Prop} {N : Nat} (h : cRc F rc N) (k : cMf F G) : cRc G rc N := fun i j a b c e => by rw [k 129 i (by omega) (by omega)]; exact h i j a b c e
theorem k26 {rc : Int → Int → Prop} {N : Nat} (hN : N ≤ 10) : ∀ (D d : Nat) (F : XF) (i depth : Int) (a f : Int → Int) (Q : Int → XF → Prop), (D : Int) + depth = 11 → 0 ≤ depth → D < d → xPT F → (0 ≤ i ∧ i < N) → mFk (fun _ => True) N f → cRc F rc N → cMs F N a f → (∀ G, xPT G → cMf F G → cMs G N (mFn rc N D i a f).2.1 (mFn rc N D i a f).2.2 → Q (mFn rc N D i a f).1 G) → xMI X d 26 [.ref 128, vi i, vi depth] F Q := by
  intro D
  induction D with
  | zero =>
    intro d F i depth a f Q hD h0 hd hP hi hf hr hs q
    exact m26 hP ⟨⟨by omega, by omega⟩, fun _ _ => q F hP (fun _ _ _ _ => rfl) hs, fun z => absurd (by omega) z⟩
  | succ D IH =>
    intro d F i depth a f Q hD h0 hd hP hi hf hr hs q
    have tail : ∀ (m : Nat) (j : Int) (G : XF), xPT G → cMf F G → (N : Int) ≤ j → j + m = 10 → Q 0 G → xW X d 26 20 [.ref 128, vi i, vi depth, vi j] [] G (xqi Q) := by
      intro m
      induction m with
      | zero =>
        intro j G hG kG hj hm hq
        exact s26_20 hG ⟨⟨by omega, by omega⟩, fun _ _ => hq, fun z => absurd (by omega) z⟩
      | succ m ih =>
        intro j G hG kG hj hm hq
        have xb := xbit' (v := xand (G 129 i) (xxor (G 128 2) (-1))) (k := j) (by omega) (by omega)
        have no : mbit (G 129 i) j.toNat = false := by
          rw [kG 129 i (by omega) (by omega)]
          apply Bool.eq_false_iff.mpr
          intro z
          have := ((hr i j hi.1 hi.2 (by omega) (by omega)).mp z).1
          omega
        rw [mbit_and, no, Bool.false_and, if_neg (by decide)] at xb
        exact s26_20 hG ⟨⟨by omega, by omega⟩, fun z => absurd z (by omega), fun _ => ⟨by omega, by rw [xb]; exact ⟨by decide, by decide⟩, fun _ _ => ih (j + 1) G hG kG (by omega) (by omega) hq, fun z => absurd xb z⟩⟩
    have loop : ∀ (n : Nat) (j : Int) (G : XF) (a' f' : Int → Int), xPT G → cMf F G → cMs G N a' f' → mFk (fun _ => True) N f' → 0 ≤ j → j + n = N → mFL rc i (mFn rc N D) n j a' f' = mFn rc N (D + 1) i a f → xW X d 26 20 [.ref 128, vi i, vi depth, vi j] [] G (xqi Q) := by
      intro n
      induction n with
      | zero =>
        intro j G a' f' hG kG hs' hf' hj hn he
        have e : mFn rc N (D + 1) i a f = (0, a', f') := by rw [← he]; rfl
        rw [e] at q
        exact tail (10 - N) j G hG kG (by omega) (by omega) (q G hG kG hs')
      | succ n ih =>
        intro j G a' f' hG kG hs' hf' hj hn he
        have sj := hs' j hj (by omega)
        have rj := (hr.of kG) i j hi.1 hi.2 hj (by omega)
        have fj := hf' j hj (by omega)
        have xb := xbit' (v := xand (G 129 i) (xxor (G 128 2) (-1))) (k := j) (by omega) (by omega)
        rw [mbit_and, mbit_xor, mbit_m1 (by omega)] at xb
        unfold mFL at he
        refine s26_20 hG ⟨⟨by omega, by omega⟩, fun z => absurd z (by omega), fun _ => ⟨by omega, xand_r, fun z _ => ?_, fun z => ?_⟩⟩
        · have no : ¬ (mV (rc i j) = 1 ∧ a' j = 0) := fun w => by
            have b1 : mbit (G 129 i) j.toNat = true := rj.mpr ⟨by omega, mV_b.t (by rw [w.1]; decide)⟩
            have b2 : mbit (G 128 2) j.toNat = false := by
              apply Bool.eq_false_iff.mpr
              intro y
              exact (sj.1.mp y) w.2
            rw [b1, b2] at xb
            rw [xb] at z
            exact absurd z (by decide)
          rw [if_neg no] at he
          exact ih (j + 1) G a' f' hG kG hs' hf' (by omega) (by omega) he
        · have yes : mbit (G 129 i) j.toNat = true ∧ mbit (G 128 2) j.toNat = false := by
            cases b1 : mbit (G 129 i) j.toNat <;> cases b2 : mbit (G 128 2) j.toNat
            · rw [b1, b2] at xb; exact absurd xb z
            · rw [b1, b2] at xb; exact absurd xb z
            · exact ⟨rfl, rfl⟩
            · rw [b1, b2] at xb; exact absurd xb z
          have aj : a' j = 0 := by
            apply Classical.byContradiction
            intro y
            have := sj.1.mpr y
            rw [yes.2] at this
            exact absurd this (by decide)
          rw [if_pos ⟨mV_t (rj.mp yes.1).2, aj⟩] at he
          rw [sj.2]
          have lk : ∀ k : Int, 0 ≤ k → k < N → (mbit (xior (G 128 2) (xshl 1 j)) k.toNat = true ↔ ¬ mSet a' j 1 k = 0) := fun k p q => by
            rw [mbit_or, mbit_shl' (by omega) (by omega) (by omega)]
            by_cases y : k = j
            · rw [y, mSet_s, decide_eq_true (show ((j.toNat : Nat) : Int) = j by omega), Bool.or_true]
              exact ⟨fun _ => by decide, fun _ => rfl⟩
            · rw [mSet_n y, decide_eq_false (show ¬ ((k.toNat : Nat) : Int) = j by omega), Bool.or_false]
              exact (hs' k p q).1
          refine ⟨by omega, by rcases fj with y | y; rw [y]; exact ⟨by decide, by decide⟩; exact ⟨by omega, by omega⟩, fun z1 => ⟨by omega, fun hH => ?_⟩, fun z1 => ⟨by omega, D + 1, hd, ?_⟩⟩
          · rw [if_pos z1] at he
            rw [← he] at q
            refine q _ hH (kG.trans fun p k x y => by rw [xup_o y, xup_n x]) fun k p w => ⟨by rw [xup_o (by decide), xup_s]; exact lk k p w, ?_⟩
            dsimp only
            by_cases y : k = j
            · rw [y, xup_s, mSet_s]
            · rw [xup_i y, xup_o (by decide), mSet_n y]; exact (hs' k p w).2
          · rw [if_neg z1] at he
            have hP2 : xPT (xup G 128 2 (xior (G 128 2) (xshl 1 j))) := xPT_fld (k := 2) hG o128 (by decide) (by decide)
            have fr : 0 ≤ f' j ∧ f' j < N := by rcases fj with y | y; exact absurd y z1; exact ⟨y.1, y.2.1⟩
            have k2 : cMf F (xup G 128 2 (xior (G 128 2) (xshl 1 j))) := kG.trans fun p k x y => xup_n x
            have rp := mFn_p (rc := rc) (N := N) (H := fun _ => True) D (f' j) (mSet a' j 1) f' ⟨fr.1, fr.2, trivial⟩ hf'
            refine IH (D + 1) _ (f' j) (depth + 1) (mSet a' j 1) f' _ (by omega) (by omega) (by omega) hP2 fr hf' (hr.of k2) (fun k p w => ⟨by rw [xup_s]; exact lk k p w, by rw [xup_o (by decide)]; exact (hs' k p w).2⟩) fun H hH kH sH => ⟨by rcases rp.1 with y | y <;> rw [y] <;> exact ⟨by decide, by decide⟩, fun z2 hH2 => ?_, fun z2 => ⟨by omega, fun hH2 => ?_⟩⟩
            · rw [if_neg (by omega)] at he
              exact ih (j + 1) H _ _ hH2 (k2.trans kH) sH rp.2.1 (by omega) (by omega) he
            · rw [if_pos (by omega)] at he
              rw [← he] at q
              refine q _ hH2 ((k2.trans kH).trans fun p k x y => xup_o y) fun k p w => ⟨by rw [xup_o (by decide)]; exact (sH k p w).1, ?_⟩
              dsimp only
              by_cases y : k = j
              · rw [y, xup_s, mSet_s]
              · rw [xup_i y, mSet_n y]; exact (sH k p w).2
    refine m26 hP ⟨⟨by omega, by omega⟩, fun z => absurd z (by omega), fun _ => ⟨⟨by omega, by omega⟩, fun z => absurd z (by omega), fun _ => ⟨⟨by omega, by omega⟩, fun _ _ => loop N 0 F a f hP (fun _ _ _ _ => rfl) hs hf (by omega) (by omega) rfl, fun z => absurd (by omega) z⟩⟩⟩
end CL17
