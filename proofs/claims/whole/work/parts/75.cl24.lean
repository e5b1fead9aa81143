section CL24
variable {X : List Int32} {d : Nat} {F : XF}
variable {T : Int → Int} {t n : Nat} {Q : Int → XF → Prop}
theorem k99 {c u m : Int} (hP : xPT F) (hd : 3 < d) (hc : inR c) (hu : inR u) (hm : inR m) (h : cO F t T) (hn : 0 ≤ F 37 0 ∧ F 37 0 ≤ 10) (q2 : ¬ (0 ≤ c ∧ c < T 5) → Q (-2) F) (q3 : (0 ≤ c ∧ c < T 5) → ¬ ((0 ≤ u ∧ u ≤ 1999) ∧ (1 ≤ m ∧ m ≤ 500)) → Q (-3) F) (q4 : (0 ≤ c ∧ c < T 5) → ((0 ≤ u ∧ u ≤ 1999) ∧ (1 ≤ m ∧ m ≤ 500)) → T 7 = 6 → Q (-4) F) (q1 : (0 ≤ c ∧ c < T 5) → ((0 ≤ u ∧ u ≤ 1999) ∧ (1 ≤ m ∧ m ≤ 500)) → T 7 < 6 → cAct F t (mBrT T c u m) 2 0 0 0 (Q (T 7 + 1))) : xMI X d 99 [.ref 0, vi c, vi u, vi m] F Q := by
  have hT := h.2.2.2.1
  have h77 := hT.2.2.2.2.2.2.2.1
  have ht := h.to
  have tb := xob9 h.2.1
  have h6 := h.2.2.2.2.1
  have h37 := ht.2.2.1
  refine m99 hP ⟨3, hd, k128 hP hc h fun y hy => ⟨hy.r, fun z => ⟨3, hd, k131 hP hu fun y2 hy2 => ⟨hy2.r, fun z1 _ => q3 (hy.t z) (fun w => hy2.f z1 w.1), fun z1 => ⟨hm, fun z2 _ => q3 (hy.t z) (by omega), fun z2 => ⟨hm, fun z3 => ⟨t, h.1, h.2.1, ?_⟩, fun z3 _ => q3 (hy.t z) (by omega)⟩⟩⟩⟩, fun z _ => q2 (hy.f (by omega))⟩⟩
  have a := hy.t z
  have b := hy2.t z1
  rw [h.2.2.2.2.2.1.1.2.2.2.2.2.2.2]
  refine ⟨⟨by omega, by omega⟩, fun z4 => ⟨t, h.1, h.2.1, 3, hd, k74 hP h.2.1 hT h6 h.2.2.2.2.2.1 fun G hG kG wG => ?_⟩, fun z4 _ => q4 a ⟨b, by omega⟩ (by omega)⟩
  have hT2 : mT (mBrT T c u m) := mT_brt hT h6 a b (by omega)
  refine kAct (F0 := F) (t := t) (T' := mBrT T c u m) hG hd (fun p i w => kG p i w) ⟨by rw [kG 0 0 (by omega)]; exact h.1, h.2.1, h37, hT2, by rw [mBrT_7]; omega, wG⟩ hn fun H hH kH pH nH => ⟨t, nH.1.1, h.2.1, fun _ => ?_⟩
  rw [nH.1.2.2.2.2.2.1.1.2.2.2.2.2.2.2, mBrT_7]
  exact q1 a ⟨b, by omega⟩ z4 H hH kH pH nH
theorem k100 (hP : xPT F) (hd : 3 < d) (h : cO F t T) (hn : 0 ≤ F 37 0 ∧ F 37 0 ≤ 10) (q0 : T 7 = 0 → Q (-5) F) (q1 : 0 < T 7 → cAct F t (mSet T 7 (T 7 - 1)) 3 (T (142 + 3 * (T 7 - 1))) (T (142 + 3 * (T 7 - 1) + 1)) (T (142 + 3 * (T 7 - 1) + 2)) (Q (T 7 - 1))) : xMI X d 100 [.ref 0] F Q := by
  have hT := h.2.2.2.1
  have h77 := hT.2.2.2.2.2.2.2.1
  have ht := h.to
  have tb := xob9 h.2.1
  have h6 := h.2.2.2.2.1
  have h37 := ht.2.2.1
  have hw := h.2.2.2.2.2.1
  have e11 := hw.1.2.2.2.2.2.2.2
  refine m100 hP ⟨t, h.1, h.2.1, by rw [e11]; constructor <;> omega, fun z => ?_, fun z _ => q0 (by rw [e11] at z; omega)⟩
  rw [e11] at z
  have e0 : xup F t 11 (F t 11 - 1) 0 0 = (t : Int) := by rw [xup_o (by omega)]; exact h.1
  have k := hw.2.2.2.2.2 (T 7 - 1) (by omega) (by omega)
  refine ⟨t, h.1, h.2.1, t, e0, h.2.1, t, e0, h.2.1, ?_⟩
  rw [xup_s, e11]
  rw [e11] at e0
  refine ⟨by omega, t, e0, h.2.1, by omega, t, e0, h.2.1, by omega, ?_⟩
  rw [xup_o (by omega), xup_o (by omega), xup_o (by omega), k.1, k.2.1, k.2.2]
  have hT2 : mT (mSet T 7 (T 7 - 1)) := mT_set hT (by omega)
  have s7 : mSet T 7 (T 7 - 1) 7 = T 7 - 1 := mSet_s
  refine kAct (F0 := F) (t := t) (T' := mSet T 7 (T 7 - 1)) (xPT_fld (k := 11) hP h.2.1 (by decide) (by decide)) hd (fun p i w => xup_o (by omega)) ⟨e0, h.2.1, h37, hT2, by omega, hw.sw hT.2.2.2.2.1 hT.2.2.2.2.2.1 hT.2.2.2.2.2.2.1 (fun p i _ v => xup_n v) (by omega) (by rw [xup_s, s7]) fun i v _ => mSet_n v⟩ hn fun H hH kH pH nH => ⟨t, nH.1.1, h.2.1, fun _ => ?_⟩
  rw [nH.1.2.2.2.2.2.1.1.2.2.2.2.2.2.2, s7]
  exact q1 (by omega) H hH kH pH nH
theorem k101 {T' : Int → Int} {k a b c : Int} (hP : xPT F) (hd : 3 < d) (h : cO F t T) (hn : 0 ≤ F 37 0 ∧ F 37 0 ≤ 10) (q0 : F 37 0 = 0 → Q (-5) F) (q1 : 0 < F 37 0 → (cEt F (F 37 0 - 1) k a b c ∧ cBk k a b c T T' ∧ mT T' ∧ T' 7 ≤ 6) ∧ ∀ G, xPT G → (∀ p i, ¬ (t ≤ p ∧ p < t + 17) → ¬ (37 ≤ p ∧ p ≤ 130) → G p i = F p i) → G 37 0 = F 37 0 - 1 → (∀ j, cEq F G j j) → cN G t T' 0 → Q (F 37 0 - 1) G) : xMI X d 101 [.ref 0] F Q := by
  have hT := h.2.2.2.1
  have ht := h.to
  have tb := xob9 h.2.1
  refine m101 hP ⟨⟨by omega, by omega⟩, fun z => ?_, fun z _ => q0 (by omega)⟩
  obtain ⟨⟨e1, e2, e3, e4⟩, q2⟩ := q1 (by omega)
  have h37 := ht.2.2.1
  refine ⟨t, h.1, h.2.1, 3, hd, k4 (T' := T') hP (by omega) h.2.1 h37 hT h.2.2.2.2.2.1 (by omega) e1 e2 fun G hG kG g0 wG => ⟨3, hd, k96 (T := T') hG (by omega) ⟨by rw [kG 0 0 (by omega) (by omega)]; exact h.1, h.2.1, h37, e3, e4, wG⟩ fun H hH kH nH _ => ?_⟩⟩
  have e37 : H 37 0 = F 37 0 - 1 := by rw [kH 37 0 (by omega)]; exact g0
  rw [e37]
  exact q2 H hH (fun p i x y => by rw [kH p i (by omega), kG p i (by omega) x]) e37 (fun j => ⟨by rw [kH _ _ (by omega), kG _ _ (by omega) (by omega)], by rw [kH _ _ (by omega), kG _ _ (by omega) (by omega)], by rw [kH _ _ (by omega), kG _ _ (by omega) (by omega)], by rw [kH _ _ (by omega), kG _ _ (by omega) (by omega)]⟩) nH
theorem k102 {x : Int} (hP : xPT F) (hd : 5 < d) (hx : inR x) (h : cN F t T n) (q0 : ¬ (0 ≤ x ∧ x ≤ 2000) → Q (-3) F) (q1 : (0 ≤ x ∧ x ≤ 2000) → ∀ G, xPT G → (∀ p i, ¬ (42 ≤ p ∧ p < 70) → G p i = F p i) → cN G t T (min (n + x.toNat) 2000) → Q ((min (n + x.toNat) 2000 : Nat) : Int) G) : xMI X d 102 [.ref 0, vi x] F Q := by
  have hT := h.1.2.2.2.1
  have ht := h.1.to
  have tb := xob9 h.1.2.1
  have h37 := ht.2.2.1
  refine m102 hP ⟨hx, fun z _ => q0 (by omega), fun z => ⟨hx, fun z1 _ => ?_, fun z1 _ => q0 (by omega)⟩⟩
  have q2 := q1 (by omega)
  have loop : ∀ (f : Nat) (m : Nat) (i : Int) (G : XF), xPT G → (∀ p i, ¬ (42 ≤ p ∧ p < 70) → G p i = F p i) → cN G t T m → 0 ≤ i → i + f = x → min (m + f) 2000 = min (n + x.toNat) 2000 → xW X d 102 16 [.ref 0, vi x, vi i] [] G (xqi Q) := by
    intro f
    induction f with
    | zero =>
      intro m i G hG kG nG hi hf he
      have m2 := nG.2.2.2.2.2.2
      have em : min (n + x.toNat) 2000 = m := by omega
      refine s102_16 hG ⟨⟨by omega, by omega⟩, ⟨by omega, by omega⟩, fun _ _ => ?_, fun y => absurd (by omega) y⟩
      rw [nG.2.1.2.1]
      have := q2 G hG kG (by rw [em]; exact nG)
      rw [em] at this
      exact this
    | succ f ih =>
      intro m i G hG kG nG hi hf he
      have m2 := nG.2.2.2.2.2.2
      refine s102_16 hG ⟨⟨by omega, by omega⟩, ⟨by omega, by omega⟩, fun y => absurd y (by omega), fun _ => ?_⟩
      rw [nG.2.1.2.1]
      refine ⟨⟨by omega, by omega⟩, fun y _ => ?_, fun y => ⟨5, hd, ?_⟩⟩
      · have em : min (n + x.toNat) 2000 = m := by omega
        have := q2 G hG kG (by rw [em]; exact nG)
        rw [em] at this
        exact this
      · obtain ⟨o, ru, st, wh, ev, en, _⟩ := nG
        refine k53 hG (by omega) o42 o.2.1 hT (by omega) o.2.2.2.2.2.1 ru st (by omega) ev en fun H hH kH rH sH wH eH nH _ hH2 => ?_
        refine ih (m + 1) (i + 1) H hH2 (fun p j z => by rw [kH p j (by omega)]; exact kG p j z) ⟨⟨by rw [kH 0 0 (by omega)]; exact o.1, o.2.1, o.2.2.1, hT, o.2.2.2.2.1, o.2.2.2.2.2.1.of hT fun p j z => kH p j (by omega), o.2.2.2.2.2.2.1.of fun p j z => kH p j (by omega), o.2.2.2.2.2.2.2.of (kH 104 1 (by omega)) fun p j z => kH p j (by omega)⟩, rH, sH, wH, eH, nH, by omega⟩ (by omega) (by omega) (by omega)
  exact loop x.toNat n 0 F hP (fun _ _ _ => rfl) h (by omega) (by omega) (by omega)
end CL24
