section CL5
variable {X : List Int32} {d : Nat} {F : XF}
theorem k17 {r : Nat} {E : Int → Int} {a b c e : Int} {Q : XF → Prop} (hP : xPT F) (hr : xob 6 r) (hE : cEv F r E) (hn : mEn E) (q : ∀ G, xPT G → (∀ p i, ¬ (r + 13 ≤ p ∧ p ≤ r + 17) → G p i = F p i) → cEv G r (mHap E a b c e) → Q G) : xMV X d 17 [.ref (r + 13), vi a, vi b, vi c, vi e] F Q := by
  have ho := xtg_6_12 r hr.1 hr.2
  unfold mEn at hn
  rcases xob6 hr with h | h
  · subst h
    obtain ⟨h0, h1⟩ := hE.1 rfl
    have l1 : xln0 (42 + 13 + 1) = 200 := by decide
    have l2 : xln0 (42 + 13 + 2) = 200 := by decide
    have l3 : xln0 (42 + 13 + 3) = 200 := by decide
    have l4 : xln0 (42 + 13 + 4) = 200 := by decide
    refine m17 hP ho ?_
    rw [l1, l2, l3, l4, h0]
    refine ⟨⟨by omega, by omega⟩, ⟨by omega, by omega⟩, fun cc _ => ?_, fun cc => ⟨⟨by omega, by omega⟩, ⟨by omega, by omega⟩, ⟨by omega, by omega⟩, ⟨by omega, by omega⟩, fun hG => q _ hG (fun p i hp => by rw [xup_n (by omega), xup_n (by omega), xup_n (by omega), xup_n (by omega), xup_n (by omega)]) ⟨fun _ => ⟨?_, fun j x y => ?_⟩, fun z => absurd z (by decide)⟩⟩⟩
    · have : E (-1) = 200 := by omega
      refine q F hP (fun _ _ _ => rfl) ?_
      unfold mHap
      rw [if_pos this]
      exact hE
    · rw [xup_s]
      unfold mHap
      rw [if_neg (by omega), if_pos rfl]
    · have ey : mHap E a b c e (-1) = E (-1) + 1 := by unfold mHap; rw [if_neg (by omega), if_pos rfl]
      rw [ey] at y
      have g : ∀ i, 0 ≤ i → mHap E a b c e i = (if i = 4 * E (-1) then a else if i = 4 * E (-1) + 1 then b else if i = 4 * E (-1) + 2 then c else if i = 4 * E (-1) + 3 then e else E i) := fun i hi => by
        unfold mHap
        rw [if_neg (by omega), if_neg (by omega)]
      rw [g _ (by omega), g _ (by omega), g _ (by omega), g _ (by omega)]
      by_cases hj : j = E (-1)
      · subst hj
        refine ⟨?_, ?_, ?_, ?_⟩
        · rw [if_pos rfl, xup_o (by decide), xup_o (by decide), xup_o (by decide), xup_o (by decide), xup_s]
        · rw [if_neg (by omega), if_pos rfl, xup_o (by decide), xup_o (by decide), xup_o (by decide), xup_s]
        · rw [if_neg (by omega), if_neg (by omega), if_pos rfl, xup_o (by decide), xup_o (by decide), xup_s]
        · rw [if_neg (by omega), if_neg (by omega), if_neg (by omega), if_pos rfl, xup_o (by decide), xup_s]
      · have := h1 j x (by omega)
        refine ⟨?_, ?_, ?_, ?_⟩
        · rw [if_neg (by omega), if_neg (by omega), if_neg (by omega), if_neg (by omega), xup_o (by decide), xup_o (by decide), xup_o (by decide), xup_o (by decide), xup_i hj]; exact this.1
        · rw [if_neg (by omega), if_neg (by omega), if_neg (by omega), if_neg (by omega), xup_o (by decide), xup_o (by decide), xup_o (by decide), xup_i hj, xup_o (by decide)]; exact this.2.1
        · rw [if_neg (by omega), if_neg (by omega), if_neg (by omega), if_neg (by omega), xup_o (by decide), xup_o (by decide), xup_i hj, xup_o (by decide), xup_o (by decide)]; exact this.2.2.1
        · rw [if_neg (by omega), if_neg (by omega), if_neg (by omega), if_neg (by omega), xup_o (by decide), xup_i hj, xup_o (by decide), xup_o (by decide), xup_o (by decide)]; exact this.2.2.2
  · subst h
    have h0 := hE.2 rfl
    have l1 : xln0 (70 + 13 + 1) = 0 := by decide
    refine m17 hP ho ?_
    rw [l1, h0]
    exact ⟨⟨by omega, by omega⟩, ⟨by omega, by omega⟩, fun _ _ => q F hP (fun _ _ _ => rfl) ⟨fun z => absurd z (by decide), fun _ => h0⟩, fun cc => absurd (by decide) cc⟩
section PUT
variable {T R : Int → Int} {r t : Nat} {Q : XF → Prop} {c g tick : Int}
/-- what putForward may change -/
def cKf (r : Nat) (F G : XF) : Prop := ∀ p i, ¬ ((p = r ∧ i = 3) ∨ p = r + 7 ∨ p = r + 9 ∨ p = r + 10 ∨ p = r + 11 ∨ (r + 13 ≤ p ∧ p ≤ r + 17)) → G p i = F p i
/-- the loop's state ahead of crossing i -/
def cLp (F1 : XF) (r : Nat) (T R : Int → Int) (c g tick e0 e1 l0 l1 : Int) (i : Int) (u v : Int) (EF : Int → Int) (G : XF) (E : Int → Int) : Prop := (∀ p j, ¬ (p = r + 9 ∧ j = c) → ¬ (p = r + 10 ∧ j = c) → ¬ p = r + 11 → ¬ (r + 13 ≤ p ∧ p ≤ r + 17) → G p j = F1 p j) ∧ G (r + 9) c = (if mS T 2 (mS T 1 c) = c then max e0 u else F1 (r + 9) c) ∧ G (r + 10) c = (if mS T 3 (mS T 1 c) = c then min v l1 else F1 (r + 10) c) ∧ (∀ j, 0 ≤ j → j < T 4 → G (r + 11) j = mCn T (mS T) R j (mS T 0 0).toNat + (if mS T 2 (mS T 1 c) = c ∧ e0 ≤ j ∧ j < u then 1 else 0) - (if mS T 3 (mS T 1 c) = c ∧ l0 ≤ j ∧ j < min v l1 then 1 else 0)) ∧ cEv G r E ∧ mEn E
theorem l63 (F1 : XF) (hd : 0 < d) (hr : xob 6 r) (ht : xob 9 t) (hT : mT T) (hdis : t + 17 ≤ r ∨ r + 28 ≤ t) (hw : cTw F1 t T) (hJ : mJ T R) (hc : 0 ≤ c ∧ c < T 5) (h10 : F1 r 0 = (t : Int)) (h12 : F1 r 2 = tick) (hb : -100000 ≤ R c ∧ R c ≤ 100000 ∧ R c < g ∧ g ≤ 100000) {e0 e1 l0 l1 : Int} (he1 : mNe T g e1) (he : mS T 2 (mS T 1 c) = c → mNe T (R c) e0) (hl : mS T 3 (mS T 1 c) = c → mNl T (R c - T (78 + c)) l0 ∧ mNl T (g - T (78 + c)) l1) (EF : Int → Int) (x5 x6 x7 : Int) (h5 : x5 = mV (mS T 2 (mS T 1 c) = c)) (h6 : x6 = mV (mS T 3 (mS T 1 c) = c)) (q : ∀ G E w8, xPT G → cLp F1 r T R c g tick e0 e1 l0 l1 e1 e1 e1 EF G E → E = EF → xW X d 63 256 [.ref r, vi c, vi (mS T 1 c), vi g, vi (g - T (78 + c)), vi x5, vi x6, vi x7, w8] [] G (xqv Q)) : ∀ (n : Nat) (i : Int) (G : XF) (E : Int → Int), xPT G → 0 ≤ i → i + n = e1 → (mS T 3 (mS T 1 c) = c → l0 ≤ i) → cLp F1 r T R c g tick e0 e1 l0 l1 i i i EF G E → mTl T (mS T 2 (mS T 1 c)) (mS T 3 (mS T 1 c)) g c (mS T 1 c) (R c) tick (T 4 - i).toNat i E = EF → xW X d 63 96 [.ref r, vi c, vi (mS T 1 c), vi g, vi (g - T (78 + c)), vi x5, vi x6, vi x7, vi i] [] G (xqv Q) := by
  have hT' := hT
  obtain ⟨h0, _, _, _, h4, h5', _, _, hX, hO, hL, _⟩ := hT'
  have sb := mS_b hT
  have s1 := sb.2.2.1 c hc.1 hc.2
  have lc := hL c hc.1 hc.2
  have b5 : x5 = 0 ∨ x5 = 1 := by rw [h5]; exact mV_01
  have b6 : x6 = 0 ∨ x6 = 1 := by rw [h6]; exact mV_01
  have r5 : inR x5 := by rcases b5 with h | h <;> rw [h] <;> exact ⟨by decide, by decide⟩
  have r6 : inR x6 := by rcases b6 with h | h <;> rw [h] <;> exact ⟨by decide, by decide⟩
  have t5 : ¬ x5 = 0 → mS T 2 (mS T 1 c) = c := fun z => (mV_b (C := mS T 2 (mS T 1 c) = c)).t (by rw [← h5]; exact z)
  have f5 : x5 = 0 → ¬ mS T 2 (mS T 1 c) = c := fun z => (mV_b (C := mS T 2 (mS T 1 c) = c)).f (by rw [← h5]; exact z)
  have t6 : ¬ x6 = 0 → mS T 3 (mS T 1 c) = c := fun z => (mV_b (C := mS T 3 (mS T 1 c) = c)).t (by rw [← h6]; exact z)
  have f6 : x6 = 0 → ¬ mS T 3 (mS T 1 c) = c := fun z => (mV_b (C := mS T 3 (mS T 1 c) = c)).f (by rw [← h6]; exact z)
  intro n
  induction n with
  | zero =>
    intro i G E hP h0' hi hl0 hS hE
    have : i = e1 := by omega
    subst this
    have ie := he1.1
    have et : G r 0 = (t : Int) := by rw [hS.1 r 0 (by omega) (by omega) (by omega) (by omega)]; exact h10
    have wt : cTw G t T := hw.of hT fun p j hp => hS.1 p j (by omega) (by omega) (by omega) (by omega)
    have e4 := wt.1.2.2.2.2.1
    have eE : E = EF := by
      rw [← hE]
      refine (mTl_0 _ _ _ fun y a b => ?_).symm
      have p := he1.2.2 y a (by omega)
      have := hX y (by omega) (by omega)
      unfold mX at this
      exact ⟨by omega, by omega⟩
    refine s63_96 hP hr ⟨t, et, ht, ⟨by omega, by omega⟩, by rw [e4]; constructor <;> omega, fun _ _ => q G E _ hP hS eE, fun cc => ⟨t, et, ht, ⟨by omega, by omega⟩, ?_⟩⟩
    rw [e4] at cc
    have cx := wt.2.1 i h0' (by omega)
    have xi := hX i h0' (by omega)
    unfold mX at xi
    have pg := he1.2.2 i (by omega) (by omega)
    rw [cx.1]
    exact ⟨⟨by omega, by omega⟩, ⟨by omega, by omega⟩, fun c1 => absurd c1 (by omega), fun _ _ => q G E _ hP hS eE⟩
  | succ n ih =>
    intro i G E hP h0' hi hl0 hS hE
    have i4 : i < T 4 := by have := he1.1; omega
    have et : ∀ H : XF, (∀ p j, ¬ (p = r + 9 ∧ j = c) → ¬ (p = r + 10 ∧ j = c) → ¬ p = r + 11 → ¬ (r + 13 ≤ p ∧ p ≤ r + 17) → H p j = F1 p j) → H r 0 = (t : Int) ∧ H r 2 = tick ∧ cTw H t T := fun H k => ⟨by rw [k r 0 (by omega) (by omega) (by omega) (by omega)]; exact h10, by rw [k r 2 (by omega) (by omega) (by omega) (by omega)]; exact h12, hw.of hT fun p j hp => k p j (by omega) (by omega) (by omega) (by omega)⟩
    obtain ⟨et0, et2, wt⟩ := et G hS.1
    have e4 := wt.1.2.2.2.2.1
    have cx := wt.2.1 i h0' i4
    have xi := hX i h0' i4
    unfold mX at xi
    have pg := he1.2.1 i h0' (by omega)
    have cnb := mCn_b (T := T) (S := mS T) (R := R) (i := i) (mS T 0 0).toNat
    rw [show (T 4 - i).toNat = (T 4 - (i + 1)).toNat + 1 by omega] at hE
    unfold mTl at hE
    -- behind the first event
    have second : ∀ (H : XF) (E' : Int → Int), xPT H → cLp F1 r T R c g tick e0 e1 l0 l1 i (i + 1) i EF H E' → E' = (if mS T 2 (mS T 1 c) = c ∧ R c ≤ T (8 + 7 * i) ∧ T (8 + 7 * i) < g then mHap E 0 tick i (mS T 1 c) else E) → xW X d 63 180 [.ref r, vi c, vi (mS T 1 c), vi g, vi (g - T (78 + c)), vi x5, vi x6, vi x7, vi i] [] H (xqv Q) := fun H E' hH hS' hE' => by
      rw [← hE'] at hE
      obtain ⟨ft0, ft2, ft⟩ := et H hS'.1
      obtain ⟨k1, k2, k3, k4, k5, k6⟩ := hS'
      have noE : ¬ (mS T 3 (mS T 1 c) = c ∧ R c - T (78 + c) < T (8 + 7 * i) + T (8 + 7 * i + 1) ∧ T (8 + 7 * i) + T (8 + 7 * i + 1) ≤ g - T (78 + c)) → (mS T 3 (mS T 1 c) = c → l1 ≤ i) → xW X d 63 96 [.ref r, vi c, vi (mS T 1 c), vi g, vi (g - T (78 + c)), vi x5, vi x6, vi x7, vi (i + 1)] [] H (xqv Q) := fun z z2 => by
        rw [if_neg z] at hE
        refine ih (i + 1) H E' hH (by omega) (by omega) (fun y => by have := hl0 y; omega) ⟨k1, k2, ?_, fun j a b => ?_, k5, k6⟩ hE
        · rw [k3]
          by_cases y : mS T 3 (mS T 1 c) = c
          · rw [if_pos y, if_pos y]; have := z2 y; omega
          · rw [if_neg y, if_neg y]
        · rw [k4 j a b]
          congr 1
          by_cases y : mS T 3 (mS T 1 c) = c
          · have := z2 y
            rw [show min (i + 1) l1 = min i l1 by omega]
          · rw [if_neg (fun w => y w.1), if_neg (fun w => y w.1)]
      refine s63_180 hH hr ⟨r6, fun z _ => noE (fun w => f6 z w.1) (fun w => absurd w (f6 z)), fun z => ?_⟩
      have la := t6 z
      obtain ⟨b0, b1⟩ := hl la
      have ml := mNl_m b0 b1 (by omega)
      have il := hl0 la
      rw [k3, if_pos la]
      have cxH := ft.2.1 i h0' i4
      refine ⟨⟨by omega, by omega⟩, ⟨by omega, by omega⟩, ⟨by have := b1.1; omega, by have := b1.1; omega⟩, fun z1 _ => noE (fun w => ?_) (fun _ => by omega), fun z1 => ⟨t, ft0, ht, ⟨by omega, by omega⟩, ?_⟩⟩
      · have := b1.2.2 i (by omega) i4
        omega
      · rw [cxH.2.1]
        refine ⟨⟨by omega, by omega⟩, ⟨by omega, by omega⟩, fun z2 _ => noE (fun w => by omega) (fun _ => ?_), fun z2 => ⟨⟨by omega, by omega⟩, ⟨by omega, by omega⟩, ⟨by omega, by omega⟩, ⟨by omega, by omega⟩, 0, hd, ?_⟩⟩
        · apply Classical.byContradiction
          intro y
          have := b1.2.1 i h0' (by omega)
          omega
        · have yes : mS T 3 (mS T 1 c) = c ∧ R c - T (78 + c) < T (8 + 7 * i) + T (8 + 7 * i + 1) ∧ T (8 + 7 * i) + T (8 + 7 * i + 1) ≤ g - T (78 + c) := ⟨la, b0.2.2 i (by omega) i4, by omega⟩
          have il1 : i < l1 := by
            apply Classical.byContradiction
            intro y
            have := b1.2.2 i (by omega) i4
            omega
          rw [if_pos yes] at hE
          have hP2 : xPT (xup (xup H (r + 10) c (min i l1 + 1)) (r + 11) i (H (r + 11) i - 1)) := xPT_arr (xPT_arr hH (Or.inl (xtg_6_9 r hr.1 hr.2).1.2)) (Or.inl (xtg_6_10 r hr.1 hr.2).1.2)
          have e2 : cEv (xup (xup H (r + 10) c (min i l1 + 1)) (r + 11) i (H (r + 11) i - 1)) r E' := by
            unfold cEv at *
            have ee : ∀ p j, (r + 13 ≤ p) → xup (xup H (r + 10) c (min i l1 + 1)) (r + 11) i (H (r + 11) i - 1) p j = H p j := fun p j hp => by rw [xup_o (by omega), xup_o (by omega)]
            rw [ee _ _ (by omega)]
            refine ⟨fun y => ⟨(k5.1 y).1, fun j a b => ?_⟩, k5.2⟩
            rw [ee _ _ (by omega), ee _ _ (by omega), ee _ _ (by omega), ee _ _ (by omega)]
            exact (k5.1 y).2 j a b
          rw [ft2]
          refine k17 hP2 hr e2 k6 fun K hK kK eK _ => ih (i + 1) K _ hK (by omega) (by omega) (fun _ => by omega) ⟨fun p j a b c' e => ?_, ?_, ?_, fun j a b => ?_, eK, k6.hap⟩ hE
          · rw [kK p j (by omega), xup_n (by omega), xup_n (by omega)]; exact k1 p j a b c' e
          · rw [kK _ _ (by omega), xup_o (by omega), xup_o (by omega)]; exact k2
          · rw [kK _ _ (by omega), xup_o (by omega), xup_s, if_pos la]; omega
          · rw [kK _ _ (by omega)]
            by_cases y : j = i
            · subst y
              rw [xup_s, k4 j a b, if_neg (show ¬ (mS T 3 (mS T 1 c) = c ∧ l0 ≤ j ∧ j < min j l1) by omega), if_pos (show mS T 3 (mS T 1 c) = c ∧ l0 ≤ j ∧ j < min (j + 1) l1 from ⟨la, by omega, by omega⟩)]
              omega
            · rw [xup_i y, xup_o (by omega), k4 j a b]
              congr 1
              by_cases w : mS T 3 (mS T 1 c) = c ∧ l0 ≤ j ∧ j < min i l1
              · rw [if_pos w, if_pos ⟨w.1, w.2.1, by omega⟩]
              · rw [if_neg w, if_neg (fun v => w ⟨v.1, v.2.1, by omega⟩)]
    obtain ⟨k1, k2, k3, k4, k5, k6⟩ := hS
    refine s63_96 hP hr ⟨t, et0, ht, ⟨by omega, by omega⟩, by rw [e4]; constructor <;> omega, fun cc => absurd cc (by omega), fun _ => ⟨t, et0, ht, ⟨by omega, by omega⟩, ?_⟩⟩
    rw [cx.1]
    refine ⟨⟨by omega, by omega⟩, ⟨by omega, by omega⟩, fun _ => ⟨r5, fun z _ => ?_, fun z => ⟨⟨by omega, by omega⟩, ?_⟩⟩, fun cc => absurd pg cc⟩
    · have no := f5 z
      refine second G E hP ⟨k1, by rw [k2, if_neg no, if_neg no], k3, fun j a b => ?_, k5, k6⟩ (by rw [if_neg (fun w => no w.1)])
      rw [k4 j a b, if_neg (show ¬ (mS T 2 (mS T 1 c) = c ∧ e0 ≤ j ∧ j < i) from fun w => no w.1), if_neg (show ¬ (mS T 2 (mS T 1 c) = c ∧ e0 ≤ j ∧ j < i + 1) from fun w => no w.1)]
    · have ld := t5 z
      have a0 := he ld
      rw [k2, if_pos ld]
      refine ⟨⟨by omega, by omega⟩, ⟨by have := a0.1; omega, by have := a0.1; omega⟩, fun z1 _ => ?_, fun z1 => ⟨⟨by omega, by omega⟩, ⟨by omega, by omega⟩, ⟨by omega, by omega⟩, ⟨by omega, by omega⟩, 0, hd, ?_⟩⟩
      · have lt := a0.2.1 i h0' (by omega)
        refine second G E hP ⟨k1, by rw [k2, if_pos ld, if_pos ld]; omega, k3, fun j a b => ?_, k5, k6⟩ (by rw [if_neg (fun w => by omega)])
        rw [k4 j a b, if_neg (show ¬ (mS T 2 (mS T 1 c) = c ∧ e0 ≤ j ∧ j < i) by omega), if_neg (show ¬ (mS T 2 (mS T 1 c) = c ∧ e0 ≤ j ∧ j < i + 1) by omega)]
      · have ge := a0.2.2 i (by omega) i4
        have yes : mS T 2 (mS T 1 c) = c ∧ R c ≤ T (8 + 7 * i) ∧ T (8 + 7 * i) < g := ⟨ld, ge, pg⟩
        have hP2 : xPT (xup (xup G (r + 9) c (max e0 i + 1)) (r + 11) i (G (r + 11) i + 1)) := xPT_arr (xPT_arr hP (Or.inl (xtg_6_8 r hr.1 hr.2).1.2)) (Or.inl (xtg_6_10 r hr.1 hr.2).1.2)
        have e2 : cEv (xup (xup G (r + 9) c (max e0 i + 1)) (r + 11) i (G (r + 11) i + 1)) r E := by
          unfold cEv at *
          have ee : ∀ p j, (r + 13 ≤ p) → xup (xup G (r + 9) c (max e0 i + 1)) (r + 11) i (G (r + 11) i + 1) p j = G p j := fun p j hp => by rw [xup_o (by omega), xup_o (by omega)]
          rw [ee _ _ (by omega)]
          refine ⟨fun y => ⟨(k5.1 y).1, fun j a b => ?_⟩, k5.2⟩
          rw [ee _ _ (by omega), ee _ _ (by omega), ee _ _ (by omega), ee _ _ (by omega)]
          exact (k5.1 y).2 j a b
        rw [et2]
        refine k17 hP2 hr e2 k6 fun K hK kK eK _ => second K _ hK ⟨fun p j a b c' e => ?_, ?_, ?_, fun j a b => ?_, eK, k6.hap⟩ (by rw [if_pos yes])
        · rw [kK p j (by omega), xup_n (by omega), xup_n (by omega)]; exact k1 p j a b c' e
        · rw [kK _ _ (by omega), xup_o (by omega), xup_s, if_pos ld]; omega
        · rw [kK _ _ (by omega), xup_o (by omega), xup_o (by omega)]; exact k3
        · rw [kK _ _ (by omega)]
          by_cases y : j = i
          · subst y
            rw [xup_s, k4 j a b, if_neg (show ¬ (mS T 2 (mS T 1 c) = c ∧ e0 ≤ j ∧ j < j) by omega), if_pos (show mS T 2 (mS T 1 c) = c ∧ e0 ≤ j ∧ j < j + 1 from ⟨ld, by omega, by omega⟩)]
            omega
          · rw [xup_i y, xup_o (by omega), k4 j a b]
            congr 2
            by_cases w : mS T 2 (mS T 1 c) = c ∧ e0 ≤ j ∧ j < i
            · rw [if_pos w, if_pos ⟨w.1, w.2.1, by omega⟩]
            · rw [if_neg w, if_neg (fun v => w ⟨v.1, v.2.1, by omega⟩)]
end PUT
end CL5
