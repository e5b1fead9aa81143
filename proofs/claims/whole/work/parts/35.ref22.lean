section REF22
variable {X : List Int32} {d : Nat} {F : XF}
/-- all but first, last and after is as it was -/
def mKh (F0 G : XF) : Prop := mKb F0 G ∧ G 132 = F0 132 ∧ mSA (F0 132 5).toNat G
theorem mKh.up {F0 G : XF} {o : Nat} {i v : Int} (a : mKh F0 G) (h : o = 143 ∨ o = 144 ∨ o = 145 ∨ (o = 131 ∧ i = 27)) : mKh F0 (xup G o i v) := by
  have e : ∀ p : Nat, (p = 132 ∨ p = 136 ∨ p = 137 ∨ p = 138 ∨ p = 139) → xup G o i v p = G p := fun p hp => funext fun j => xup_n (by omega)
  refine ⟨a.1.up (by omega), (e 132 (by omega)).trans a.2.1, a.2.2.of (e 132 (by omega)) ⟨e 136 (by omega), e 137 (by omega), e 138 (by omega), e 139 (by omega), xup_n (by omega)⟩⟩
theorem mRow_u {F : XF} {o : Nat} {i v r : Int} (h : ¬ o = 140) : mRow (xup F o i v) r = mRow F r := mRow_of fun j _ _ => xup_n (by omega)
section MARS
variable (F0 : XF) (hT : mT (F0 132)) (sp : Int) (hsp : 1 ≤ sp ∧ sp ≤ 50)
/-- first and last of the crossings, ahead of tick n -/
def mFl (T : Int → Int) (n : Nat) (G : XF) : Prop := ∀ x, 0 ≤ x → x < T 4 → G 143 x = (mFi T x n).1 ∧ (¬ (mFi T x n).1 = -1 → G 144 x = (mFi T x n).2)
/-- nobody comes yet -/
def mNa (G : XF) : Prop := ∀ x, 0 ≤ x → x < 10 → G 145 x = -1
theorem l217d {Q : Int → XF → Prop} (hd : 12 < d) (hT : mT (F0 132)) (hsp : 1 ≤ sp ∧ sp ≤ 50) (q : mQ F0 Q (mMs (F0 132) sp (F0 132 4).toNat).1) : ∀ (n x : Nat) (F : XF) (u2 : Int) (w : Value), xPT F → (x : Int) + n = F0 132 4 → mKh F0 F → mFl (F0 132) (mLast (F0 132)) F → (∀ j, 0 ≤ j → j < F0 132 4 → F 145 j = (mMs (F0 132) sp x).2 j) → xW X d 217 205 [.ref 131, vi sp, vi u2, vi (mMs (F0 132) sp x).1, vi x, w] [] F (xqi Q) := by
  have h4 := hT.2.2.2.2.1
  intro n
  induction n with
  | zero =>
    intro x F u2 w hP hx hK hL hA
    have e := hK.2.1
    rw [show (F0 132 4).toNat = x by omega] at q
    exact s217_205 hP ⟨⟨by omega, by omega⟩, by rw [e]; constructor <;> omega, fun _ _ => q F hP hK.1 hK.2.1 hK.2.2, fun c => absurd (by rw [e]; omega) c⟩
  | succ n ih =>
    intro x F u2 w hP hx hK hL hA
    have e := hK.2.1
    have lx := hL x (by omega) (by omega)
    have fb := mFi_b (T := F0 132) (x := x) (mLast (F0 132))
    have ml := (mLast_p (T := F0 132)).1
    have mp := mMs_p (sp := sp) hT x (by omega)
    have hL' : ∀ G : XF, (∀ p i, ¬ p = 145 → ¬ (p = 131 ∧ i = 27) → G p i = F p i) → mFl (F0 132) (mLast (F0 132)) G := fun G k j a b => by
      rw [k 143 j (by decide) (by omega), k 144 j (by decide) (by omega)]; exact hL j a b
    have hZ : xPT (xup F 131 27 0) := xPT_fld (k := 27) hP xob_12 (by decide) (by decide)
    refine s217_205 hP ⟨⟨by omega, by omega⟩, by rw [e]; constructor <;> omega, fun c => absurd c (by rw [e]; omega), fun _ => ⟨⟨by omega, by omega⟩, by rw [lx.1]; constructor <;> omega, fun c hG => ?_, fun c => ?_⟩⟩
    · have es : mMs (F0 132) sp (x + 1) = mMs (F0 132) sp x := by rw [mMs, if_pos (by rw [← lx.1]; exact c)]
      have := ih (x + 1) (xup F 131 27 0) u2 w hG (by omega) (hK.up (by omega)) (hL' _ fun p i a b => xup_n b) (fun j a b => by rw [xup_o (by decide), es]; exact hA j a b)
      rw [es] at this
      exact this
    · rw [lx.1] at c
      have eN : (((F0 132 4).toNat : Nat) : Int) = F0 132 4 := by omega
      have pp := mFn_p (rc := mRc (F0 132) sp) (N := (F0 132 4).toNat) (H := mHd (F0 132)) 11 x (fun _ => 0) (mMs (F0 132) sp x).2 (by rw [eN]; exact ⟨by omega, by omega, c⟩) (by rw [eN]; exact mp.2.2)
      have es : mMs (F0 132) sp (x + 1) = ((mMs (F0 132) sp x).1 + (1 - (mFn (mRc (F0 132) sp) (F0 132 4).toNat 11 x (fun _ => 0) (mMs (F0 132) sp x).2).1), (mFn (mRc (F0 132) sp) (F0 132 4).toNat 11 x (fun _ => 0) (mMs (F0 132) sp x).2).2.2) := by rw [mMs, if_neg c]
      have ct : ∀ k, mCt (fun _ => 0) k = k := fun k => by
        induction k with
        | zero => rfl
        | succ k ih => unfold mCt; rw [ih, if_pos rfl]
      refine ⟨11, by omega, p216 (xup F 131 27 0) (F0 132) sp hT hsp ((funext fun i => xup_o (by decide)).trans e) (fun j a b => by rw [xup_o (by decide)]; exact (hL j a b).1) (fun j a b h => by rw [xup_o (by decide)]; exact (hL j a b).2 h) 11 x (fun _ => 0) (mMs (F0 132) sp x).2 _ 11 (Nat.le_refl _) hZ (fun _ _ _ _ => rfl) ⟨by omega, by omega, c⟩ mp.2.2 ⟨fun j a b => ?_, fun j a b => by rw [xup_o (by decide)]; exact hA j a b⟩ (by rw [ct]; omega) fun G hG kG mG => ?_⟩
      · rw [xup_s, mbit_0]; rfl
      · have kh : mKh F0 G := by
          have e' : ∀ p : Nat, (p = 132 ∨ p = 136 ∨ p = 137 ∨ p = 138 ∨ p = 139) → G p = F p := fun p hp => funext fun j => by rw [kG p j (by omega) (by omega), xup_n (by omega)]
          refine ⟨hK.1.trans ⟨fun p i h => by rw [kG p i (by omega) (by omega), xup_n (by omega)], fun i h1 h2 h3 h4 h5 => by rw [kG 131 i (by decide) (by omega), xup_n (by omega)], fun i h1 h2 => by rw [kG 140 i (by decide) (by omega), xup_n (by omega)]⟩, (e' 132 (by omega)).trans e, hK.2.2.of (e' 132 (by omega)) ⟨e' 136 (by omega), e' 137 (by omega), e' 138 (by omega), e' 139 (by omega), by rw [kG 131 17 (by decide) (by omega), xup_n (by omega)]⟩⟩
        have nx := ih (x + 1) G u2 w hG (by omega) kh (hL' G fun p i a b => by rw [kG p i a b, xup_n b]) (fun j a b => by rw [es]; exact mG.2 j a b)
        rw [es] at nx
        refine ⟨⟨by omega, by omega⟩, fun c1 _ => ?_, fun c1 _ => ?_⟩
        · rw [c1] at nx; exact nx
        · rw [show (mFn (mRc (F0 132) sp) (F0 132 4).toNat 11 x (fun _ => 0) (mMs (F0 132) sp x).2).1 = 1 by omega] at nx
          exact nx
theorem l217c {Q : Int → XF → Prop} {more now t : Int} (hT : mT (F0 132)) (n : Nat) (ht : t = n) (hn : n ≤ 2000) (hm : more = 0 ∨ more = 1) (hnow : ∀ x, 0 ≤ x → x < F0 132 4 → mbit now x.toNat = decide (mV (mHeld (F0 132) (mS (F0 132)) (mRun (F0 132) n) x) = 1)) (R : Int → Int) (q : ∀ G u, xPT G → mKh F0 G → mRow G 132 = R → mNa G → mFl (F0 132) (if more = 1 then n + 1 else n) G → xW X d 217 57 [.ref 131, vi sp, vi more, vi now, vi t, vi u] [] G (xqi Q)) : ∀ (f k : Nat) (F : XF), xPT F → (k : Int) + f = F0 132 4 → mKh F0 F → mRow F 132 = R → mNa F → (∀ x : Int, 0 ≤ x → x < k → F 143 x = (mFi (F0 132) x (if more = 1 then n + 1 else n)).1 ∧ (¬ (mFi (F0 132) x (if more = 1 then n + 1 else n)).1 = -1 → F 144 x = (mFi (F0 132) x (if more = 1 then n + 1 else n)).2)) → (∀ x : Int, k ≤ x → x < F0 132 4 → F 143 x = (mFi (F0 132) x n).1 ∧ (¬ (mFi (F0 132) x n).1 = -1 → F 144 x = (mFi (F0 132) x n).2)) → xW X d 217 125 [.ref 131, vi sp, vi more, vi now, vi t, vi k] [] F (xqi Q) := by
  have h4 := hT.2.2.2.2.1
  intro f
  induction f with
  | zero =>
    intro k F hP hk hK hR hN h1 h2
    have e := hK.2.1
    exact s217_125 hP ⟨⟨by omega, by omega⟩, by rw [e]; constructor <;> omega, fun _ _ => q F k hP hK hR hN fun x a b => h1 x a (by omega), fun c => absurd (by rw [e]; omega) c⟩
  | succ f ih =>
    intro k F hP hk hK hR hN h1 h2
    have e := hK.2.1
    have hb := mFi_b (T := F0 132) (x := k) n
    have h2k := h2 k (by omega) (by omega)
    have nk := hnow k (by omega) (by omega)
    rw [Int.toNat_natCast] at nk
    have xb := xbit (v := now) (k := k) (by omega)
    refine s217_125 hP ⟨⟨by omega, by omega⟩, by rw [e]; constructor <;> omega, fun c => absurd c (by rw [e]; omega), fun _ => ⟨⟨by omega, by omega⟩, fun c _ => ?_, fun c => ⟨xand_r, fun c1 => ?_, fun c1 _ => ?_⟩⟩⟩
    · refine q F k hP hK hR hN fun x a b => ?_
      rw [if_neg (by omega)] at h1 ⊢
      rcases Int.lt_or_le x k with hq | hq
      · exact h1 x a hq
      · exact h2 x hq b
    · have m1 : more = 1 := by omega
      rw [if_pos m1] at h1 q ih
      have held : mV (mHeld (F0 132) (mS (F0 132)) (mRun (F0 132) n) k) = 1 := by
        by_cases hq : mV (mHeld (F0 132) (mS (F0 132)) (mRun (F0 132) n) k) = 1
        · exact hq
        · rw [xb, nk] at c1
          simp [hq] at c1
      have ef : mFi (F0 132) k (n + 1) = ((if (mFi (F0 132) k n).1 = -1 then (n : Int) else (mFi (F0 132) k n).1), (n : Int)) := by rw [mFi, if_pos held]
      have go : ∀ v, v = (if (mFi (F0 132) k n).1 = -1 then (n : Int) else (mFi (F0 132) k n).1) → xPT (xup (xup F 143 k v) 144 k t) → xW X d 217 125 [.ref 131, vi sp, vi more, vi now, vi t, vi ((k : Int) + 1)] [] (xup (xup F 143 k v) 144 k t) (xqi Q) := fun v hv hG => by
        refine ih (k + 1) _ hG (by omega) ((hK.up (by omega)).up (by omega)) (by rw [mRow_u (by decide), mRow_u (by decide)]; exact hR) (fun x a b => by rw [xup_o (by decide), xup_o (by decide)]; exact hN x a b) (fun x a b => ?_) (fun x a b => ?_)
        · by_cases hq : x = k
          · subst hq
            rw [ef]
            refine ⟨by rw [xup_o (by decide), xup_s, hv], fun _ => by rw [xup_s, ht]⟩
          · rw [xup_o (by decide), xup_i hq, xup_i hq, xup_o (by decide)]
            exact h1 x a (by omega)
        · rw [xup_o (by decide), xup_i (by omega), xup_i (by omega), xup_o (by decide)]
          exact h2 x (by omega) b
      refine ⟨⟨by omega, by omega⟩, by rw [h2k.1]; constructor <;> omega, fun c2 => ⟨⟨by omega, by omega⟩, ⟨by omega, by omega⟩, ⟨by omega, by omega⟩, fun hG => go _ ?_ hG⟩, fun c2 => ⟨⟨by omega, by omega⟩, ⟨by omega, by omega⟩, fun hG => go _ ?_ hG⟩⟩
      · rw [h2k.1] at c2 ⊢
        rw [if_neg c2]
      · rw [h2k.1] at c2
        rw [if_pos (by omega), ht]
    · have m1 : more = 1 := by omega
      rw [if_pos m1] at h1 q ih
      have held : ¬ mV (mHeld (F0 132) (mS (F0 132)) (mRun (F0 132) n) k) = 1 := by
        intro hq
        rw [xb, nk] at c1
        simp [hq] at c1
      have ef : mFi (F0 132) k (n + 1) = mFi (F0 132) k n := by rw [mFi, if_neg held]
      refine ih (k + 1) F hP (by omega) hK hR hN (fun x a b => ?_) (fun x a b => h2 x (by omega) b)
      by_cases hq : x = k
      · subst hq
        rw [ef]
        exact h2k
      · exact h1 x a (by omega)
theorem l217b {Q : Int → XF → Prop} {t : Int} (hd : 8 < d) (hT : mT (F0 132)) (n : Nat) (hn : n ≤ 2000) (q : ∀ now, inR now → (∀ x, 0 ≤ x → x < F0 132 4 → mbit now x.toNat = decide (mV (mHeld (F0 132) (mS (F0 132)) (mRun (F0 132) n) x) = 1)) → ∀ F, xPT F → mKh F0 F → mRow F 132 = mRun (F0 132) n → mNa F → mFl (F0 132) n F → ∀ w u k, (F0 132 4 ≤ k ∧ k < 20) → xW X d 217 66 [.ref 131, vi sp, vi u, vi now, vi k, w] [] F (xqi Q)) : ∀ (f k : Nat) (F : XF) (now u : Int) (w : Value), xPT F → (k : Int) + f = F0 132 4 → mKh F0 F → mRow F 132 = mRun (F0 132) n → mNa F → mFl (F0 132) n F → inR now → (∀ x : Int, 0 ≤ x → x < k → mbit now x.toNat = decide (mV (mHeld (F0 132) (mS (F0 132)) (mRun (F0 132) n) x) = 1)) → (∀ x : Int, k ≤ x → x < 10 → mbit now x.toNat = false) → xW X d 217 66 [.ref 131, vi sp, vi u, vi now, vi k, w] [] F (xqi Q) := by
  have h4 := hT.2.2.2.2.1
  intro f
  induction f with
  | zero =>
    intro k F now u w hP hk hK hR hN hL hnow h1 h2
    exact q now hnow (fun x a b => h1 x a (by omega)) F hP hK hR hN hL w u k ⟨by omega, by omega⟩
  | succ f ih =>
    intro k F now u w hP hk hK hR hN hL hnow h1 h2
    have e := hK.2.1
    refine s217_66 hP ⟨⟨by omega, by omega⟩, by rw [e]; constructor <;> omega, fun c => absurd c (by rw [e]; omega), fun _ => ⟨8, hd, p173a (n := n) hP (by omega) (by rw [e]; exact hT) (by rw [e]; exact hK.2.2) hn (by rw [e]; exact hR) (by rw [e]; omega) fun y hy hv => ?_⟩⟩
    rw [e] at hv
    have kb := h2 k (by omega) (by omega)
    rw [Int.toNat_natCast] at kb
    refine ⟨hy, fun c _ => ?_, fun c _ => ?_⟩
    · rw [mV_t c] at hv
      refine ih (k + 1) F _ u w hP (by omega) hK hR hN hL xior_r (fun x a b => ?_) (fun x a b => ?_)
      · rw [mbit_or, mbit_shl' (by omega) (by omega) (by omega)]
        by_cases hq : x = k
        · subst hq
          rw [← hv]
          simp
        · rw [h1 x a (by omega), show decide (((x.toNat : Nat) : Int) = (k : Int)) = false by simp; omega, Bool.or_false]
      · rw [mbit_or, mbit_shl' (by omega) (by omega) (by omega), h2 x (by omega) b, show decide (((x.toNat : Nat) : Int) = (k : Int)) = false by simp; omega, Bool.or_false]
    · rw [mV_f c] at hv
      refine ih (k + 1) F _ u w hP (by omega) hK hR hN hL xior_r (fun x a b => ?_) (fun x a b => ?_)
      · rw [mbit_or, mbit_0, Bool.or_false]
        by_cases hq : x = k
        · subst hq
          rw [← hv, Int.toNat_natCast, kb]
          rfl
        · exact h1 x a (by omega)
      · rw [mbit_or, mbit_0, Bool.or_false]
        exact h2 x (by omega) b
theorem l217a {Q : Int → XF → Prop} (hd : 12 < d) (hT : mT (F0 132)) (hsp : 1 ≤ sp ∧ sp ≤ 50) (q : mQ F0 Q (mMs (F0 132) sp (F0 132 4).toNat).1) : ∀ (f n : Nat) (F : XF) (w3 w4 w5 : Value), xPT F → n + f = 2000 → mKh F0 F → mRow F 132 = mRun (F0 132) n → mNa F → mFl (F0 132) n F → (∀ m, m < n → ¬ mRun (F0 132) m 131 = F0 132 5) → xW X d 217 57 [.ref 131, vi sp, vi 1, w3, w4, w5] [] F (xqi Q) := by
  have h4 := hT.2.2.2.2.1
  have stop : ∀ (n : Nat) (F : XF) (w3 w4 w5 : Value), xPT F → n ≤ 2000 → mKh F0 F → mNa F → mFl (F0 132) n F → (∀ m, m < n → ¬ mRun (F0 132) m 131 = F0 132 5) → (mRun (F0 132) n 131 = F0 132 5 ∨ n = 2000) → xW X d 217 57 [.ref 131, vi sp, vi 0, w3, w4, w5] [] F (xqi Q) := fun n F w3 w4 w5 hP hn hK hN hL hno hh => by
    have eu := mLast_u (T := F0 132) hn hno hh.symm
    refine s217_57 hP ⟨⟨by omega, by omega⟩, fun _ _ => ?_, fun c => absurd rfl c⟩
    exact l217d F0 sp hd hT hsp q (F0 132 4).toNat 0 F 0 w5 hP (by omega) hK (by rw [eu]; exact hL) (fun j a b => hN j a (by omega))
  intro f
  induction f with
  | zero =>
    intro n F w3 w4 w5 hP hf hK hR hN hL hno
    refine s217_57 hP ⟨⟨by omega, by omega⟩, fun c => absurd c (by decide), fun _ _ => ?_⟩
    refine l217b F0 sp (t := 0) (by omega) hT n (by omega) (fun now hin hnow F hP hK hR hN hL w u k hk => ?_) (F0 132 4).toNat 0 F 0 1 w5 hP (by omega) hK hR hN hL ⟨by omega, by omega⟩ (fun x a b => by omega) (fun x a b => mbit_0)
    have e := hK.2.1
    have e262 : F 140 262 = n := by
      have := mRun_130 hT n
      rw [← hR, mRow_at (by omega)] at this
      exact this
    refine s217_66 hP ⟨⟨by omega, by omega⟩, by rw [e]; constructor <;> omega, fun _ => ⟨8, by omega, p196 (n := n) hP (by omega) (by rw [e]; exact hT) (by rw [e]; exact hK.2.2) (by omega) (by rw [e]; exact hR) (fun h _ => ?_) (fun _ h => absurd h (by omega))⟩, fun c => absurd (by rw [e]; omega) c⟩
    rw [e262]
    rw [e] at h
    refine l217c F0 sp (more := 0) (t := (n : Int)) hT n rfl (by omega) (Or.inl rfl) hnow (mRun (F0 132) n) (fun G u hG kG rG nG lG => ?_) (F0 132 4).toNat 0 F hP (by omega) hK hR hN (fun x a b => by omega) (fun x a b => hL x (by omega) b)
    exact stop n G _ _ _ hG (by omega) kG nG lG hno h
  | succ f ih =>
    intro n F w3 w4 w5 hP hf hK hR hN hL hno
    refine s217_57 hP ⟨⟨by omega, by omega⟩, fun c => absurd c (by decide), fun _ _ => ?_⟩
    refine l217b F0 sp (t := 0) (by omega) hT n (by omega) (fun now hin hnow F hP hK hR hN hL w u k hk => ?_) (F0 132 4).toNat 0 F 0 1 w5 hP (by omega) hK hR hN hL ⟨by omega, by omega⟩ (fun x a b => by omega) (fun x a b => mbit_0)
    have e := hK.2.1
    have e262 : F 140 262 = n := by
      have := mRun_130 hT n
      rw [← hR, mRow_at (by omega)] at this
      exact this
    refine s217_66 hP ⟨⟨by omega, by omega⟩, by rw [e]; constructor <;> omega, fun _ => ⟨8, by omega, p196 (n := n) hP (by omega) (by rw [e]; exact hT) (by rw [e]; exact hK.2.2) (by omega) (by rw [e]; exact hR) (fun h _ => ?_) (fun h1 _ G hG k1 s1 r1 _ => ?_)⟩, fun c => absurd (by rw [e]; omega) c⟩
    · rw [e262]
      rw [e] at h
      refine l217c F0 sp (more := 0) (t := (n : Int)) hT n rfl (by omega) (Or.inl rfl) hnow (mRun (F0 132) n) (fun G u hG kG rG nG lG => ?_) (F0 132 4).toNat 0 F hP (by omega) hK hR hN (fun x a b => by omega) (fun x a b => hL x (by omega) b)
      exact stop n G _ _ _ hG (by omega) kG nG lG hno h
    · rw [e262]
      rw [e] at h1 s1 r1
      have kG : mKh F0 G := ⟨hK.1.trans k1.p.b, k1.t.trans e, s1⟩
      have g3 : ∀ p i, (p = 143 ∨ p = 144 ∨ p = 145) → G p i = F p i := fun p i h => k1.1 p i (by omega) (by omega) (by omega)
      refine l217c F0 sp (more := 1) (t := (n : Int)) hT n rfl (by omega) (Or.inr rfl) hnow (mRun (F0 132) (n + 1)) (fun H u hH kH rH nH lH => ?_) (F0 132 4).toNat 0 G hG (by omega) kG r1 (fun x a b => by rw [g3 145 x (by omega)]; exact hN x a b) (fun x a b => by omega) (fun x a b => by rw [g3 143 x (by omega), g3 144 x (by omega)]; exact hL x (by omega) b)
      refine ih (n + 1) H _ _ _ hH (by omega) kH rH nH lH fun m hm => ?_
      by_cases hq : m = n
      · rw [hq]; exact h1
      · exact hno m (by omega)
theorem l217z {Q : Int → XF → Prop} {w3 w4 w5 : Value} (hT : mT (F0 132)) (q : ∀ G, xPT G → mKh F0 G → mRow G 132 = mRun (F0 132) 0 → mNa G → mFl (F0 132) 0 G → xW X d 217 57 [.ref 131, vi sp, vi 1, w3, w4, w5] [] G (xqi Q)) : ∀ (f k : Nat) (F : XF), xPT F → k + f = 10 → mKh F0 F → mRow F 132 = mRun (F0 132) 0 → (∀ x : Int, 0 ≤ x → x < k → F 143 x = -1 ∧ F 145 x = -1) → xW X d 217 29 [.ref 131, vi sp, vi k, w3, w4, w5] [] F (xqi Q) := by
  have h4 := hT.2.2.2.2.1
  intro f
  induction f with
  | zero =>
    intro k F hP hk hK hR h1
    exact s217_29 hP ⟨⟨by omega, by omega⟩, fun _ _ => q F hP hK hR (fun x a b => (h1 x a (by omega)).2) (fun x a b => ⟨(h1 x a (by omega)).1, fun h => absurd rfl h⟩), fun c => absurd (by omega) c⟩
  | succ f ih =>
    intro k F hP hk hK hR h1
    refine s217_29 hP ⟨⟨by omega, by omega⟩, fun c => absurd c (by omega), fun _ => ⟨⟨by omega, by omega⟩, ⟨by omega, by omega⟩, fun hG => ih (k + 1) _ hG (by omega) ((hK.up (by omega)).up (by omega)) (by rw [mRow_u (by decide), mRow_u (by decide)]; exact hR) (fun x a b => ?_)⟩⟩
    by_cases hq : x = k
    · subst hq
      exact ⟨by rw [xup_o (by decide), xup_s], by rw [xup_s]⟩
    · rw [xup_o (by decide), xup_i hq, xup_i hq, xup_o (by decide)]
      exact h1 x a (by omega)
end MARS
theorem p217 {sp : Int} {Q : Int → XF → Prop} (hP : xPT F) (hd : 13 < d) (hT : mT (F 132)) (hS : mSA (F 132 5).toNat F) (hs : inR sp) (q : mQ F Q (aMarshals (F 132) sp)) : xMI X d 217 [.ref 131, vi sp] F Q := by
  unfold aMarshals at q
  refine m217 hP ⟨hs, 9, by omega, p132 (h0P hP) ⟨⟨by omega, by omega⟩, ⟨by omega, by omega⟩, ⟨by omega, by omega⟩⟩ fun y hy => ⟨hy.r, fun c1 => ?_, fun c1 hG => by rw [if_neg (hy.f (by omega))] at q; exact q.z hS hG⟩⟩
  have g := hy.t c1
  rw [if_pos g] at q
  refine ⟨9, by omega, p170 (h0P hP) (by omega) (by rw [h0t]; exact hT) (by omega) fun G hG k1 s1 r1 _ _ => ?_⟩
  rw [h0t] at s1
  have rr := mBeg_row (F := xup F 131 0 0) (by rw [h0t]; exact hT) r1
  rw [h0t] at rr
  refine l217z F sp hT (fun G hG kG rG nG lG => l217a F sp (by omega) hT g q 2000 0 G _ _ _ hG (by omega) kG rG nG lG (fun m h => absurd h (by omega))) 10 0 G hG (by omega) ⟨(mKb.refl.up (by omega)).trans k1.b, k1.t.trans h0t, s1⟩ rr (fun x a b => by omega)
end REF22
