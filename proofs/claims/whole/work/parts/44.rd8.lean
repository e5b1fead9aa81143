section RD8
variable {X : List Int32} {d : Nat} {F : XF}
/-- seen: the reference's number, and what has stood -/
def rSn (v : Int) (sn : Int → Int) : Prop := (0 ≤ v ∧ v < 512) ∧ (∀ j : Nat, j < 4 → sn j = if mbit v j then 1 else 0) ∧ sn 4 = (if 15 < v then 1 else 0)
theorem rSn_c : ∀ v : Nat, v < 512 → ∀ w : Nat, w < 9 → 0 ≤ xior (v : Int) (xshl 1 (w : Int)) ∧ xior (v : Int) (xshl 1 (w : Int)) < 512 ∧ (15 < xior (v : Int) (xshl 1 (w : Int)) ↔ 15 < v ∨ 4 ≤ w) := by decide +kernel
theorem rSn.w {v w : Int} {sn : Int → Int} (h : rSn v sn) (hw : 0 ≤ w ∧ w ≤ 8) : rSn (xior v (xshl 1 w)) (if w ≤ 3 then mSet sn w 1 else mSet sn 4 1) := by
  obtain ⟨h1, h2, h3⟩ := h
  have c := rSn_c v.toNat (by omega) w.toNat (by omega)
  rw [show ((v.toNat : Nat) : Int) = v by omega, show ((w.toNat : Nat) : Int) = w by omega] at c
  refine ⟨⟨c.1, c.2.1⟩, fun j hj => ?_, ?_⟩
  · rw [mbit_or, mbit_shl' hw.1 (by omega) (by omega)]
    by_cases q : w ≤ 3
    · rw [if_pos q]
      by_cases e : (j : Int) = w
      · rw [e, mSet_s, if_pos (by simp)]
      · rw [mSet_n e, h2 j hj, show decide ((j : Int) = w) = false by simp; omega, Bool.or_false]
    · rw [if_neg q, mSet_n (by omega), h2 j hj, show decide ((j : Int) = w) = false by simp; omega, Bool.or_false]
  · by_cases q : w ≤ 3
    · rw [if_pos q, mSet_n (by omega), h3]
      by_cases e : 15 < v
      · rw [if_pos e, if_pos (c.2.2.mpr (by omega))]
      · rw [if_neg e, if_neg (fun z => by have := c.2.2.mp z; omega)]
    · rw [if_neg q, mSet_s, if_pos (c.2.2.mpr (by omega))]
/-- what the reading of the text changes -/
def mKn (F G : XF) : Prop := ∀ p i, ¬ p = 133 → ¬ (p = 131 ∧ (i = 6 ∨ i = 7 ∨ i = 8 ∨ i = 9 ∨ i = 10)) → G p i = F p i
theorem mKn.trans {F G H : XF} (a : mKn F G) (b : mKn G H) : mKn F H := fun p i h1 h2 => (b p i h1 h2).trans (a p i h1 h2)
theorem mKl.n {F G : XF} (a : mKl F G) : mKn F G := fun p i h1 h2 => a p i h1 (by omega)
theorem mKn.tp {U : Int → Int} {n : Int} {F G : XF} (a : mKn F G) (h : rTp U n F) : rTp U n G := h.of fun p i hp => a p i (by omega) (by omega)
/-- a line's outcome, with what has stood -/
def rLo (n : Int) (F G : XF) (R : RR ((Int → Int) × (Int → Int) × Int)) : Prop := mKn F G ∧ rSt n G (rB R fun a => .ok a.2.2) ∧ (∀ a, R = .ok a → G 133 = a.1 ∧ rSn (G 131 9) a.2.1)
section LINE
variable {U T sn : Int → Int} {n p : Int} {Q : XF → Prop}
theorem c230 {x1 x2 : Int} {R : RR ((Int → Int) × Int)} {sn' : Int → Int} (F0 : XF) (hP : xPT F) (hd : 3 < d) (hT : rTp U n F) (k0 : mKn F0 F) (hs : rSt n F (rB R fun a => .ok a.2)) (hr : ∀ a, R = .ok a → F 133 = a.1) (h9 : rSn (F 131 9) sn') (q : ∀ G, xPT G → rLo n F0 G (rB R fun a => rB (rSemi U n a.2) fun e => .ok (a.1, sn', e)) → Q G) : xW X d 150 230 [.ref 131, vi x1, vi x2] [] F (xqv Q) := by
  have hN := hT.2.1
  have up6 : ∀ (G : XF) (v : Int), mKn F0 G → mKn F0 (xup G 131 6 v) := fun G v k => k.trans fun p i _ h => xup_n (by omega)
  cases R with
  | error z =>
    rw [rB_er] at hs
    obtain ⟨z7, z8, z1, z3⟩ := rSt_er hs
    refine s150_230 hP ⟨by rw [z7]; constructor <;> omega, fun _ hG => q _ hG ⟨up6 _ _ k0, ?_, fun a h => by cases h⟩, fun c => absurd (show ¬ F 131 7 = 0 by omega) c⟩
    exact ⟨by rw [xup_i (by omega)]; exact z7, by rw [xup_i (by omega)]; exact z8, z1, z3⟩
  | ok a =>
    rw [rB_ok] at hs
    have z := rSt_ok hs
    have er := hr a rfl
    have bk := rE_p (c := cBl U) (n := n) (p := a.2)
    refine s150_230 hP ⟨by rw [z.1]; constructor <;> omega, fun c => absurd z.1 c, fun _ => ⟨3, hd, p136 hP hT z.2.2.1 z.2.2.2 fun G hG k1 e1 => ?_⟩⟩
    have ub : -1 ≤ (if rE (cBl U) n a.2 < n then U (rE (cBl U) n a.2) else -1) ∧ (if rE (cBl U) n a.2 < n then U (rE (cBl U) n a.2) else -1) ≤ 255 := by
      split
      · next h =>
        have := hT.2.2 (rE (cBl U) n a.2) (by omega) h
        rw [this.2]
        split <;> omega
      · omega
    have kG : mKn F0 G := k0.trans fun p i _ h => k1 p i (by omega)
    refine ⟨⟨by omega, by omega⟩, fun c hH => q _ hH ?_, fun c => ⟨3, hd, p137 hG (by rw [k1 131 7 (by omega)]; exact z.1) fun H hH kH b7 b8 _ _ hK => q _ hK ?_⟩⟩
    · have sc : rE (cBl U) n a.2 < n ∧ U (rE (cBl U) n a.2) = 59 := by
        by_cases h : rE (cBl U) n a.2 < n
        · rw [if_pos h] at c; exact ⟨h, c⟩
        · rw [if_neg h] at c; omega
      have rs : rSemi U n a.2 = .ok (rE (cBl U) n a.2 + 1) := by unfold rSemi; rw [if_pos sc]
      refine ⟨up6 _ _ kG, ?_, fun b hb => ?_⟩
      · rw [rB_ok, rs]
        exact ⟨by rw [xup_i (by omega), k1 131 7 (by omega)]; exact z.1, by rw [xup_i (by omega), k1 131 8 (by omega)]; exact z.2.1, by rw [xup_s, e1], show 0 ≤ rE (cBl U) n a.2 + 1 by omega, show rE (cBl U) n a.2 + 1 ≤ n by omega⟩
      · rw [rB_ok, rs, rB_ok] at hb
        rw [← ok_inj hb]
        exact ⟨(funext fun i => by rw [xup_o (by decide), k1 133 i (by omega)]; rw [er]), by rw [xup_i (by omega), k1 131 9 (by omega)]; exact h9⟩
    · have sc : ¬ (rE (cBl U) n a.2 < n ∧ U (rE (cBl U) n a.2) = 59) := fun h => c (by rw [if_pos h.1]; exact h.2)
      have rs : rSemi U n a.2 = .error (1, rE (cBl U) n a.2) := by unfold rSemi; rw [if_neg sc]
      refine ⟨up6 _ _ (kG.trans kH.l.n), ?_, fun b hb => by rw [rB_ok, rs] at hb; cases hb⟩
      rw [rB_ok, rs]
      exact s1e (by rw [xup_i (by omega)]; exact b7) (by rw [xup_i (by omega), b8]; exact e1)
theorem p150 (hP : xPT F) (hd : 10 < d) (hT : rTp U n F) (hi : rIn T sn) (e : F 133 = T) (hs : rSt n F (.ok p)) (h9 : rSn (F 131 9) sn) (q : ∀ G, xPT G → rLo n F G (rLine U n T sn p) → Q G) : xMV X d 150 [.ref 131] F Q := by
  have hN := hT.2.1
  have z := rSt_ok hs
  obtain ⟨hm, h6, hsn, _⟩ := hi
  have bk := rE_p (c := cBl U) (n := n) (p := p)
  have bk2 := bk.2.1 z.2.2.2.2
  have be := rE_p (c := cLe U) (n := n) (p := rE (cBl U) n p)
  have be2 := be.2.1 bk2
  have kb := rKey_b (U := U) (k := rE (cBl U) n p) (e := rE (cLe U) n (rE (cBl U) n p))
  refine m150 hP ⟨10, hd, p140 hP (by omega) hT z.1 z.2.2.1 z.2.2.2 fun G hG k1 e1 => ?_⟩
  have hT1 : rTp U n G := hT.of fun a i h => k1 a i (by omega)
  have g7 : G 131 7 = 0 := by rw [k1 131 7 (by omega)]; exact z.1
  have g9 : G 131 9 = F 131 9 := k1 131 9 (by omega)
  have kG : mKn F G := fun p i _ h => k1 p i (by omega)
  rw [e1]
  have hl : rLine U n T sn p = rB (rHead U n T sn p) fun a => rB (rSemi U n a.2) fun e => .ok (a.1, rSeen U n sn p, e) := rfl
  -- a fault at the word
  have bad : ∀ H w, xPT H → mKw G H → H 131 7 = 1 → H 131 8 = rE (cBl U) n p → (w < 0 ∨ 8 < w ∨ (w ≤ 3 ∧ sn w = 1) ∨ (w = 0 ∧ sn 4 = 1)) → w = rKey U (rE (cBl U) n p) (rE (cLe U) n (rE (cBl U) n p)) → xW X d 150 57 [.ref 131, vi w, vi (rE (cBl U) n p)] [] H (xqv Q) := fun H w hH kH b7 b8 hw ew => by
    have hh : rHead U n T sn p = .error (1, rE (cBl U) n p) := by
      unfold rHead
      dsimp only
      rw [← ew, if_pos hw]
    refine s150_57 hH ⟨by rw [b7]; constructor <;> omega, fun c => absurd c (by omega), fun _ _ => q H hH ⟨kG.trans kH.l.n, ?_, fun a h => by rw [hl, hh] at h; cases h⟩⟩
    rw [hl, hh]
    exact s1e b7 b8
  have rs := xand_r (u := xshr (G 131 9) (rKey U (rE (cBl U) n p) (rE (cLe U) n (rE (cBl U) n p)))) (v := 1)
  -- the word is good
  have good : ∀ w, w = rKey U (rE (cBl U) n p) (rE (cLe U) n (rE (cBl U) n p)) → ¬ (w < 0 ∨ 8 < w ∨ (w ≤ 3 ∧ sn w = 1) ∨ (w = 0 ∧ sn 4 = 1)) → xW X d 150 57 [.ref 131, vi w, vi (rE (cBl U) n p)] [] G (xqv Q) := fun w ew hw => by
    have hw' : 0 ≤ w ∧ w ≤ 8 := by omega
    have es : rSeen U n sn p = (if w ≤ 3 then mSet sn w 1 else mSet sn 4 1) := by
      unfold rSeen
      dsimp only
      rw [← ew]
    have n9 : rSn (xior (G 131 9) (xshl 1 w)) (rSeen U n sn p) := by
      rw [es, g9]
      exact h9.w hw'
    have hh : rHead U n T sn p = (if w = 0 then rOne U n T 0 10 1000 (rE (cLe U) n (rE (cBl U) n p)) else if w = 1 then rOne U n T 1 1 50 (rE (cLe U) n (rE (cBl U) n p)) else if w = 2 then rOne U n T 2 0 50 (rE (cLe U) n (rE (cBl U) n p)) else if w = 3 then rOne U n T 3 0 999 (rE (cLe U) n (rE (cBl U) n p)) else if w = 4 then rCross U n T (rE (cBl U) n p) (rE (cLe U) n (rE (cBl U) n p)) else if w = 5 then rColumn U n T (rE (cLe U) n (rE (cBl U) n p)) else if w = 6 then rSplit U n T (rE (cLe U) n (rE (cBl U) n p)) else if w = 7 then rGather U n T (rE (cBl U) n p) (rE (cLe U) n (rE (cBl U) n p)) else rBroken U n T (rE (cBl U) n p) (rE (cLe U) n (rE (cBl U) n p))) := by
      unfold rHead
      dsimp only
      rw [← ew, if_neg hw]
    have hP9 : xPT (xup G 131 9 (xior (G 131 9) (xshl 1 w))) := xPT_131 (k := 9) hG (by decide)
    have hT9 : rTp U n (xup G 131 9 (xior (G 131 9) (xshl 1 w))) := hT1.of fun a i h => xup_n (by omega)
    refine s150_57 hG ⟨by rw [g7]; constructor <;> omega, fun _ => ⟨10, hd, p141 hP9 (by omega) hT9 (by rw [xup_i (by omega)]; exact e1) ⟨by omega, bk2⟩ fun H hH kH e6 => ?_⟩, fun c => absurd g7 c⟩
    have hTH : rTp U n H := hT9.of fun a i h => kH a i (by omega)
    have kH0 : mKn F H := kG.trans fun a i _ h => by rw [kH a i (by omega), xup_n (by omega)]
    have eH : H 133 = T := (funext fun i => by rw [kH 133 i (by omega), xup_o (by decide), k1 133 i (by omega)]).trans e
    have sH : rSt n H (.ok (rE (cLe U) n (rE (cBl U) n p))) := ⟨by rw [kH 131 7 (by omega), xup_i (by omega)]; exact g7, by rw [kH 131 8 (by omega), xup_i (by omega), k1 131 8 (by omega)]; exact z.2.1, e6, by omega, be2⟩
    have h9H : H 131 9 = xior (G 131 9) (xshl 1 w) := by rw [kH 131 9 (by omega), xup_s]
    have cont : ∀ K, xPT K → rOut n H K (rHead U n T sn p) → xW X d 150 230 [.ref 131, vi w, vi (rE (cBl U) n p)] [] K (xqv Q) := fun K hK o => by
      refine c230 (sn' := rSeen U n sn p) F hK (by omega) (o.1.tp hTH) (kH0.trans o.1.n) o.2.1 o.2.2 ?_ q
      rw [o.1 131 9 (by decide) (by omega), h9H]
      exact n9
    rw [hh] at cont
    refine ⟨⟨by omega, by omega⟩, fun h => ⟨10, hd, p149 (k := rE (cBl U) n p) hH (by omega) hTH hm h6 eH sH fun K hK o _ => ?_⟩, fun h => ⟨10, hd, pOne (i := 0) hH (by omega) hTH ⟨by omega, by omega⟩ ⟨by omega, by omega⟩ eH sH fun y K hK o hK2 => ?_⟩, fun h => ⟨10, hd, pOne (i := 1) hH (by omega) hTH ⟨by omega, by omega⟩ ⟨by omega, by omega⟩ eH sH fun y K hK o hK2 => ?_⟩, fun h => ⟨10, hd, pOne (i := 2) hH (by omega) hTH ⟨by omega, by omega⟩ ⟨by omega, by omega⟩ eH sH fun y K hK o hK2 => ?_⟩, fun h => ⟨10, hd, pOne (i := 3) hH (by omega) hTH ⟨by omega, by omega⟩ ⟨by omega, by omega⟩ eH sH fun y K hK o hK2 => ?_⟩, fun h => ⟨10, hd, p145 (k := rE (cBl U) n p) hH (by omega) hTH hm eH sH fun K hK a b c _ => ?_⟩, fun h => ⟨10, hd, p146 hH (by omega) hTH hm eH sH fun K hK o _ => ?_⟩, fun h => ⟨10, hd, p147 hH (by omega) hTH hm eH sH fun K hK o _ => ?_⟩, fun h => ⟨10, hd, p148 (k := rE (cBl U) n p) hH (by omega) hTH hm eH sH fun K hK o _ => ?_⟩⟩
    · rw [if_neg (by omega), if_neg (by omega), if_neg (by omega), if_neg (by omega), if_neg (by omega), if_neg (by omega), if_neg (by omega), if_neg (by omega)] at cont
      exact cont K hK o
    · rw [if_pos h] at cont
      exact cont _ hK2 o
    · rw [if_neg (by omega), if_pos h] at cont
      exact cont _ hK2 o
    · rw [if_neg (by omega), if_neg (by omega), if_pos h] at cont
      exact cont _ hK2 o
    · rw [if_neg (by omega), if_neg (by omega), if_neg (by omega), if_pos h] at cont
      exact cont _ hK2 o
    · rw [if_neg (by omega), if_neg (by omega), if_neg (by omega), if_neg (by omega), if_pos h] at cont
      exact cont K hK ⟨a, b, c⟩
    · rw [if_neg (by omega), if_neg (by omega), if_neg (by omega), if_neg (by omega), if_neg (by omega), if_pos h] at cont
      exact cont K hK o
    · rw [if_neg (by omega), if_neg (by omega), if_neg (by omega), if_neg (by omega), if_neg (by omega), if_neg (by omega), if_pos h] at cont
      exact cont K hK o
    · rw [if_neg (by omega), if_neg (by omega), if_neg (by omega), if_neg (by omega), if_neg (by omega), if_neg (by omega), if_neg (by omega), if_pos h] at cont
      exact cont K hK o
  generalize hw : rKey U (rE (cBl U) n p) (rE (cLe U) n (rE (cBl U) n p)) = w at kb rs
  have s38 : 0 ≤ w → w ≤ 8 → ¬ (w ≤ 3 ∧ sn w = 1) → xW X d 150 38 [.ref 131, vi w, vi (rE (cBl U) n p)] [] G (xqv Q) := fun a b c => by
    refine s150_38 hG ⟨⟨by omega, by omega⟩, fun c0 _ => good w hw.symm (by omega), fun c0 => ?_⟩
    have v9 := h9.1
    have v4 := h9.2.2
    rw [g9]
    refine ⟨⟨by omega, by omega⟩, fun c1 _ => good w hw.symm ?_, fun c1 => ⟨10, hd, p137 hG g7 fun H hH kH b7 b8 _ _ _ => bad H w hH kH b7 b8 ?_ hw.symm⟩⟩
    · rw [if_neg (by omega)] at v4
      omega
    · rw [if_pos (by omega)] at v4
      omega
  refine ⟨⟨by omega, by omega⟩, fun c => ⟨10, hd, p137 hG g7 fun H hH kH b7 b8 _ _ _ => bad H w hH kH b7 b8 (by omega) hw.symm⟩, fun c => ⟨⟨by omega, by omega⟩, fun c1 => ⟨10, hd, p137 hG g7 fun H hH kH b7 b8 _ _ _ => bad H w hH kH b7 b8 (by omega) hw.symm⟩, fun c1 => ⟨rs, fun c2 _ => s38 (by omega) (by omega) ?_, fun c2 => ⟨⟨by omega, by omega⟩, fun c3 => ⟨10, hd, p137 hG g7 fun H hH kH b7 b8 _ _ _ => bad H w hH kH b7 b8 ?_ hw.symm⟩, fun c3 _ => s38 (by omega) (by omega) (by omega)⟩⟩⟩⟩
  · rintro ⟨a, b⟩
    have := h9.2.1 w.toNat (by omega)
    rw [show ((w.toNat : Nat) : Int) = w by omega, b] at this
    rw [xbit' (by omega) (by omega), g9] at c2
    by_cases hb : mbit (F 131 9) w.toNat = true
    · rw [if_pos hb] at c2; exact c2 rfl
    · rw [if_neg hb] at this; omega
  · have := h9.2.1 w.toNat (by omega)
    rw [show ((w.toNat : Nat) : Int) = w by omega] at this
    rw [xbit' (by omega) (by omega), g9] at c2
    by_cases hb : mbit (F 131 9) w.toNat = true
    · rw [if_pos hb] at this; omega
    · rw [if_neg hb] at c2; omega
end LINE
end RD8
