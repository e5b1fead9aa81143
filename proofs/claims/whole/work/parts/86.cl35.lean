section CL35
variable {X : List Int32} {d : Nat} {F : XF}
/-! the class's line, whole -/
def sB : Nat → Int
  | 0 => 1
  | 1 => 2
  | 2 => 4
  | 3 => 8
  | _ => 16
theorem cSn_a : ∀ v : Nat, v < 32 → ∀ j : Nat, j < 5 → 0 ≤ xand (v : Int) (sB j) ∧ xand (v : Int) (sB j) ≤ 31 ∧ (xand (v : Int) (sB j) = 0 → mbit (v : Int) j = false) ∧ (¬ xand (v : Int) (sB j) = 0 → mbit (v : Int) j = true) := by decide +kernel
theorem cSn_o : ∀ v : Nat, v < 32 → ∀ j : Nat, j < 5 → 0 ≤ xior (v : Int) (sB j) ∧ xior (v : Int) (sB j) < 32 ∧ ∀ i : Nat, i < 5 → mbit (xior (v : Int) (sB j)) i = (mbit (v : Int) i || decide (i = j)) := by decide +kernel
/-- what has stood, as the class keeps it -/
def cSn (v : Int) (sn : Int → Int) : Prop := (0 ≤ v ∧ v < 32) ∧ ∀ j : Nat, j < 5 → sn j = if mbit v j then 1 else 0
theorem cSn.w {v : Int} {sn : Int → Int} {j : Nat} (h : cSn v sn) (hj : j < 5) : cSn (xior v (sB j)) (mSet sn j 1) := by
  have hv := h.1
  have c := cSn_o v.toNat (by omega) j hj
  rw [show ((v.toNat : Nat) : Int) = v by omega] at c
  refine ⟨⟨c.1, c.2.1⟩, fun i hi => ?_⟩
  rw [c.2.2 i hi]
  by_cases hq : i = j
  · subst hq
    rw [mSet_s, decide_eq_true rfl, Bool.or_true, if_pos rfl]
  · rw [mSet_n (by omega), decide_eq_false hq, Bool.or_false]
    exact h.2 i hi
theorem cSn.a {v : Int} {sn : Int → Int} {j : Nat} (h : cSn v sn) (hj : j < 5) : inR (xand v (sB j)) ∧ (xand v (sB j) = 0 → sn j = 0) ∧ (¬ xand v (sB j) = 0 → sn j = 1) := by
  have hv := h.1
  have c := cSn_a v.toNat (by omega) j hj
  rw [show ((v.toNat : Nat) : Int) = v by omega] at c
  refine ⟨xand_r, fun z => ?_, fun z => ?_⟩
  · rw [h.2 j hj, c.2.2.1 z]; rfl
  · rw [h.2 j hj, c.2.2.2 z]; rfl
/-- what the reading of a line changes -/
def cKv (F G : XF) : Prop := ∀ p i, ¬ (p = 18 ∧ (i = 1 ∨ i = 2 ∨ (7 ≤ i ∧ i ≤ 11))) → G p i = F p i
theorem cKw.v {F G : XF} (a : cKw F G) : cKv F G := fun p i h => a p i (by omega)
theorem cKv.trans {F G H : XF} (a : cKv F G) (b : cKv G H) : cKv F H := fun p i h => (b p i h).trans (a p i h)
theorem cKv.tp {U : Int → Int} {n : Int} {F G : XF} (a : cKv F G) (h : cTp U n F) : cTp U n G := h.of fun p i hp => a p i (by omega)
theorem cKv.tw {t : Nat} {T : Int → Int} {F G : XF} (ht : cAt t) (a : cKv F G) (hT : mT T) (h : cTw F t T) : cTw G t T := h.of hT fun p i hp => a p i (by omega)
def cKn (t : Nat) (F G : XF) : Prop := ∀ p i, ¬ (t ≤ p ∧ p < t + 17) → ¬ (p = 18 ∧ (i = 1 ∨ i = 2 ∨ (7 ≤ i ∧ i ≤ 11))) → G p i = F p i
theorem cKn.trans {t : Nat} {F G H : XF} (a : cKn t F G) (b : cKn t G H) : cKn t F H := fun p i h1 h2 => (b p i h1 h2).trans (a p i h1 h2)
theorem cKv.n {t : Nat} {F G : XF} (a : cKv F G) : cKn t F G := fun p i _ h => a p i h
theorem cKl.n {t : Nat} {F G : XF} (a : cKl t F G) : cKn t F G := fun p i h1 h2 => a p i h1 (by omega)
theorem cKn.tp {t : Nat} {U : Int → Int} {n : Int} {F G : XF} (ht : cAt t) (a : cKn t F G) (h : cTp U n F) : cTp U n G := h.of fun p i hp => a p i (by omega) (by omega)
theorem cKn.up {t o : Nat} {F G : XF} {i v : Int} (a : cKn t F G) (h : t ≤ o ∧ o < t + 17) : cKn t F (xup G o i v) := a.trans fun p j h1 _ => xup_o (by omega)
/-- a line's outcome, with what has stood -/
def cLo (U : Int → Int) (n : Int) (t : Nat) (F G : XF) (R : RR ((Int → Int) × (Int → Int) × Int)) : Prop := cKn t F G ∧ cRd U n G (rB R fun a => .ok a.2.2) ∧ (∀ a, R = .ok a → cTw G t a.1 ∧ cSn (G 18 7) a.2.1)
section K40
variable {U sn : Int → Int} {n p e w lo hi : Int} {j : Nat} {Q : Int → XF → Prop}
theorem k40 (hP : xPT F) (hd : 2 < d) (hj : j < 4) (hw : w = sB j) (hT : cTp U n F) (hlo : inR lo) (hhi : inR hi) (h7 : cSn (F 18 7) sn) (hs : cRd U n F (.ok p)) (he : F 18 11 = e) (h0 : 0 ≤ e ∧ e ≤ n) (q0 : sn j = 1 → ∀ G, xPT G → cKv F G → cRd U n G (.error (1, rE (cBl U) n p)) → Q lo G) (q1 : sn j = 0 → ∀ G, xPT G → cKv F G → cRd U n G (rP (.ok e) (rNum U n lo hi)) → cSn (G 18 7) (mSet sn j 1) → Q (rY lo (.ok e) (rNum U n lo hi)) G) : xMI X d 40 [.ref 18, vi w, vi lo, vi hi] F Q := by
  subst hw
  have ca := h7.a (j := j) (by omega)
  have co := h7.w (j := j) (by omega)
  have h1 := (cRd_ok hs).1
  have h2 := (cRd_ok hs).2.1
  refine m40 hP ⟨ca.1, fun z _ => ?_, fun z => ⟨2, hd, ?_⟩⟩
  · refine s40_18 hP ⟨by rw [h1]; constructor <;> omega, fun _ => ⟨2, hd, k32 (p := e) (U := U) (n := n) (xPT_18 (k := 7) hP (by decide)) (by omega) (hT.of fun p i hp => xup_n (by omega)) (by rw [xup_i (by decide)]; exact he) h0 fun G hG kG tG => ⟨2, hd, k37 hG (by omega) (kG.tp (hT.of fun p i hp => xup_n (by omega))) hlo hhi (tG.rd (by rw [xup_i (by decide)]; exact h1) (by rw [xup_i (by decide)]; exact h2) kG) fun H hH kH sH _ => q1 (ca.2.1 z) H hH (fun p i hp => ?_) sH ?_⟩⟩, fun c => absurd h1 c⟩
    · rw [kH p i (by omega), kG p i (by omega), xup_n (by omega)]
    · rw [kH 18 7 (by omega), kG 18 7 (by omega), xup_s]
      exact co
  · rw [(cRd_ok hs).2.2.2.2.1]
    refine kFail (U := U) (n := n) hP h1 (by omega) fun G hG kG rG _ => s40_18 hG ⟨by rw [show G 18 1 = 1 from (cRd_er rG).1]; exact ⟨by decide, by decide⟩, fun c => absurd c (by rw [show G 18 1 = 1 from (cRd_er rG).1]; decide), fun _ hH => q0 (ca.2.2 z) _ hH (fun p i hp => ?_) (rG.of fun i hi => xup_i (by omega))⟩
    rw [xup_n (by omega), kG p i (by omega)]
theorem k40e {z : Int × Int} (hP : xPT F) (hd : 2 < d) (hs : cRd U n F (.error z)) (q : ∀ G, xPT G → cKv F G → cRd U n G (.error z) → Q lo G) : xMI X d 40 [.ref 18, vi w, vi lo, vi hi] F Q := by
  have h := cRd_er hs
  have stop : ∀ G, xPT G → cKv F G → cRd U n G (.error z) → xW X d 40 18 [.ref 18, vi w, vi lo, vi hi] [] G (xqi Q) := fun G hG kG rG => by
    have g := cRd_er rG
    refine s40_18 hG ⟨by rw [g.1]; constructor <;> omega, fun c => absurd c (by omega), fun _ hH => q _ hH (fun p i hp => ?_) (rG.of fun i hi => xup_i (by omega))⟩
    rw [xup_n (by omega), kG p i (by omega)]
  refine m40 hP ⟨xand_r, fun z _ => stop F hP (fun _ _ _ => rfl) hs, fun c => ⟨2, hd, k31 hP (by rw [h.1]; constructor <;> omega) fun G hG kG _ b _ => stop G hG (fun p i hp => kG p i (by omega)) ?_⟩⟩
  have b' := b (by omega)
  exact ⟨b'.1.trans h.1, b'.2.trans h.2.1, h.2.2⟩
end K40
section LINE
variable {U T sn : Int → Int} {n p : Int} {t : Nat} {Q : XF → Prop}
/-- the line's end -/
theorem c38 {R : RR ((Int → Int) × Int)} {sn' : Int → Int} (F0 : XF) (hP : xPT F) (hd : 2 < d) (hT : cTp U n F) (hat : cAt t) (k0 : cKn t F0 F) (hs : cRd U n F (rB R fun a => .ok a.2)) (hr : ∀ a, R = .ok a → mT a.1 ∧ cTw F t a.1 ∧ cSn (F 18 7) sn') (q : ∀ G, xPT G → cLo U n t F0 G (rB R fun a => rB (rSemi U n a.2) fun e => .ok (a.1, sn', e)) → Q G) : ∃ j, j < d ∧ xMV X j 38 [.ref 18] F (fun G => xPT G → Q G) := by
  refine ⟨2, hd, k38 hP (by omega) hT hs fun G hG kG rG _ => q G hG ?_⟩
  have kk : cKn t F0 G := k0.trans kG.v.n
  cases R with
  | error z => exact ⟨kk, rG, fun a h => by cases h⟩
  | ok a =>
    have ha := hr a rfl
    refine ⟨kk, ?_, fun b h => ?_⟩
    · rw [rB_ok] at rG ⊢
      rw [rB_ok] at rG
      cases hm : rSemi U n a.2 with
      | error z => rw [hm] at rG; exact rG
      | ok e => rw [hm] at rG; exact rG
    · rw [rB_ok] at h
      cases hm : rSemi U n a.2 with
      | error z => rw [hm] at h; cases h
      | ok e =>
        rw [hm] at h
        cases h
        exact ⟨kG.tw hat ha.1 ha.2.1, by rw [kG 18 7 (by omega)]; exact ha.2.2⟩
theorem cTw.vj {j : Nat} {v : Int} (hj : j < 4) (h : cTw F t T) (hT : mT T) : cTw (xup F t (j : Int) v) t (mSet T (j : Int) v) := by
  rcases (show j = 0 ∨ j = 1 ∨ j = 2 ∨ j = 3 by omega) with z | z | z | z <;> subst z
  · exact h.v0 hT
  · exact h.v1 hT
  · exact h.v2 hT
  · exact h.v3 hT
/-- a line of one number -/
theorem c40 {j : Nat} {w lo hi : Int} (hP : xPT F) (hd : 7 < d) (ht : xob 9 t) (hat : cAt t) (h5 : F 18 5 = (t : Int)) (hT : cTp U n F) (hi' : rIn T sn) (hw : cTw F t T) (hs : cRd U n F (.ok p)) (h7 : cSn (F 18 7) sn) (hj : j < 4) (hwj : w = sB j) (hlo : inR lo) (hhi : inR hi) (he : F 18 11 = rE (cLe U) n (rE (cBl U) n p)) (hk : rKey U (rE (cBl U) n p) (rE (cLe U) n (rE (cBl U) n p)) = j) (hr1 : sn j = 1 → rHead U n T sn p = .error (1, rE (cBl U) n p)) (hr0 : sn j = 0 → rHead U n T sn p = rOne U n T j lo hi (rE (cLe U) n (rE (cBl U) n p))) (q : ∀ G, xPT G → cLo U n t F G (rLine U n T sn p) → Q G) : ∃ t1 : Nat, F 18 5 = (t1 : Int) ∧ xob 9 t1 ∧ (∃ j8, j8 < d ∧ xMI X j8 40 [.ref 18, vi w, vi lo, vi hi] F (fun y G => ∃ j9, j9 < d ∧ xMV X j9 38 [.ref 18] (xup G t1 (j : Int) y) (fun G9 => xPT G9 → Q G9))) := by
  have h0 := (cRd_ok hs).2.2.1
  have bk := rE_p (c := cBl U) (n := n) (p := p)
  have b2 := bk.2.1 h0.2
  have bl := rE_p (c := cLe U) (n := n) (p := rE (cBl U) n p)
  have b3 := bl.2.1 b2
  have es : rSeen U n sn p = mSet sn j 1 := by
    unfold rSeen
    dsimp only
    rw [hk, if_pos (by omega)]
  refine ⟨t, h5, ht, 7, hd, k40 hP (by omega) hj hwj hT hlo hhi h7 hs he (by omega) (fun z G hG kG rG => ?_) (fun z G hG kG rG sG => ?_)⟩
  · refine c38 (R := rHead U n T sn p) (sn' := rSeen U n sn p) F (xPT_fld (k := j) hG ht (by decide) ?_) (by omega) ((kG.n.up (by omega)).tp hat hT) hat (kG.n.up (by omega)) ?_ (fun a ha => ?_) q
    · rcases (show j = 0 ∨ j = 1 ∨ j = 2 ∨ j = 3 by omega) with z | z | z | z <;> subst z <;> decide
    · rw [hr1 z]
      exact rG.up (t := t) hat (by omega)
    · rw [hr1 z] at ha
      cases ha
  · refine c38 (R := rHead U n T sn p) (sn' := rSeen U n sn p) F (xPT_fld (k := j) hG ht (by decide) ?_) (by omega) ((kG.n.up (by omega)).tp hat hT) hat (kG.n.up (by omega)) ?_ (fun a ha => ?_) q
    · rcases (show j = 0 ∨ j = 1 ∨ j = 2 ∨ j = 3 by omega) with z | z | z | z <;> subst z <;> decide
    · rw [hr0 z]
      refine cRd.up (t := t) hat ?_ (by omega)
      rcases rN_c (U := U) (n := n) (lo := lo) (hi := hi) (p := rE (cLe U) n (rE (cBl U) n p)) with ⟨y, a1, a2⟩ | ⟨a, a1, a2, a3⟩
      · rw [a2] at rG
        unfold rOne
        rw [a1]
        exact rG
      · rw [a2] at rG
        unfold rOne
        rw [a1]
        exact rG
    · have hp := rHead_p h0.2 hi' ha
      refine ⟨hp.1.1, ?_, ?_⟩
      · rw [hr0 z] at ha
        rcases rN_c (U := U) (n := n) (lo := lo) (hi := hi) (p := rE (cLe U) n (rE (cBl U) n p)) with ⟨y, a1, a2⟩ | ⟨b, a1, a2, a3⟩
        · unfold rOne at ha
          rw [a1] at ha
          cases ha
        · unfold rOne at ha
          rw [a1] at ha
          cases ha
          rw [a3]
          exact cTw.vj hj (kG.tw hat hi'.1 hw) hi'.1
      · rw [es, xup_o (by omega)]
        exact sG
/-- a line of another word -/
theorem k41 (hP : xPT F) (hd : 6 < d) (ht : xob 9 t) (hat : cAt t) (h5 : F 18 5 = (t : Int)) (hT : cTp U n F) (hi : rIn T sn) (hw : cTw F t T) (hs : cRd U n F (.ok p)) (h7 : cSn (F 18 7) sn) (hk : ∀ j : Nat, j < 4 → ¬ rIs U (rE (cBl U) n p) (rE (cLe U) n (rE (cBl U) n p)) j) (q : ∀ G, xPT G → cKn t F G → cRd U n G (rB (rHead U n T sn p) fun a => .ok a.2) → (∀ a, rHead U n T sn p = .ok a → cTw G t a.1 ∧ cSn (G 18 7) (rSeen U n sn p)) → Q G) : xMV X d 41 [.ref 18] F Q := by
  have tk := (cRd_ok hs).2.2
  have h0 := tk.1
  have bk := rE_p (c := cBl U) (n := n) (p := p)
  have b2 := bk.2.1 h0.2
  have bl := rE_p (c := cLe U) (n := n) (p := rE (cBl U) n p)
  have b3 := bl.2.1 b2
  have kf : ∀ i, ∀ o, ¬ (o = 18 ∧ i = 7) → (xup F 18 7 (xior (F 18 7) 16)) o i = F o i := fun i o z => xup_n z
  have P1 : xPT (xup F 18 7 (xior (F 18 7) 16)) := xPT_18 (k := 7) hP (by decide)
  have T1 : cTp U n (xup F 18 7 (xior (F 18 7) 16)) := hT.of fun o i z => kf i o (by omega)
  have s1 : cRd U n (xup F 18 7 (xior (F 18 7) 16)) (.ok p) := hs.of fun i z => kf i 18 (by omega)
  have tk1 := (cRd_ok s1).2.2
  have w1 : cTw (xup F 18 7 (xior (F 18 7) 16)) t T := hw.of hi.1 fun o i z => kf i o (by omega)
  have g5 : (xup F 18 7 (xior (F 18 7) 16)) 18 5 = (t : Int) := (kf 5 18 (by omega)).trans h5
  have g7 : cSn ((xup F 18 7 (xior (F 18 7) 16)) 18 7) (mSet sn 4 1) := by rw [xup_s]; exact h7.w (j := 4) (by omega)
  have kv : cKn t F (xup F 18 7 (xior (F 18 7) 16)) := fun o i _ z => kf i o (by omega)
  obtain ⟨H, eH⟩ : ∃ H, H = xup F 18 7 (xior (F 18 7) 16) := ⟨_, rfl⟩
  refine m41 hP ?_
  rw [← eH] at P1 T1 s1 tk1 w1 g5 g7 kv ⊢
  clear eH kf
  have nk : ∀ j : Nat, j < 4 → ¬ rKey U (rE (cBl U) n p) (rE (cLe U) n (rE (cBl U) n p)) = (j : Int) := fun j hj z => by
    have := (rKey_i (U := U) (j := j) (by omega)).mp z
    rcases (show j = 0 ∨ j = 1 ∨ j = 2 ∨ j = 3 by omega) with y | y | y | y <;> subst y
    · exact hk 0 (by omega) this
    · exact hk 1 (by omega) this
    · exact hk 2 (by omega) this
    · exact hk 3 (by omega) this
  have n0 := nk 0 (by omega)
  have n1 := nk 1 (by omega)
  have n2 := nk 2 (by omega)
  have n3 := nk 3 (by omega)
  have kb := rKey_b (U := U) (k := rE (cBl U) n p) (e := rE (cLe U) n (rE (cBl U) n p))
  have es : 4 ≤ rKey U (rE (cBl U) n p) (rE (cLe U) n (rE (cBl U) n p)) → rSeen U n sn p = mSet sn 4 1 := fun z => by
    unfold rSeen
    dsimp only
    rw [if_neg (by omega)]
  have fin : ∀ (R : RR ((Int → Int) × Int)), rHead U n T sn p = R → 4 ≤ rKey U (rE (cBl U) n p) (rE (cLe U) n (rE (cBl U) n p)) → ∀ G, xPT G → cOut U n t H G R → Q G := fun R hR h4 G hG o => by
    refine q G hG (kv.trans o.1.n) (by rw [hR]; exact o.2.1) fun a ha => ⟨o.2.2 a (by rw [← hR]; exact ha), ?_⟩
    rw [es h4, o.1 18 7 (by omega) (by omega)]
    exact g7
  refine ⟨6, hd, k35 P1 (by omega) T1 (by decide) (by decide) tk1 fun y4 hy4 => ⟨hy4.r, fun c4 => ⟨6, hd, k35 P1 (by omega) T1 (by decide) (by decide) tk1 fun y5 hy5 => ⟨hy5.r, fun c5 => ⟨6, hd, k35 P1 (by omega) T1 (by decide) (by decide) tk1 fun y6 hy6 => ⟨hy6.r, fun c6 => ⟨6, hd, k35 P1 (by omega) T1 (by decide) (by decide) tk1 fun y7 hy7 => ⟨hy7.r, fun c7 => ⟨6, hd, k35 P1 (by omega) T1 (by decide) (by decide) tk1 fun y8 hy8 => ⟨hy8.r, fun c8 => ⟨6, hd, ?_⟩, fun c8 => ⟨6, hd, ?_⟩⟩⟩, fun c7 => ⟨6, hd, ?_⟩⟩⟩, fun c6 => ⟨6, hd, ?_⟩⟩⟩, fun c5 => ⟨6, hd, ?_⟩⟩⟩, fun c4 => ⟨6, hd, ?_⟩⟩⟩
  · have m4 : ¬ rKey U (rE (cBl U) n p) (rE (cLe U) n (rE (cBl U) n p)) = 4 := fun z => hy4.f c4 ((rKey_i (j := 4) (by omega)).mp z)
    have m5 : ¬ rKey U (rE (cBl U) n p) (rE (cLe U) n (rE (cBl U) n p)) = 5 := fun z => hy5.f c5 ((rKey_i (j := 5) (by omega)).mp z)
    have m6 : ¬ rKey U (rE (cBl U) n p) (rE (cLe U) n (rE (cBl U) n p)) = 6 := fun z => hy6.f c6 ((rKey_i (j := 6) (by omega)).mp z)
    have m7 : ¬ rKey U (rE (cBl U) n p) (rE (cLe U) n (rE (cBl U) n p)) = 7 := fun z => hy7.f c7 ((rKey_i (j := 7) (by omega)).mp z)
    have m8 : ¬ rKey U (rE (cBl U) n p) (rE (cLe U) n (rE (cBl U) n p)) = 8 := fun z => hy8.f c8 ((rKey_i (j := 8) (by omega)).mp z)
    rw [tk1.2.2.1]
    have hR : rHead U n T sn p = .error (1, rE (cBl U) n p) := by
      unfold rHead
      dsimp only
      rw [if_pos (by omega)]
    refine kFail (U := U) (n := n) P1 (cRd_ok s1).1 (by omega) fun G hG kG rG _ => q G hG (kv.trans kG.v.n) (by rw [hR]; exact rG) fun a ha => ?_
    rw [hR] at ha
    cases ha
  · have m : rKey U (rE (cBl U) n p) (rE (cLe U) n (rE (cBl U) n p)) = 8 := (rKey_i (j := 8) (by omega)).mpr (hy8.t c8)
    refine k46 P1 (by omega) ht hat g5 T1 hi.1 hi.2.1 w1 s1 (tk1.e (by decide) (hy8.t c8)) (by omega) fun G hG o _ => fin _ ?_ (by omega) G hG o
    unfold rHead
    dsimp only
    rw [m, if_neg (by omega), if_neg (by omega), if_neg (by omega), if_neg (by omega), if_neg (by omega), if_neg (by omega), if_neg (by omega), if_neg (by omega), if_neg (by omega)]
  · have m : rKey U (rE (cBl U) n p) (rE (cLe U) n (rE (cBl U) n p)) = 7 := (rKey_i (j := 7) (by omega)).mpr (hy7.t c7)
    refine k45 P1 (by omega) ht hat g5 T1 hi.1 w1 s1 (tk1.e (by decide) (hy7.t c7)) (by omega) fun G hG o _ => fin _ ?_ (by omega) G hG o
    unfold rHead
    dsimp only
    rw [m, if_neg (by omega), if_neg (by omega), if_neg (by omega), if_neg (by omega), if_neg (by omega), if_neg (by omega), if_neg (by omega), if_neg (by omega), if_pos rfl]
  · have m : rKey U (rE (cBl U) n p) (rE (cLe U) n (rE (cBl U) n p)) = 6 := (rKey_i (j := 6) (by omega)).mpr (hy6.t c6)
    refine k44 P1 (by omega) ht hat g5 T1 hi.1 w1 s1 (tk1.e (by decide) (hy6.t c6)) (by omega) fun G hG o _ => fin _ ?_ (by omega) G hG o
    unfold rHead
    dsimp only
    rw [m, if_neg (by omega), if_neg (by omega), if_neg (by omega), if_neg (by omega), if_neg (by omega), if_neg (by omega), if_neg (by omega), if_pos rfl]
  · have m : rKey U (rE (cBl U) n p) (rE (cLe U) n (rE (cBl U) n p)) = 5 := (rKey_i (j := 5) (by omega)).mpr (hy5.t c5)
    refine k43 P1 (by omega) ht hat g5 T1 hi.1 w1 s1 (tk1.e (by decide) (hy5.t c5)) (by omega) fun G hG o _ => fin _ ?_ (by omega) G hG o
    unfold rHead
    dsimp only
    rw [m, if_neg (by omega), if_neg (by omega), if_neg (by omega), if_neg (by omega), if_neg (by omega), if_neg (by omega), if_pos rfl]
  · have m : rKey U (rE (cBl U) n p) (rE (cLe U) n (rE (cBl U) n p)) = 4 := (rKey_i (j := 4) (by omega)).mpr (hy4.t c4)
    refine k42 P1 (by omega) ht hat g5 T1 hi.1 w1 s1 (tk1.e (by decide) (hy4.t c4)) (by omega) fun G hG o _ => fin _ ?_ (by omega) G hG o
    unfold rHead
    dsimp only
    rw [m, if_neg (by omega), if_neg (by omega), if_neg (by omega), if_neg (by omega), if_neg (by omega), if_pos rfl]
/-- a line -/
theorem k39 (hP : xPT F) (hd : 7 < d) (ht : xob 9 t) (hat : cAt t) (h5 : F 18 5 = (t : Int)) (hT : cTp U n F) (hi : rIn T sn) (hw : cTw F t T) (hs : cRd U n F (.ok p)) (h7 : cSn (F 18 7) sn) (q : ∀ G, xPT G → cLo U n t F G (rLine U n T sn p) → Q G) : xMV X d 39 [.ref 18] F Q := by
  have tk := (cRd_ok hs).2.2
  have h0 := tk.1
  have a4 := h7.a (j := 4) (by omega)
  have sb : ∀ j : Int, 0 ≤ j → j ≤ 4 → sn j = 0 ∨ sn j = 1 := hi.2.2.1
  have kb := rKey_b (U := U) (k := rE (cBl U) n p) (e := rE (cLe U) n (rE (cBl U) n p))
  refine m39 hP ⟨7, hd, k35 hP (by omega) hT (by decide) (by decide) tk fun y0 hy0 => ⟨hy0.r, fun c0 => ⟨7, hd, k35 hP (by omega) hT (by decide) (by decide) tk fun y1 hy1 => ⟨hy1.r, fun c1 => ⟨7, hd, k35 hP (by omega) hT (by decide) (by decide) tk fun y2 hy2 => ⟨hy2.r, fun c2 => ⟨7, hd, k35 hP (by omega) hT (by decide) (by decide) tk fun y3 hy3 => ⟨hy3.r, fun c3 => ⟨7, hd, ?_⟩, fun c3 => ?_⟩⟩, fun c2 => ?_⟩⟩, fun c1 => ?_⟩⟩, fun c0 => ⟨a4.1, fun z _ => ?_, fun z => ⟨7, hd, ?_⟩⟩⟩⟩
  · refine k41 hP (by omega) ht hat h5 hT hi hw hs h7 (fun j hj z => ?_) fun G hG kG rG aG => c38 (R := rHead U n T sn p) (sn' := rSeen U n sn p) F hG (by omega) (kG.tp hat hT) hat kG rG (fun a ha => ⟨(rHead_p h0.2 hi ha).1.1, aG a ha⟩) q
    rcases (show j = 0 ∨ j = 1 ∨ j = 2 ∨ j = 3 by omega) with y | y | y | y <;> subst y
    · exact hy0.f c0 z
    · exact hy1.f c1 z
    · exact hy2.f c2 z
    · exact hy3.f c3 z
  · have m : rKey U (rE (cBl U) n p) (rE (cLe U) n (rE (cBl U) n p)) = 3 := (rKey_i (j := 3) (by omega)).mpr (hy3.t c3)
    refine c40 (j := 3) hP hd ht hat h5 hT hi hw hs h7 (by omega) rfl ⟨by decide, by decide⟩ ⟨by decide, by decide⟩ (tk.e (by decide) (hy3.t c3)) m (fun z => ?_) (fun z => ?_) q
    · unfold rHead
      dsimp only
      rw [m, if_pos (Or.inr (Or.inr (Or.inl ⟨by decide, z⟩)))]
    · have z' : sn 3 = 0 := z
      unfold rHead
      dsimp only
      rw [m, if_neg (by omega), if_neg (by omega), if_neg (by omega), if_neg (by omega), if_pos rfl]
      rfl
  · have m : rKey U (rE (cBl U) n p) (rE (cLe U) n (rE (cBl U) n p)) = 2 := (rKey_i (j := 2) (by omega)).mpr (hy2.t c2)
    refine c40 (j := 2) hP hd ht hat h5 hT hi hw hs h7 (by omega) rfl ⟨by decide, by decide⟩ ⟨by decide, by decide⟩ (tk.e (by decide) (hy2.t c2)) m (fun z => ?_) (fun z => ?_) q
    · unfold rHead
      dsimp only
      rw [m, if_pos (Or.inr (Or.inr (Or.inl ⟨by decide, z⟩)))]
    · have z' : sn 2 = 0 := z
      unfold rHead
      dsimp only
      rw [m, if_neg (by omega), if_neg (by omega), if_neg (by omega), if_pos rfl]
      rfl
  · have m : rKey U (rE (cBl U) n p) (rE (cLe U) n (rE (cBl U) n p)) = 1 := (rKey_i (j := 1) (by omega)).mpr (hy1.t c1)
    refine c40 (j := 1) hP hd ht hat h5 hT hi hw hs h7 (by omega) rfl ⟨by decide, by decide⟩ ⟨by decide, by decide⟩ (tk.e (by decide) (hy1.t c1)) m (fun z => ?_) (fun z => ?_) q
    · unfold rHead
      dsimp only
      rw [m, if_pos (Or.inr (Or.inr (Or.inl ⟨by decide, z⟩)))]
    · have z' : sn 1 = 0 := z
      unfold rHead
      dsimp only
      rw [m, if_neg (by omega), if_neg (by omega), if_pos rfl]
      rfl
  · have m : rKey U (rE (cBl U) n p) (rE (cLe U) n (rE (cBl U) n p)) = 0 := (rKey_i (j := 0) (by omega)).mpr (hy0.t c0)
    have s4 : sn 4 = 0 := a4.2.1 z
    refine s39_28 hP (c40 (j := 0) hP hd ht hat h5 hT hi hw hs h7 (by omega) rfl ⟨by decide, by decide⟩ ⟨by decide, by decide⟩ (tk.e (by decide) (hy0.t c0)) m (fun z => ?_) (fun z => ?_) q)
    · unfold rHead
      dsimp only
      rw [m, if_pos (Or.inr (Or.inr (Or.inl ⟨by decide, z⟩)))]
    · have z' : sn 0 = 0 := z
      unfold rHead
      dsimp only
      rw [m, if_neg (by omega), if_pos rfl]
      rfl
  · have m : rKey U (rE (cBl U) n p) (rE (cLe U) n (rE (cBl U) n p)) = 0 := (rKey_i (j := 0) (by omega)).mpr (hy0.t c0)
    have s4 : sn 4 = 1 := a4.2.2 z
    have hR : rHead U n T sn p = .error (1, rE (cBl U) n p) := by
      unfold rHead
      dsimp only
      rw [m, if_pos (Or.inr (Or.inr (Or.inr ⟨rfl, s4⟩)))]
    rw [tk.2.2.1]
    refine kFail (U := U) (n := n) hP (cRd_ok hs).1 (by omega) fun G hG kG rG _ => s39_28 hG ⟨t, by rw [kG 18 5 (by omega)]; exact h5, ht, 7, hd, k40e hG (by omega) rG fun K hK kK rK => ?_⟩
    have kn : ∀ v, cKn t F (xup K t 0 v) := fun v => (kG.v.trans kK).n.up (by omega)
    refine c38 (R := rHead U n T sn p) (sn' := rSeen U n sn p) F (xPT_fld (k := 0) hK ht (by decide) (by decide)) (by omega) ((kn _).tp hat hT) hat (kn _) ?_ (fun a ha => ?_) q
    · rw [hR]
      exact rK.up (t := t) hat (by omega)
    · rw [hR] at ha
      cases ha
end LINE
end CL35
