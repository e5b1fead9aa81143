section REF12
variable {X : List Int32} {d : Nat} {F : XF}
/-- an answer as if: what is told, the run and its sections stay -/
def mQ (F : XF) (Q : Int → XF → Prop) (a : Int) : Prop := ∀ G, xPT G → mKb F G → G 132 = F 132 → mSA (F 132 5).toNat G → Q a G
theorem h0P (hP : xPT F) : xPT (xup F 131 0 0) := xPT_fld (k := 0) hP xob_12 (by decide) (by decide)
theorem h0t : xup F 131 0 0 132 = F 132 := funext fun i => xup_o (by decide)
theorem h0s (hS : mSA (F 132 5).toNat F) : mSA (F 132 5).toNat (xup F 131 0 0) := hS.of h0t ⟨funext fun i => xup_o (by decide), funext fun i => xup_o (by decide), funext fun i => xup_o (by decide), funext fun i => xup_o (by decide), xup_i (by decide)⟩
theorem mQ.z {Q : Int → XF → Prop} {a : Int} (q : mQ F Q a) (hS : mSA (F 132 5).toNat F) (hP : xPT (xup F 131 0 0)) : Q a (xup F 131 0 0) := q _ hP (mKb.refl.up (by omega)) h0t (h0s hS)
theorem mQ.p {Q : Int → XF → Prop} {a : Int} (q : mQ F Q a) {G : XF} (hG : xPT G) (k : mKp 132 (xup F 131 0 0) G) (s : mSA (F 132 5).toNat G) : Q a G := q G hG ((mKb.refl.up (by omega)).trans k.b) (k.t.trans h0t) s
def mIn (a lo hi : Int) : Prop := lo ≤ a ∧ a ≤ hi
noncomputable def aWhere (T : Int → Int) (c n : Int) : Int := if 0 ≤ c ∧ c < T 5 then (if 0 ≤ n ∧ n ≤ 2000 then mRun T n.toNat c + 100000 else -3) else -2
noncomputable def aWaits (T : Int → Int) (n : Int) : Int := if 0 ≤ n ∧ n ≤ 2000 then mWs (mRun T n.toNat) (T 4).toNat else -3
theorem p201 {c n : Int} {Q : Int → XF → Prop} (hP : xPT F) (hd : 9 < d) (hT : mT (F 132)) (hS : mSA (F 132 5).toNat F) (hc : inR c) (hn : inR n) (q : mQ F Q (aWhere (F 132) c n)) : xMI X d 201 [.ref 131, vi c, vi n] F Q := by
  have h5 := hT.2.2.2.2.2.1
  unfold aWhere at q
  refine m201 hP ⟨8, by omega, p155 (h0P hP) (by omega) hc (by rw [h0t]; exact h5) fun y hy => ⟨hy.r, fun c1 => ⟨hn, 8, by omega, p132 (h0P hP) ⟨⟨by omega, by omega⟩, ⟨by omega, by omega⟩, ⟨by omega, by omega⟩⟩ fun y2 hy2 => ⟨hy2.r, fun c2 => ?_, fun c2 hG => ?_⟩⟩, fun c1 hG => ?_⟩⟩
  · have g1 := hy.t c1
    have g2 := hy2.t c2
    rw [h0t] at g1
    rw [if_pos g1, if_pos g2] at q
    obtain ⟨N, hN⟩ : ∃ N : Nat, n = N := ⟨n.toNat, by omega⟩
    subst hN
    rw [Int.toNat_natCast] at q
    refine ⟨8, by omega, p200 (h0P hP) (by omega) (by rw [h0t]; exact hT) (by omega) fun G hG k1 s1 r1 => ⟨⟨by omega, by omega⟩, fun _ => ?_⟩⟩
    rw [h0t] at s1 r1
    rw [← r1, mRow_at (by omega)] at q
    exact q.p hG k1 s1
  · have g1 := hy.t c1
    rw [h0t] at g1
    rw [if_pos g1, if_neg (hy2.f (by omega))] at q
    exact q.z hS hG
  · have g1 := hy.f (by omega)
    rw [h0t] at g1
    rw [if_neg g1] at q
    exact q.z hS hG
theorem p202 {n : Int} {Q : Int → XF → Prop} (hP : xPT F) (hd : 9 < d) (hT : mT (F 132)) (hS : mSA (F 132 5).toNat F) (hn : inR n) (q : mQ F Q (aWaits (F 132) n)) : xMI X d 202 [.ref 131, vi n] F Q := by
  unfold aWaits at q
  refine m202 hP ⟨hn, 8, by omega, p132 (h0P hP) ⟨⟨by omega, by omega⟩, ⟨by omega, by omega⟩, ⟨by omega, by omega⟩⟩ fun y2 hy2 => ⟨hy2.r, fun c2 => ?_, fun c2 hG => ?_⟩⟩
  · have g2 := hy2.t c2
    rw [if_pos g2] at q
    obtain ⟨N, hN⟩ : ∃ N : Nat, n = N := ⟨n.toNat, by omega⟩
    subst hN
    rw [Int.toNat_natCast] at q
    refine ⟨8, by omega, p200 (h0P hP) (by omega) (by rw [h0t]; exact hT) (by omega) fun G hG k1 s1 r1 => ⟨8, by omega, p195 hG (by rw [k1.t, h0t]; exact hT) (by omega) fun _ => ?_⟩⟩
    rw [h0t] at s1 r1
    rw [k1.t, h0t, r1]
    exact q.p hG k1 s1
  · rw [if_neg (hy2.f (by omega))] at q
    exact q.z hS hG
/-- meters from the last tail to the first front; the most of them, behind how many ticks first -/
noncomputable def mStm (T : Int → Int) (n : Nat) : Int := mRun T n 0 - (mRun T n (T 5 - 1) - T (78 + (T 5 - 1)))
noncomputable def mStr (T : Int → Int) : Nat → Int × Int
  | 0 => (mStm T 0, 0)
  | n + 1 => if (mStr T n).1 < mStm T (n + 1) then (mStm T (n + 1), ((n + 1 : Nat) : Int)) else mStr T n
noncomputable def mStq (T : Int → Int) : Nat → Int × Int
  | 0 => (0, -1)
  | n + 1 => mStr T n
noncomputable def aStretch (T : Int → Int) (w : Int) : Int := if T 5 = 0 then -5 else if 0 ≤ w ∧ w ≤ 1 then (if w = 0 then (mStr T (mLast T)).1 else (mStr T (mLast T)).2) else -2
theorem mStm_b {T : Int → Int} (hT : mT T) (h : 1 ≤ T 5) {n : Nat} (hn : n ≤ 2000) : -10000 ≤ mStm T n ∧ mStm T n ≤ 10000 := by
  have hT' := hT
  obtain ⟨h0, _, _, _, _, h5, _, _, _, _, hl, _⟩ := hT'
  have j := (mRun_I hT n (by omega)).1.1.1
  have a := j 0 (by omega) (by omega)
  have b := j (T 5 - 1) (by omega) (by omega)
  have l0 := hl 0 (by omega) (by omega)
  have l1 := hl (T 5 - 1) (by omega) (by omega)
  unfold mStm
  omega
theorem mStm_0 {T : Int → Int} (hT : mT T) (h : 1 ≤ T 5) : 1 ≤ mStm T 0 := by
  have hT' := hT
  obtain ⟨h0, _, _, _, _, h5, _, _, _, _, hl, _⟩ := hT'
  have l1 := hl (T 5 - 1) (by omega) (by omega)
  have b := mF0_b hT (T 5 - 1).toNat (by omega)
  have e : mStm T 0 = mBeg T 0 - (mBeg T (T 5 - 1) - T (78 + (T 5 - 1))) := rfl
  rw [e, mBeg_at hT (by omega), mBeg_at hT (by omega)]
  have : mF0 T (0 : Int).toNat = 0 := rfl
  omega
theorem mStr_b {T : Int → Int} (hT : mT T) (h : 1 ≤ T 5) : ∀ {n : Nat}, n ≤ 2000 → -10000 ≤ (mStr T n).1 ∧ (mStr T n).1 ≤ 10000 ∧ 0 ≤ (mStr T n).2 ∧ (mStr T n).2 ≤ n
  | 0, _ => by
    have := mStm_b hT h (n := 0) (by omega)
    unfold mStr; dsimp only; omega
  | n + 1, hn => by
    have a := mStm_b hT h (n := n + 1) (by omega)
    have b := mStr_b hT h (n := n) (by omega)
    unfold mStr
    split
    · dsimp only; omega
    · omega
theorem mStq_s {T : Int → Int} (hT : mT T) (h : 1 ≤ T 5) {n : Nat} (hn : n ≤ 2000) : mStr T n = (if (mStq T n).1 < mStm T n then (mStm T n, (n : Int)) else mStq T n) ∧ -10000 ≤ (mStq T n).1 ∧ (mStq T n).1 ≤ 10000 := by
  cases n with
  | zero =>
    have := mStm_0 hT h
    unfold mStq mStr
    dsimp only
    rw [if_pos (by omega)]
    exact ⟨rfl, by omega, by omega⟩
  | succ n =>
    have := mStr_b hT h (n := n) (by omega)
    exact ⟨rfl, this.1, this.2.1⟩
theorem l203 {w : Int} {Q : Int → XF → Prop} (hd : 7 < d) (F0 : XF) (hT : mT (F0 132)) (h1 : 1 ≤ F0 132 5) (hw : 0 ≤ w ∧ w ≤ 1) (q : ∀ G, xPT G → mKp 132 F0 G → mSA (F0 132 5).toNat G → Q (if w = 0 then (mStr (F0 132) (mLast (F0 132))).1 else (mStr (F0 132) (mLast (F0 132))).2) G) : ∀ (f n : Nat) (F : XF) (v : Value), xPT F → n + f = 2000 → mKp 132 F0 F → mSA (F0 132 5).toNat F → mRow F 132 = mRun (F0 132) n → (∀ m, m < n → ¬ mRun (F0 132) m 131 = F0 132 5) → xW X d 203 39 [.ref 131, vi w, vi (mStq (F0 132) n).1, vi (mStq (F0 132) n).2, v] [] F (xqi Q) := by
  have hT' := hT
  obtain ⟨h0, _, _, _, _, h5, _, _, _, _, hl, _⟩ := hT'
  intro f
  induction f with
  | zero =>
    intro n F v hP hf hF hS hrow hno
    have e := hF.t
    have eu := mLast_u (T := F0 132) (n := n) (by omega) hno (Or.inl (by omega))
    have sb := mStm_b hT h1 (n := n) (by omega)
    have st := mStq_s hT h1 (n := n) (by omega)
    have rb := mStr_b hT h1 (n := n) (by omega)
    have e130 := mRun_130 hT n
    have hI := (mRun_I hT n (by omega)).1.1.2.2.1
    have g1 : F 140 263 = mRun (F0 132) n 131 := by rw [← hrow, mRow_at (by omega)]; rfl
    have g2 : F 140 262 = n := by rw [← e130, ← hrow, mRow_at (by omega)]; rfl
    have g3 : F 140 132 = mRun (F0 132) n 0 := by rw [← hrow, mRow_at (by omega)]; rfl
    have g4 : F 140 (132 + (F0 132 5 - 1)) = mRun (F0 132) n (F0 132 5 - 1) := by rw [← hrow, mRow_at (by omega)]
    have q' := q F hP hF hS
    rw [eu] at q'
    have fin : ∀ a : Int × Int, a = mStr (F0 132) n → ∀ u, xW X d 203 81 [.ref 131, vi w, vi a.1, vi a.2, vi u] [] F (xqi Q) := by
      intro a ha u
      subst ha
      exact s203_81 hP ⟨7, hd, p154 hP ⟨by rw [g1]; constructor <;> omega, by rw [e]; constructor <;> omega, fun c => ⟨⟨by omega, by omega⟩, fun c2 _ => by rw [if_neg c2] at q'; exact q', fun c2 _ => by rw [if_pos (by omega)] at q'; exact q'⟩, fun c => ⟨by rw [g2]; constructor <;> omega, fun c2 => absurd (by omega) c2, fun c2 => ⟨⟨by omega, by omega⟩, fun c2 _ => by rw [if_neg c2] at q'; exact q', fun c2 _ => by rw [if_pos (by omega)] at q'; exact q'⟩⟩⟩⟩
    refine s203_39 hP ⟨7, hd, p154 hP ⟨7, hd, p171 hP (by omega) (by rw [e]; omega) ?_⟩⟩
    rw [e, g3, g4]
    refine ⟨by unfold mStm at sb; constructor <;> omega, ⟨by omega, by omega⟩, fun c _ => fin _ ?_ _, fun c _ => ?_⟩
    · rw [st.1, if_neg (by unfold mStm; omega)]
    · rw [g2]
      refine fin (_, _) ?_ _
      rw [st.1, if_pos (by unfold mStm; omega)]
      rfl
  | succ f ih =>
    intro n F v hP hf hF hS hrow hno
    have e := hF.t
    have sb := mStm_b hT h1 (n := n) (by omega)
    have st := mStq_s hT h1 (n := n) (by omega)
    have rb := mStr_b hT h1 (n := n) (by omega)
    have e130 := mRun_130 hT n
    have hI := (mRun_I hT n (by omega)).1.1.2.2.1
    have g1 : F 140 263 = mRun (F0 132) n 131 := by rw [← hrow, mRow_at (by omega)]; rfl
    have g2 : F 140 262 = n := by rw [← e130, ← hrow, mRow_at (by omega)]; rfl
    have g3 : F 140 132 = mRun (F0 132) n 0 := by rw [← hrow, mRow_at (by omega)]; rfl
    have g4 : F 140 (132 + (F0 132 5 - 1)) = mRun (F0 132) n (F0 132 5 - 1) := by rw [← hrow, mRow_at (by omega)]
    have fin : ∀ a : Int × Int, a = mStr (F0 132) n → ∀ u, xW X d 203 81 [.ref 131, vi w, vi a.1, vi a.2, vi u] [] F (xqi Q) := by
      intro a ha u
      subst ha
      refine s203_81 hP ⟨7, hd, p154 hP ⟨by rw [g1]; constructor <;> omega, by rw [e]; constructor <;> omega, fun c => ?_, fun c => ⟨by rw [g2]; constructor <;> omega, fun c2 => ⟨7, hd, p181a (n := n) hP (by omega) (by rw [e]; exact hT) (by rw [e]; exact hS) (by omega) (by rw [e]; exact hrow) fun G hG k1 s1 r1 _ => ?_⟩, fun c2 => absurd (by omega) c2⟩⟩⟩
      · have eu := mLast_u (T := F0 132) (n := n) (by omega) hno (Or.inr (by rw [e] at c; omega))
        have q' := q F hP hF hS
        rw [eu] at q'
        exact ⟨⟨by omega, by omega⟩, fun c2 _ => by rw [if_neg c2] at q'; exact q', fun c2 _ => by rw [if_pos (by omega)] at q'; exact q'⟩
      · rw [e] at s1 r1 c
        refine ih (n + 1) G _ hG (by omega) (hF.trans k1.p) s1 r1 fun m hm => ?_
        by_cases hq : m = n
        · rw [hq]; omega
        · exact hno m (by omega)
    refine s203_39 hP ⟨7, hd, p154 hP ⟨7, hd, p171 hP (by omega) (by rw [e]; omega) ?_⟩⟩
    rw [e, g3, g4]
    refine ⟨by unfold mStm at sb; constructor <;> omega, ⟨by omega, by omega⟩, fun c _ => fin _ ?_ _, fun c _ => ?_⟩
    · rw [st.1, if_neg (by unfold mStm; omega)]
    · rw [g2]
      refine fin (_, _) ?_ _
      rw [st.1, if_pos (by unfold mStm; omega)]
      rfl
theorem p203 {w : Int} {Q : Int → XF → Prop} (hP : xPT F) (hd : 9 < d) (hT : mT (F 132)) (hS : mSA (F 132 5).toNat F) (hw : inR w) (q : mQ F Q (aStretch (F 132) w)) : xMI X d 203 [.ref 131, vi w] F Q := by
  have h5 := hT.2.2.2.2.2.1
  unfold aStretch at q
  refine m203 hP ⟨8, by omega, p154 (h0P hP) ⟨by rw [h0t]; constructor <;> omega, fun c1 => ⟨hw, 8, by omega, p132 (h0P hP) ⟨⟨by omega, by omega⟩, ⟨by omega, by omega⟩, ⟨by omega, by omega⟩⟩ fun y2 hy2 => ⟨hy2.r, fun c2 => ?_, fun c2 hG => ?_⟩⟩, fun c1 hG => ?_⟩⟩
  · rw [h0t] at c1
    rw [if_neg c1, if_pos (hy2.t c2)] at q
    refine ⟨8, by omega, p170 (h0P hP) (by omega) (by rw [h0t]; exact hT) (by omega) fun G hG k1 s1 r1 _ _ => ?_⟩
    exact l203 (by omega) (xup F 131 0 0) (by rw [h0t]; exact hT) (by rw [h0t]; omega) (hy2.t c2) (fun G hG k s => by rw [h0t]; exact q.p hG k (by rw [h0t] at s; exact s)) 2000 0 G _ hG (by omega) k1 s1 (mBeg_row (by rw [h0t]; exact hT) r1) (fun m h => absurd h (by omega))
  · rw [h0t] at c1
    rw [if_neg c1, if_neg (hy2.f (by omega))] at q
    exact q.z hS hG
  · rw [h0t] at c1
    rw [if_pos (by omega)] at q
    exact q.z hS hG
end REF12
