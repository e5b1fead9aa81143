section REF20
variable {X : List Int32} {d : Nat} {F : XF}
/-- all waits by the end -/
noncomputable def mWe (T : Int → Int) : Int := mWs (mRun T (mLast T)) (T 4).toNat
noncomputable def mBs (T : Int → Int) : Nat → Int × Int
  | 0 => (-1, 0)
  | t + 1 => if mEnd (mSet T 3 t) = -1 ∨ (¬ (mBs T t).1 = -1 ∧ (mBs T t).2 ≤ mWe (mSet T 3 t)) then mBs T t else ((t : Int), mWe (mSet T 3 t))
noncomputable def aBestStart (T : Int → Int) (n w : Int) : Int := if T 5 = 0 then -5 else if 0 ≤ n ∧ n ≤ 60 then (if 0 ≤ w ∧ w ≤ 1 then (if (mBs T (n + 1).toNat).1 = -1 then -1 else if w = 0 then (mBs T (n + 1).toNat).1 else (mBs T (n + 1).toNat).2) else -2) else -3
theorem mWe_b {T : Int → Int} (hT : mT T) : 0 ≤ mWe T ∧ mWe T ≤ 200000000 := by
  have h4 := hT.2.2.2.2.1
  have := mWs_b hT (n := mLast T) mLast_p.1 (T 4).toNat (by omega)
  unfold mWe
  omega
theorem mBs_b {T : Int → Int} (hT : mT T) : ∀ t : Nat, t ≤ 900 → -1 ≤ (mBs T t).1 ∧ (mBs T t).1 < t ∧ 0 ≤ (mBs T t).2 ∧ (mBs T t).2 ≤ 200000000
  | 0, _ => by unfold mBs; dsimp only; omega
  | t + 1, h => by
    have a := mBs_b hT t (by omega)
    have b := mWe_b (mT_set (i := 3) (v := t) hT (by omega))
    unfold mBs
    split
    · omega
    · dsimp only; omega
theorem p195a {T : Int → Int} {Q : Int → XF → Prop} (hP : xPT F) (hT : mT T) (e : F 132 = T) (r : mRow F 132 = mRun T (mLast T)) (q : Q (mWe T) F) : xMI X d 195 [.ref 131, vi 132] F Q := by
  subst e
  refine p195 hP hT (by omega) ?_
  rw [r]
  exact q
theorem l210 {n w : Int} {Q : Int → XF → Prop} (hd : 9 < d) (F0 : XF) (hT : mT (F0 132)) (hn : 0 ≤ n ∧ n ≤ 60) (hw : 0 ≤ w ∧ w ≤ 1) (q : mQ F0 Q (if (mBs (F0 132) (n + 1).toNat).1 = -1 then -1 else if w = 0 then (mBs (F0 132) (n + 1).toNat).1 else (mBs (F0 132) (n + 1).toNat).2)) : ∀ (f t : Nat) (F : XF), xPT F → (t : Int) + f = n + 1 → mAd F0 F → (∀ i, ¬ i = 3 → F 132 i = F0 132 i) → xW X d 210 55 [.ref 131, vi n, vi w, vi (mBs (F0 132) t).1, vi (mBs (F0 132) t).2, vi t] [] F (xqi Q) := by
  intro f
  induction f with
  | zero =>
    intro t F hP ht hA hF
    have b := mBs_b hT t (by omega)
    rw [show (n + 1).toNat = t by omega] at q
    refine s210_55 hP ⟨⟨by omega, by omega⟩, ⟨by omega, by omega⟩, fun _ => ⟨9, hd, p207 (by omega) F0 hP hT hA fun G hG kb e s => ⟨⟨by omega, by omega⟩, fun c => ⟨⟨by omega, by omega⟩, fun c2 _ => ?_, fun c2 _ => ?_⟩, fun c _ => ?_⟩⟩, fun c => absurd (by omega) c⟩
    · rw [if_neg c, if_neg c2] at q; exact q G hG kb e s
    · rw [if_neg c, if_pos (by omega)] at q; exact q G hG kb e s
    · rw [if_pos (by omega)] at q; exact q G hG kb e s
  | succ f ih =>
    intro t F hP ht hA hF
    have b := mBs_b hT t (by omega)
    have hT2 : mT (mSet (F0 132) 3 t) := mT_set hT (by omega)
    have wb := mWe_b hT2
    have eb := mEnd_b (T := mSet (F0 132) 3 t)
    have e0 : xup F 132 3 t 132 = mSet (F0 132) 3 t := funext fun i => by
      unfold mSet
      by_cases hi : i = 3
      · rw [if_pos hi, hi, xup_s]
      · rw [if_neg hi, xup_i hi, hF i hi]
    refine s210_55 hP ⟨⟨by omega, by omega⟩, ⟨by omega, by omega⟩, fun c => absurd c (by omega), fun _ => ⟨9, hd, p198a F0 (xPT_arr hP (by decide)) (by omega) hT2 (hA.up (by omega)) e0 fun G hG aG eG rG => ?_⟩⟩
    have hF' : ∀ i, ¬ i = 3 → G 132 i = F0 132 i := fun i h => by rw [eG, mSet_n h]
    have go : xW X d 210 55 [.ref 131, vi n, vi w, vi (mBs (F0 132) (t + 1)).1, vi (mBs (F0 132) (t + 1)).2, vi ((t : Int) + 1)] [] G (xqi Q) := ih (t + 1) G hG (by omega) aG hF'
    rw [mBs] at go
    have take : ¬ (mEnd (mSet (F0 132) 3 t) = -1 ∨ (¬ (mBs (F0 132) t).1 = -1 ∧ (mBs (F0 132) t).2 ≤ mWe (mSet (F0 132) 3 t))) → xW X d 210 97 [.ref 131, vi n, vi w, vi (mBs (F0 132) t).1, vi (mBs (F0 132) t).2, vi t] [] G (xqi Q) := fun h => by
      rw [if_neg h] at go
      exact s210_97 hG ⟨9, hd, p195a hG hT2 eG rG fun _ => go⟩
    refine ⟨⟨by omega, by omega⟩, fun c _ => ?_, fun c => ⟨⟨by omega, by omega⟩, fun c1 _ => take (by omega), fun c1 => ⟨9, hd, p195a hG hT2 eG rG ⟨⟨by omega, by omega⟩, ⟨by omega, by omega⟩, fun c2 _ => take (by omega), fun c2 _ => ?_⟩⟩⟩⟩
    · rw [if_pos (Or.inl c)] at go; exact go
    · rw [if_pos (Or.inr ⟨c1, by omega⟩)] at go; exact go
theorem p210 {n w : Int} {Q : Int → XF → Prop} (hP : xPT F) (hd : 10 < d) (hT : mT (F 132)) (hS : mSA (F 132 5).toNat F) (hn : inR n) (hw : inR w) (q : mQ F Q (aBestStart (F 132) n w)) : xMI X d 210 [.ref 131, vi n, vi w] F Q := by
  have h5 := hT.2.2.2.2.2.1
  unfold aBestStart at q
  refine m210 hP ⟨9, by omega, p154 (h0P hP) ?_⟩
  rw [h0t]
  refine ⟨⟨by omega, by omega⟩, fun c => ?_, fun c hG => by rw [if_pos (by omega)] at q; exact q.z hS hG⟩
  rw [if_neg c] at q
  refine ⟨hn, 9, by omega, p132 (h0P hP) ⟨⟨by omega, by omega⟩, ⟨by omega, by omega⟩, ⟨by omega, by omega⟩⟩ fun y hy => ⟨hy.r, fun c1 => ?_, fun c1 hG => by rw [if_neg (hy.f (by omega))] at q; exact q.z hS hG⟩⟩
  have g := hy.t c1
  rw [if_pos g] at q
  refine ⟨hw, 9, by omega, p132 (h0P hP) ⟨⟨by omega, by omega⟩, ⟨by omega, by omega⟩, ⟨by omega, by omega⟩⟩ fun y2 hy2 => ⟨hy2.r, fun c2 => ?_, fun c2 hG => by rw [if_neg (hy2.f (by omega))] at q; exact q.z hS hG⟩⟩
  have g2 := hy2.t c2
  rw [if_pos g2] at q
  exact ⟨9, by omega, p206 F (h0P hP) (mKb.refl.up (by omega)) h0t fun G hG aG eG _ => l210 (by omega) F hT g g2 q (n + 1).toNat 0 G hG (by omega) aG (fun i _ => by rw [eG])⟩
/-! smooth -/
def mAny (T R : Int → Int) : Prop := ∃ c, 0 ≤ c ∧ c < T 5 ∧ R (30 + c) = 5
theorem l211 {n : Nat} {Q : Int → XF → Prop} (hP : xPT F) (hd : 0 < d) (hT : mT (F 132)) (hn : n ≤ 2000) (hr : mRow F 132 = mRun (F 132) n) (q : ∀ y, mB y (mAny (F 132) (mRun (F 132) n)) → Q y F) : ∀ (f k : Nat), (k : Int) + f = F 132 5 → (∀ c : Int, 0 ≤ c → c < k → ¬ mRun (F 132) n (30 + c) = 5) → xW X d 211 2 [.ref 131, vi k] [] F (xqi Q) := by
  have h5 := hT.2.2.2.2.2.1
  intro f
  induction f with
  | zero =>
    intro k hk hh
    refine s211_2 hP ⟨0, hd, p154 hP ⟨⟨by omega, by omega⟩, ⟨by omega, by omega⟩, fun _ _ => q 0 (mB.i0 ?_), fun c => absurd (by omega) c⟩⟩
    rintro ⟨c, a, b, e⟩
    exact hh c a (by omega) e
  | succ f ih =>
    intro k hk hh
    have w := mRun_w hT n (by omega) k (by omega) (by omega)
    have e : F 140 (162 + (k : Int)) = mRun (F 132) n (30 + k) := by rw [← hr, mRow_at (by omega)]; congr 1; omega
    refine s211_2 hP ⟨0, hd, p154 hP ⟨⟨by omega, by omega⟩, ⟨by omega, by omega⟩, fun c => absurd c (by omega), fun _ => ⟨⟨by omega, by omega⟩, by rw [e]; constructor <;> omega, fun c _ => ih (k + 1) (by omega) fun x a b => ?_, fun c _ => q 1 (mB.i1 ⟨k, by omega, by omega, by omega⟩)⟩⟩⟩
    by_cases hq : x = k
    · rw [hq]; omega
    · exact hh x a (by omega)
theorem p211 {n : Nat} {Q : Int → XF → Prop} (hP : xPT F) (hd : 0 < d) (hT : mT (F 132)) (hn : n ≤ 2000) (hr : mRow F 132 = mRun (F 132) n) (q : ∀ y, mB y (mAny (F 132) (mRun (F 132) n)) → Q y F) : xMI X d 211 [.ref 131] F Q := by
  have h5 := hT.2.2.2.2.2.1
  exact m211 hP fun _ => l211 hP hd hT hn hr q (F 132 5).toNat 0 (by omega) (fun c a b => by omega)
/-- no car is ever held at a crossing, and there is the end -/
def mSm (T : Int → Int) : Prop := (∀ n : Nat, 1 ≤ n → n ≤ mLast T → ¬ mAny T (mRun T n)) ∧ ¬ mEnd T = -1
noncomputable def mSmF (T : Int → Int) : Nat → Int → Int
  | 0, _ => -1
  | f + 1, t => if mV (mSm (mSet T 3 t)) = 1 then t else mSmF T f (t + 1)
noncomputable def aSmooth (T : Int → Int) (n : Int) : Int := if T 5 = 0 then -5 else if 0 ≤ n ∧ n ≤ 60 then mSmF T (n + 1).toNat 0 else -3
/-- one start, tried -/
theorem l212i {n t : Int} {T : Int → Int} {Q : Int → XF → Prop} (hd : 9 < d) (F0 : XF) (hT : mT T) (q1 : mSm T → ∀ G u, xPT G → mAd F0 G → G 132 = T → xW X d 212 38 [.ref 131, vi n, vi t, vi (t + 1), vi u] [] G (xqi Q)) (q0 : ¬ mSm T → ∀ G u, xPT G → mAd F0 G → G 132 = T → xW X d 212 38 [.ref 131, vi n, vi (-1), vi (t + 1), vi u] [] G (xqi Q)) : ∀ (f m : Nat) (F : XF), xPT F → m + f = 2000 → mAd F0 F → F 132 = T → mSA (T 5).toNat F → mRow F 132 = mRun T m → (∀ j, j < m → ¬ mRun T j 131 = T 5) → (∀ j, 1 ≤ j → j ≤ m → ¬ mAny T (mRun T j)) → xW X d 212 65 [.ref 131, vi n, vi (-1), vi t, vi 1] [] F (xqi Q) := by
  have stop : ∀ (m : Nat) (F : XF), xPT F → m ≤ 2000 → mAd F0 F → F 132 = T → mRow F 132 = mRun T m → (∀ j, j < m → ¬ mRun T j 131 = T 5) → (∀ j, 1 ≤ j → j ≤ m → ¬ mAny T (mRun T j)) → (mRun T m 131 = T 5 ∨ m = 2000) → xW X d 212 94 [.ref 131, vi n, vi (-1), vi t, vi 1] [] F (xqi Q) := by
    intro m F hP hm hA e hr hno hny hh
    have eu := mLast_u (T := T) hm hno hh.symm
    have eb := mEnd_b (T := T)
    refine s212_94 hP ⟨⟨by omega, by omega⟩, fun c => absurd c (by decide), fun _ => ⟨9, hd, p197 (n := m) hP (by omega) (by rw [e]; exact hT) hm (by rw [e]; exact hr) ?_⟩⟩
    rw [e]
    have ee : (if mRun T m 131 = T 5 then (m : Int) else -1) = mEnd T := by unfold mEnd; rw [eu]
    rw [ee]
    refine ⟨⟨by omega, by omega⟩, fun c _ => q0 (fun h => h.2 c) F _ hP hA e, fun c _ => q1 ⟨fun j a b => hny j a (by omega), c⟩ F _ hP hA e⟩
  intro f
  induction f with
  | zero =>
    intro m F hP hf hA e hS hr hno hny
    refine s212_65 hP ⟨⟨by omega, by omega⟩, fun c => absurd c (by decide), fun _ => ⟨9, hd, p196 (n := m) hP (by omega) (by rw [e]; exact hT) (by rw [e]; exact hS) (by omega) (by rw [e]; exact hr) (fun h => ⟨⟨by omega, by omega⟩, fun _ _ => stop m F hP (by omega) hA e hr hno hny (Or.inr (by omega)), fun c => absurd rfl c⟩) (fun _ h => absurd h (by omega))⟩⟩
  | succ f ih =>
    intro m F hP hf hA e hS hr hno hny
    refine s212_65 hP ⟨⟨by omega, by omega⟩, fun c => absurd c (by decide), fun _ => ⟨9, hd, p196 (n := m) hP (by omega) (by rw [e]; exact hT) (by rw [e]; exact hS) (by omega) (by rw [e]; exact hr) (fun h => ⟨⟨by omega, by omega⟩, fun _ _ => stop m F hP (by omega) hA e hr hno hny (by rw [e] at h; exact h), fun c => absurd rfl c⟩) (fun h1 _ G hG k1 s1 r1 => ⟨⟨by omega, by omega⟩, fun c => absurd c (by decide), fun _ => ?_⟩)⟩⟩
    rw [e] at h1 s1 r1
    have eG : G 132 = T := k1.t.trans e
    have hno' : ∀ j, j < m + 1 → ¬ mRun T j 131 = T 5 := fun j hj => by
      by_cases hq : j = m
      · rw [hq]; exact h1
      · exact hno j (by omega)
    refine ⟨9, hd, p211 (n := m + 1) hG (by omega) (by rw [eG]; exact hT) (by omega) (by rw [eG]; exact r1) fun y hy => ?_⟩
    rw [eG] at hy
    refine ⟨hy.r, fun c _ => ?_, fun c _ => ?_⟩
    · refine s212_65 hG ⟨⟨by omega, by omega⟩, fun _ _ => ?_, fun c => absurd rfl c⟩
      refine s212_94 hG ⟨⟨by omega, by omega⟩, fun _ _ => q0 (fun h => ?_) G 0 hG (hA.p k1.p) eG, fun c => absurd rfl c⟩
      have hl : m + 1 ≤ mLast T := by
        rcases Nat.lt_or_ge (mLast T) (m + 1) with hq | hq
        · rcases (mLast_p (T := T)).2.2 with h2 | h2
          · omega
          · exact absurd h2 (hno' _ hq)
        · exact hq
      exact h.1 (m + 1) (by omega) hl (hy.t c)
    · refine ih (m + 1) G hG (by omega) (hA.p k1.p) eG s1 r1 hno' fun j a b => ?_
      by_cases hq : j = m + 1
      · rw [hq]; exact hy.f (by omega)
      · exact hny j a (by omega)
theorem l212 {n : Int} {Q : Int → XF → Prop} (hd : 9 < d) (F0 : XF) (hT : mT (F0 132)) (hn : 0 ≤ n ∧ n ≤ 60) (a : Int) (q : mQ F0 Q a) : ∀ (f : Nat) (t : Int) (F : XF) (v : Value), xPT F → 0 ≤ t → t + f = n + 1 → mAd F0 F → (∀ i, ¬ i = 3 → F 132 i = F0 132 i) → mSmF (F0 132) f t = a → xW X d 212 38 [.ref 131, vi n, vi (-1), vi t, v] [] F (xqi Q) := by
  intro f
  induction f with
  | zero =>
    intro t F v hP h0 ht hA hF ha
    unfold mSmF at ha
    subst ha
    exact s212_38 hP ⟨⟨by omega, by omega⟩, ⟨by omega, by omega⟩, fun _ => ⟨9, hd, p207 (by omega) F0 hP hT hA fun G hG kb e s _ => q G hG kb e s⟩, fun c => absurd (by omega) c⟩
  | succ f ih =>
    intro t F v hP h0 ht hA hF ha
    have hT2 : mT (mSet (F0 132) 3 t) := mT_set hT (by omega)
    have e0 : xup F 132 3 t 132 = mSet (F0 132) 3 t := funext fun i => by
      unfold mSet
      by_cases hi : i = 3
      · rw [if_pos hi, hi, xup_s]
      · rw [if_neg hi, xup_i hi, hF i hi]
    refine s212_38 hP ⟨⟨by omega, by omega⟩, ⟨by omega, by omega⟩, fun c => absurd c (by omega), fun _ => ⟨⟨by omega, by omega⟩, fun c => absurd rfl c, fun _ => ⟨9, hd, p170 (xPT_arr hP (by decide)) (by omega) (by rw [e0]; exact hT2) (by omega) fun G hG k1 s1 r1 _ _ => ?_⟩⟩⟩
    rw [e0] at s1
    have eG : G 132 = mSet (F0 132) 3 t := k1.t.trans e0
    refine l212i (T := mSet (F0 132) 3 t) hd F0 hT2 (fun hs H u hH aH eH => ?_) (fun hs H u hH aH eH => ?_) 2000 0 G hG (by omega) ((hA.up (by omega)).p k1) eG s1 ?_ (fun j h => absurd h (by omega)) (fun j a b => by omega)
    · unfold mSmF at ha
      rw [if_pos (mV_t hs)] at ha
      subst ha
      by_cases hl : n < t + 1
      · exact s212_38 hH ⟨⟨by omega, by omega⟩, ⟨by omega, by omega⟩, fun _ => ⟨9, hd, p207 (by omega) F0 hH hT aH fun G hG kb e s _ => q G hG kb e s⟩, fun c => absurd hl c⟩
      · exact s212_38 hH ⟨⟨by omega, by omega⟩, ⟨by omega, by omega⟩, fun c => absurd c hl, fun _ => ⟨⟨by omega, by omega⟩, fun _ => ⟨9, hd, p207 (by omega) F0 hH hT aH fun G hG kb e s _ => q G hG kb e s⟩, fun c => absurd (by omega) c⟩⟩
    · unfold mSmF at ha
      rw [if_neg (by rw [mV_f hs]; omega)] at ha
      exact ih (t + 1) H _ hH (by omega) (by omega) aH (fun i h => by rw [eH, mSet_n h]) ha
    · have := mBeg_row (F := xup F 132 3 t) (by rw [e0]; exact hT2) r1
      rw [e0] at this
      exact this
theorem p212 {n : Int} {Q : Int → XF → Prop} (hP : xPT F) (hd : 10 < d) (hT : mT (F 132)) (hS : mSA (F 132 5).toNat F) (hn : inR n) (q : mQ F Q (aSmooth (F 132) n)) : xMI X d 212 [.ref 131, vi n] F Q := by
  have h5 := hT.2.2.2.2.2.1
  unfold aSmooth at q
  refine m212 hP ⟨9, by omega, p154 (h0P hP) ?_⟩
  rw [h0t]
  refine ⟨⟨by omega, by omega⟩, fun c => ?_, fun c hG => by rw [if_pos (by omega)] at q; exact q.z hS hG⟩
  rw [if_neg c] at q
  refine ⟨hn, 9, by omega, p132 (h0P hP) ⟨⟨by omega, by omega⟩, ⟨by omega, by omega⟩, ⟨by omega, by omega⟩⟩ fun y hy => ⟨hy.r, fun c1 => ?_, fun c1 hG => by rw [if_neg (hy.f (by omega))] at q; exact q.z hS hG⟩⟩
  have g := hy.t c1
  rw [if_pos g] at q
  exact ⟨9, by omega, p206 F (h0P hP) (mKb.refl.up (by omega)) h0t fun G hG aG eG _ => l212 (by omega) F hT g _ q (n + 1).toNat 0 G _ hG (by omega) (by omega) aG (fun i _ => by rw [eG]) rfl⟩
/-! slowest, harm -/
noncomputable def mSl (T : Int → Int) (n : Int) : Nat → Int → Int
  | 0, _ => -1
  | f + 1, v => if ¬ mEnd (mSet T 1 v) = -1 ∧ mEnd (mSet T 1 v) ≤ n then v else mSl T n f (v + 1)
noncomputable def aSlowest (T : Int → Int) (n : Int) : Int := if T 5 = 0 then -5 else if 0 ≤ n ∧ n ≤ 2000 then mSl T n 50 1 else -3
theorem l214 {n : Int} {Q : Int → XF → Prop} (hd : 9 < d) (F0 : XF) (hT : mT (F0 132)) (hn : 0 ≤ n ∧ n ≤ 2000) (a : Int) (q : mQ F0 Q a) : ∀ (f : Nat) (t : Int) (F : XF) (v : Value), xPT F → 1 ≤ t → t + f = 51 → mAd F0 F → (∀ i, ¬ i = 1 → F 132 i = F0 132 i) → mSl (F0 132) n f t = a → xW X d 214 38 [.ref 131, vi n, vi (-1), vi t, v] [] F (xqi Q) := by
  intro f
  induction f with
  | zero =>
    intro t F v hP h0 ht hA hF ha
    unfold mSl at ha
    subst ha
    exact s214_38 hP ⟨⟨by omega, by omega⟩, fun _ => ⟨9, hd, p207 (by omega) F0 hP hT hA fun G hG kb e s _ => q G hG kb e s⟩, fun c => absurd (by omega) c⟩
  | succ f ih =>
    intro t F v hP h0 ht hA hF ha
    have hT2 : mT (mSet (F0 132) 1 t) := mT_set hT (by omega)
    have e0 : xup F 132 1 t 132 = mSet (F0 132) 1 t := funext fun i => by
      unfold mSet
      by_cases hi : i = 1
      · rw [if_pos hi, hi, xup_s]
      · rw [if_neg hi, xup_i hi, hF i hi]
    have eb := mEnd_b (T := mSet (F0 132) 1 t)
    refine s214_38 hP ⟨⟨by omega, by omega⟩, fun c => absurd c (by omega), fun _ => ⟨⟨by omega, by omega⟩, fun c => absurd rfl c, fun _ => ⟨9, hd, p198a F0 (xPT_arr hP (by decide)) (by omega) hT2 (hA.up (by omega)) e0 fun G hG aG eG _ => ?_⟩⟩⟩
    have no : ¬ (¬ mEnd (mSet (F0 132) 1 t) = -1 ∧ mEnd (mSet (F0 132) 1 t) ≤ n) → ∀ u, xW X d 214 38 [.ref 131, vi n, vi (-1), vi (t + 1), u] [] G (xqi Q) := fun h u => by
      unfold mSl at ha
      rw [if_neg h] at ha
      exact ih (t + 1) G u hG (by omega) (by omega) aG (fun i h => by rw [eG, mSet_n h]) ha
    refine ⟨⟨by omega, by omega⟩, fun c _ => no (fun h => h.1 c) _, fun c => ⟨⟨by omega, by omega⟩, ⟨by omega, by omega⟩, fun c2 _ => no (fun h => by omega) _, fun c2 _ => ?_⟩⟩
    unfold mSl at ha
    rw [if_pos ⟨c, by omega⟩] at ha
    subst ha
    by_cases hl : 50 < t + 1
    · exact s214_38 hG ⟨⟨by omega, by omega⟩, fun _ => ⟨9, hd, p207 (by omega) F0 hG hT aG fun G hG kb e s _ => q G hG kb e s⟩, fun c => absurd hl c⟩
    · exact s214_38 hG ⟨⟨by omega, by omega⟩, fun c => absurd c hl, fun _ => ⟨⟨by omega, by omega⟩, fun _ => ⟨9, hd, p207 (by omega) F0 hG hT aG fun G hG kb e s _ => q G hG kb e s⟩, fun c => absurd (by omega) c⟩⟩
theorem p214 {n : Int} {Q : Int → XF → Prop} (hP : xPT F) (hd : 10 < d) (hT : mT (F 132)) (hS : mSA (F 132 5).toNat F) (hn : inR n) (q : mQ F Q (aSlowest (F 132) n)) : xMI X d 214 [.ref 131, vi n] F Q := by
  have h5 := hT.2.2.2.2.2.1
  unfold aSlowest at q
  refine m214 hP ⟨9, by omega, p154 (h0P hP) ?_⟩
  rw [h0t]
  refine ⟨⟨by omega, by omega⟩, fun c => ?_, fun c hG => by rw [if_pos (by omega)] at q; exact q.z hS hG⟩
  rw [if_neg c] at q
  refine ⟨hn, 9, by omega, p132 (h0P hP) ⟨⟨by omega, by omega⟩, ⟨by omega, by omega⟩, ⟨by omega, by omega⟩⟩ fun y hy => ⟨hy.r, fun c1 => ?_, fun c1 hG => by rw [if_neg (hy.f (by omega))] at q; exact q.z hS hG⟩⟩
  have g := hy.t c1
  rw [if_pos g] at q
  exact ⟨9, by omega, p206 F (h0P hP) (mKb.refl.up (by omega)) h0t fun G hG aG eG _ => l214 (by omega) F hT g _ q 50 1 G _ hG (by omega) (by omega) aG (fun i _ => by rw [eG]) rfl⟩
noncomputable def aHarm (T : Int → Int) (c t m : Int) : Int := if 0 ≤ c ∧ c < T 5 then (if (0 ≤ t ∧ t ≤ 1999) ∧ (1 ≤ m ∧ m ≤ 500) then (if mEnd T = -1 ∨ mEnd (mBrT T c t m) = -1 then -1 else mEnd (mBrT T c t m) - mEnd T + 100000) else -3) else -2
theorem p218 {c t m : Int} {Q : Int → XF → Prop} (hP : xPT F) (hd : 10 < d) (hT : mT (F 132)) (h6 : F 132 7 ≤ 6) (hS : mSA (F 132 5).toNat F) (ic : inR c) (it : inR t) (im : inR m) (q : mQ F Q (aHarm (F 132) c t m)) : xMI X d 218 [.ref 131, vi c, vi t, vi m] F Q := by
  have h5 := hT.2.2.2.2.2.1
  have h7 := hT.2.2.2.2.2.2.2.1
  have eb := mEnd_b (T := F 132)
  have eb2 := mEnd_b (T := mBrT (F 132) c t m)
  unfold aHarm at q
  refine m218 hP ⟨9, by omega, p155 (h0P hP) (by omega) ic (by rw [h0t]; exact h5) fun y hy => ?_⟩
  rw [h0t] at hy
  refine ⟨hy.r, fun c1 => ?_, fun c1 hG => by rw [if_neg (hy.f (by omega))] at q; exact q.z hS hG⟩
  have g := hy.t c1
  rw [if_pos g] at q
  refine ⟨9, by omega, p159 (h0P hP) (by omega) it im fun y2 hy2 => ⟨hy2.r, fun c2 => ?_, fun c2 hG => by rw [if_neg (hy2.f (by omega))] at q; exact q.z hS hG⟩⟩
  have g2 := hy2.t c2
  rw [if_pos g2] at q
  refine ⟨9, by omega, p198 (h0P hP) (by omega) (by rw [h0t]; exact hT) fun G1 hG1 k1 s1 r1 => ⟨9, by omega, p206 F hG1 ((mKb.refl.up (by omega)).trans k1.b) (k1.t.trans h0t) fun G2 hG2 a2 e2 => ⟨9, by omega, p158 hG2 (by rw [e2]; omega) fun G3 hG3 k3 e3 => ⟨9, by omega, ?_⟩⟩⟩⟩
  rw [e2] at e3
  have a3 : mAd F G3 := by
    refine ⟨a2.1.trans ⟨fun p i h => k3 p i (by omega), fun i _ _ _ _ _ => k3 131 i (by decide), fun i _ _ => k3 140 i (by decide)⟩, fun i a b => by rw [k3 142 i (by decide)]; exact a2.2.1 i a b, fun i a => ?_⟩
    rw [e3, mBrT_o h7.1 (by omega) (by omega)]
  refine p198a F hG3 (by omega) (mT_brt hT h6 g g2.1 g2.2) a3 e3 fun G4 hG4 a4 e4 _ => ⟨9, by omega, p207 (by omega) F hG4 hT a4 fun G5 hG5 kb e5 s5 => ?_⟩
  rw [h0t]
  refine ⟨⟨by omega, by omega⟩, fun c _ => ?_, fun c => ⟨⟨by omega, by omega⟩, fun c2 _ => ?_, fun c2 _ => ?_⟩⟩
  · rw [if_pos (Or.inl c)] at q; exact q G5 hG5 kb e5 s5
  · rw [if_neg (by omega)] at q; exact q G5 hG5 kb e5 s5
  · rw [if_pos (by omega)] at q; exact q G5 hG5 kb e5 s5
end REF20
