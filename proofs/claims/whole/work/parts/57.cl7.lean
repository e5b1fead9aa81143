section CL7
variable {X : List Int32} {d : Nat} {F : XF}
theorem mC_0 {T : Int → Int} {e t f : Int} {a : Int × Int} : ∀ (n : Nat) (x : Int), (∀ y, x ≤ y → y < x + n → ¬ (f ≤ T (8 + 7 * y) ∧ T (8 + 7 * y) - f < a.1)) → mC T e t f n x a = a
  | 0, _, _ => rfl
  | n + 1, x, h => by
    unfold mC
    rw [if_neg (fun z => h x (by omega) (by omega) ⟨z.1, z.2.1⟩)]
    exact mC_0 n (x + 1) fun y p q => h y (by omega) (by omega)
theorem mC_a {T : Int → Int} {e t f : Int} : ∀ (m n : Nat) (x : Int) (a : Int × Int), mC T e t f (m + n) x a = mC T e t f n (x + m) (mC T e t f m x a)
  | 0, n, x, a => by
    rw [show 0 + n = n by omega, show x + ((0 : Nat) : Int) = x by omega]
    rfl
  | m + 1, n, x, a => by
    rw [show m + 1 + n = (m + n) + 1 by omega]
    have := mC_a (T := T) (e := e) (t := t) (f := f) m n (x + 1) (if f ≤ T (8 + 7 * x) ∧ T (8 + 7 * x) - f < a.1 ∧ mV (mMay T e x t) = 0 then (T (8 + 7 * x) - f, 5) else a)
    rw [show x + 1 + (m : Int) = x + ((m + 1 : Nat) : Int) by omega] at this
    exact this
theorem mNeed_1 {T : Int → Int} {e x : Int} (h1 : 1 ≤ T 1) (h : 1 ≤ T (8 + 7 * x + 1) + e) : 1 ≤ mNeed T e x := by
  unfold mNeed
  have := Int.ediv_le_ediv (show 0 < T 1 by omega) (show T 1 ≤ T (8 + 7 * x + 1) + e + T 1 - 1 by omega)
  rw [Int.ediv_self (by omega)] at this
  exact this
theorem mLet_m {T : Int → Int} {e x t : Int} (h : 1 ≤ mNeed T e x) : mLet T x t (mNeed T e x) ↔ mMay T e x t := by
  unfold mLet mMay mOpn
  constructor
  · rintro (a | a)
    · exact Or.inl a
    · exact Or.inr ⟨⟨a.1, by omega⟩, a.2⟩
  · rintro (a | a)
    · exact Or.inl a
    · exact Or.inr ⟨a.1.1, a.2⟩
section MV
variable {T R : Int → Int} {r t : Nat}
theorem l61 {Q : Int → XF → Prop} (hP : xPT F) (hd : 0 < d) (hr : xob 6 r) (ht : xob 9 t) (hT : mT T) (hw : cTw F t T) (h : cCo F r t T R) (hJ : mJ T R) (q : ∀ y, mB y (mClo T R) → Q y F) : ∀ (n : Nat) (c : Int), 1 ≤ c → c + n = max (T 5) 1 → (∀ k, 1 ≤ k → k < c → R k = R (k - 1) - T (78 + (k - 1)) - T 2) → xW X d 61 21 [.ref r, vi c] [] F (xqi Q) := by
  have hT' := hT
  obtain ⟨h0, _, h2, _, _, h5, _, _, _, _, hl, _⟩ := hT'
  have e6 := hw.1.2.2.2.2.2.1
  intro n
  induction n with
  | zero =>
    intro c h1 hc hk
    exact s61_21 hP hr ⟨t, h.1, ht, ⟨by omega, by omega⟩, by rw [e6]; constructor <;> omega, fun _ _ => q 1 (mB.i1 fun k a b => hk k a (by omega)), fun z => absurd (by omega) z⟩
  | succ n ih =>
    intro c h1 hc hk
    have a1 := hJ.fr hT c (by omega) (by omega)
    have a2 := hJ.fr hT (c - 1) (by omega) (by omega)
    have a3 := hl (c - 1) (by omega) (by omega)
    refine s61_21 hP hr ⟨t, h.1, ht, ⟨by omega, by omega⟩, by rw [e6]; constructor <;> omega, fun z => absurd z (by omega), fun _ => ⟨by omega, 0, hd, k49 hP hr ht hT hw h (by omega) ⟨t, h.1, ht, ?_⟩⟩⟩
    rw [h.2.2.2.1 c (by omega) (by omega), hw.1.2.2.1]
    refine ⟨⟨by omega, by omega⟩, ⟨by omega, by omega⟩, fun z _ => ih (c + 1) (by omega) (by omega) fun k a b => ?_, fun z _ => q 0 (mB.i0 fun w => z (w c h1 (by omega)))⟩
    by_cases hq : k = c
    · rw [hq]; exact z
    · exact hk k a (by omega)
/-- whether the cars stand in their gaps: true, too, where it makes no difference -/
theorem k61 {Q : Int → XF → Prop} (hP : xPT F) (hd : 0 < d) (hr : xob 6 r) (ht : xob 9 t) (hT : mT T) (hw : cTw F t T) (h : cCo F r t T R) (hJ : mJ T R) (q : ∀ y, (y = 0 ∨ y = 1) → (T 6 = 0 ∨ 0 < R 131 ∨ mB y (mClo T R)) → Q y F) : xMI X d 61 [.ref r] F Q := by
  have hT' := hT
  obtain ⟨h0, _, h2, _, _, h5, h6, _⟩ := hT'
  refine m61 hP hr ⟨t, h.1, ht, ?_⟩
  rw [hw.1.2.2.2.2.2.2.1, h.2.2.2.2.1]
  have j3 := hJ.2.2.1
  exact ⟨⟨by omega, by omega⟩, fun z _ => q 1 (Or.inr rfl) (Or.inl z), fun z => ⟨⟨by omega, by omega⟩, fun z1 _ => l61 hP hd hr ht hT hw h hJ (fun y hy => q y (by rw [hy.v]; exact mV_01) (Or.inr (Or.inr hy))) (max (T 5) 1 - 1).toNat 1 (by omega) (by omega) (fun k a b => by omega), fun z1 _ => q 1 (Or.inr rfl) (Or.inr (Or.inl (by omega)))⟩⟩
theorem mGo2_cl {S : Nat → Int → Int} {f t cl cl' c : Int} (h : ¬ c = 0 ∨ (cl = 0 ↔ cl' = 0) ∨ T 6 = 0) : mGo2 T S f t cl c = mGo2 T S f t cl' c := by
  have : (if c = 0 ∧ cl = 0 then mG T f (T 6).toNat 0 (T 1, 3) else (T 1, 3)) = (if c = 0 ∧ cl' = 0 then mG T f (T 6).toNat 0 (T 1, 3) else (T 1, 3)) := by
    rcases h with h | h | h
    · rw [if_neg (fun z => h z.1), if_neg (fun z => h z.1)]
    · by_cases z : cl = 0
      · by_cases y : c = 0
        · rw [if_pos ⟨y, z⟩, if_pos ⟨y, h.mp z⟩]
        · rw [if_neg (fun w => y w.1), if_neg (fun w => y w.1)]
      · rw [if_neg (fun w => z w.2), if_neg (fun w => z (h.mpr w.2))]
    · rw [h]
      show (if c = 0 ∧ cl = 0 then (T 1, 3) else (T 1, 3)) = (if c = 0 ∧ cl' = 0 then (T 1, 3) else (T 1, 3))
      split <;> split <;> rfl
  unfold mGo2
  rw [this]
theorem mGo_cl {S : Nat → Int → Int} {t cl cl' c : Int} (h : ¬ c = 0 ∨ (cl = 0 ↔ cl' = 0) ∨ T 6 = 0) : mGo T S R t cl c = mGo T S R t cl' c := by
  unfold mGo
  rw [mGo2_cl h]
section CAR
variable {Q : XF → Prop} {c tick cl : Int}
/-- crossings -/
theorem l62c (hP : xPT F) (hd : 1 < d) (hr : xob 6 r) (ht : xob 9 t) (hT : mT T) (hw : cTw F t T) (h : cCo F r t T R) (hJ : mJ T R) (hc : 0 ≤ c ∧ c < T 5) (hld : mS T 2 (mS T 1 c) = c) (h12 : F r 2 = tick) (htk : 0 ≤ tick ∧ tick ≤ 100000) (A : Int × Int) (q : ∀ w7 w8, xW X d 62 191 [.ref r, vi c, vi cl, vi (R c), vi (R c + A.1), vi A.2, vi (mS T 1 c), w7, w8] [] F (xqv Q)) : ∀ (n : Nat) (x : Int) (a : Int × Int) (w8 : Value), 0 ≤ x → x + n = T 4 → (∀ y, x ≤ y → y < T 4 → R c ≤ T (8 + 7 * y)) → mAc (T 1) 5 a → mC T (mS T 4 (mS T 1 c)) tick (R c) n x a = A → xW X d 62 115 [.ref r, vi c, vi cl, vi (R c), vi (R c + a.1), vi a.2, vi (mS T 1 c), vi x, w8] [] F (xqv Q) := by
  have hT' := hT
  obtain ⟨h0, h1, _, _, h4, h5, _, _, hX, hO, hL, _⟩ := hT'
  have e4 := hw.1.2.2.2.2.1
  have sb := mS_b hT
  have s1 := sb.2.2.1 c hc.1 hc.2
  have s2 := sb.2.2.2 (mS T 1 c) s1.1 s1.2
  have jc := hJ.fr hT c hc.1 hc.2
  intro n
  induction n with
  | zero =>
    intro x a w8 hx hn hy ha hA
    have : a = A := hA
    rw [this]
    exact s62_115 hP hr ⟨t, h.1, ht, ⟨by omega, by omega⟩, by rw [e4]; constructor <;> omega, fun _ _ => q _ _, fun z => absurd (by omega) z⟩
  | succ n ih =>
    intro x a w8 hx hn hy ha hA
    have xx := hX x hx (by omega)
    have xx' := xx
    unfold mX at xx'
    have cx := hw.2.1 x hx (by omega)
    have px := hy x (by omega) (by omega)
    have ha' := ha
    unfold mAc at ha'
    refine s62_115 hP hr ⟨t, h.1, ht, ⟨by omega, by omega⟩, by rw [e4]; constructor <;> omega, fun z => absurd z (by omega), fun _ => ⟨t, h.1, ht, ⟨by omega, by omega⟩, ?_⟩⟩
    rw [cx.1]
    refine ⟨⟨by omega, by omega⟩, ⟨by omega, by omega⟩, fun z => ⟨1, hd, k66 hP (xtg_6_1 r hr.1 hr.2) hT h.2.2.1 s1 (by omega) ⟨1, hd, ?_⟩⟩, fun z _ => ?_⟩
    · have nb := mNeed_b (T := T) (e := mS T 4 (mS T 1 c)) (x := x) h1.1 ⟨by omega, by omega⟩ (by omega)
      have n1 := mNeed_1 (T := T) (e := mS T 4 (mS T 1 c)) (x := x) h1.1 (by omega)
      rw [h12]
      refine k11 (cX_ob ht hx (by omega)) xx cx hP (by omega) htk (by omega) fun y hb => ⟨hb.r, fun z1 _ => ?_, fun z1 _ => ?_⟩
      · unfold mC at hA
        rw [if_neg (fun w => by rw [mV_t ((mLet_m n1).mp (hb.t z1))] at w; omega)] at hA
        exact ih (x + 1) a _ (by omega) (by omega) (fun y p q => hy y (by omega) q) ha hA
      · unfold mC at hA
        rw [if_pos ⟨px, by omega, mV_f (fun w => hb.f (by omega) ((mLet_m n1).mpr w))⟩] at hA
        rw [cx.1]
        have := ih (x + 1) (T (8 + 7 * x) - R c, 5) (.ref (cX t x)) (by omega) (by omega) (fun y p q => hy y (by omega) q) ⟨by dsimp only; omega, by dsimp only; omega, by dsimp only; omega, by dsimp only; omega⟩ hA
        dsimp only at this
        rw [show R c + (T (8 + 7 * x) - R c) = T (8 + 7 * x) by omega] at this
        exact this
    · have := mC_0 (T := T) (e := mS T 4 (mS T 1 c)) (t := tick) (f := R c) (a := a) (n + 1) x fun y p q w => by
        by_cases hq : y = x
        · subst hq; omega
        · have := hO x y hx (by omega) (by omega); omega
      rw [this] at hA
      rw [hA]
      exact q _ _
/-- gathers -/
theorem l62g (hP : xPT F) (hr : xob 6 r) (ht : xob 9 t) (hT : mT T) (hw : cTw F t T) (h : cCo F r t T R) (hJ : mJ T R) (hc : 0 ≤ c ∧ c < T 5) (A : Int × Int) (q : ∀ w6 w7 w8, xW X d 62 82 [.ref r, vi c, vi cl, vi (R c), vi (R c + A.1), vi A.2, w6, w7, w8] [] F (xqv Q)) : ∀ (n : Nat) (k : Int) (a : Int × Int) (w7 w8 : Value), 0 ≤ k → k + n = T 6 → mAc (T 1) 4 a → mG T (R c) n k a = A → xW X d 62 32 [.ref r, vi c, vi cl, vi (R c), vi (R c + a.1), vi a.2, vi k, w7, w8] [] F (xqv Q) := by
  have hT' := hT
  obtain ⟨h0, h1, _, _, _, h5, h6, _, _, _, _, _, hg, _⟩ := hT'
  have e9 := hw.1.2.2.2.2.2.2.1
  have jc := hJ.fr hT c hc.1 hc.2
  intro n
  induction n with
  | zero =>
    intro k a w7 w8 hk hn ha hA
    have : a = A := hA
    rw [this]
    exact s62_32 hP hr ⟨t, h.1, ht, ⟨by omega, by omega⟩, by rw [e9]; constructor <;> omega, fun _ _ => q _ _ _, fun z => absurd (by omega) z⟩
  | succ n ih =>
    intro k a w7 w8 hk hn ha hA
    have gk := hg k hk (by omega)
    have ha' := ha
    unfold mAc at ha'
    refine s62_32 hP hr ⟨t, h.1, ht, ⟨by omega, by omega⟩, by rw [e9]; constructor <;> omega, fun z => absurd z (by omega), fun _ => ⟨t, h.1, ht, by omega, ?_⟩⟩
    rw [hw.2.2.2.2.1 k hk (by omega)]
    unfold mG at hA
    refine ⟨⟨by omega, by omega⟩, ⟨by omega, by omega⟩, fun z _ => ?_, fun z => ⟨⟨by omega, by omega⟩, ⟨by omega, by omega⟩, fun z1 _ => ?_, fun z1 _ => ?_⟩⟩
    · rw [if_neg (by omega)] at hA
      exact ih (k + 1) a _ _ (by omega) (by omega) ha hA
    · rw [if_pos (by omega)] at hA
      unfold mBd at hA
      rw [if_neg (by omega)] at hA
      exact ih (k + 1) a _ _ (by omega) (by omega) ha hA
    · rw [if_pos (by omega)] at hA
      unfold mBd at hA
      rw [if_pos (by omega)] at hA
      have := ih (k + 1) (T (138 + k) - R c, 4) (vi (T (138 + k))) w8 (by omega) (by omega) ⟨by dsimp only; omega, by dsimp only; omega, by dsimp only; omega, by dsimp only; omega⟩ hA
      dsimp only at this
      rw [show R c + (T (138 + k) - R c) = T (138 + k) by omega] at this
      exact this
theorem xior_0 {v : Int} (h : v = 0 ∨ v = 1) : xior v 0 = v := by
  rcases h with h | h <;> rw [h] <;> decide
theorem xior_1 {v : Int} (h : v = 0 ∨ v = 1) : xior v 1 = 1 := by
  rcases h with h | h <;> rw [h] <;> decide
/-- what moveCar may change -/
def cKm (r : Nat) (F G : XF) : Prop := ∀ p i, ¬ ((p = r ∧ (i = 3 ∨ i = 4 ∨ i = 5)) ∨ (r + 7 ≤ p ∧ p ≤ r + 11) ∨ (r + 13 ≤ p ∧ p ≤ r + 17)) → G p i = F p i
theorem mTell_0 {S : Nat → Int → Int} {f t : Int} {E : Int → Int} (h : f - T (78 + c) < T 0) : mTell T S f c f t E = E := by
  unfold mTell
  rw [if_neg (by omega), mTl_0]
  exact fun y a b => ⟨fun z => by omega, fun z => by omega⟩
theorem k62 {E : Int → Int} (hP : xPT F) (hd : 1 < d) (hr : xob 6 r) (ht : xob 9 t) (hT : mT T) (hdis : t + 17 ≤ r ∨ r + 28 ≤ t) (hw : cTw F t T) (h : cCo F r t T R) (hJ : mJ T R) (hc : 0 ≤ c ∧ c < T 5) (h12 : F r 2 = tick) (htk : 0 ≤ tick ∧ tick ≤ 100000) (hn : R c - T (78 + c) < T 0) (hcl : inR cl) (h15 : F r 5 = 0 ∨ F r 5 = 1) (hE : cEv F r E) (hEn : mEn E) (q : ∀ G, xPT G → cKm r F G → cCo G r t T (mRw T R c (mGo T (mS T) R tick cl c)) → G (r + 8) c = (mGo T (mS T) R tick cl c).2 → (∀ i, ¬ i = c → G (r + 8) i = F (r + 8) i) → cEv G r (mTell T (mS T) (R c + (mGo T (mS T) R tick cl c).1) c (R c) tick E) → mEn (mTell T (mS T) (R c + (mGo T (mS T) R tick cl c).1) c (R c) tick E) → G r 4 = (if 0 < (mGo T (mS T) R tick cl c).1 then 1 else F r 4) → G r 5 = (if (mGo T (mS T) R tick cl c).2 = 5 then 1 else F r 5) → Q G) : xMV X d 62 [.ref r, vi c, vi cl] F Q := by
  have hT' := hT
  obtain ⟨h0, h1, h2, _, h4, h5, h6, _, hX, hO, hL, _⟩ := hT'
  have sb := mS_b hT
  have s1 := sb.2.2.1 c hc.1 hc.2
  have s2 := sb.2.2.2 (mS T 1 c) s1.1 s1.2
  have jc := hJ.fr hT c hc.1 hc.2
  have jc1 := hJ.1 c hc.1 hc.2
  have lc := hL c hc.1 hc.2
  have cr := h.cars hT
  have ck := cr.2.2 (mS T 1 c) s1.1 s1.2
  have j3 := hJ.2.2.1
  have j4 := hJ.2.2.2 c hc.1 hc.2
  obtain ⟨a, ea⟩ : ∃ a, a = mGo T (mS T) R tick cl c := ⟨_, rfl⟩
  have gc := mGo_c (S := mS T) (t := tick) (cl := cl) hT (hJ.ch hc.2)
  rw [← ea] at q gc
  obtain ⟨ga, gb⟩ := gc
  unfold mAc at ga
  -- the run behind it
  have toRw : R c < R c + a.1 → mTo R c (R c + a.1) (if T 0 ≤ R c + a.1 - T (78 + c) then c + 1 else R 131) = fun i => if i = 30 + c then R i else mRw T R c a i := fun hp => by
    funext i
    unfold mTo mRw
    by_cases e1 : i = 131
    · rw [if_pos e1, if_neg (show ¬ i = 30 + c by omega), if_pos e1]
      by_cases e2 : T 0 ≤ R c + a.1 - T (78 + c)
      · rw [if_pos e2, if_pos e2]
        have : c ≤ R 131 := by
          apply Classical.byContradiction
          intro z
          have j5 := hJ.2.2.2 (c - 1) (by omega) (by omega)
          have := gb (by omega) (by omega)
          omega
        omega
      · rw [if_neg e2, if_neg e2]; omega
    · rw [if_neg e1, if_neg e1]
      by_cases e2 : i = c
      · rw [if_pos e2, if_neg (by omega), if_pos e2]
      · rw [if_neg e2, if_neg e2]
        by_cases e3 : i = 30 + c
        · rw [if_pos e3]
        · rw [if_neg e3, if_neg e3]
  have last : ∀ (w7 w8 : Value), xW X d 62 231 [.ref r, vi c, vi cl, vi (R c), vi (R c + a.1), vi a.2, vi (mS T 1 c), w7, w8] [] F (xqv Q) := by
    intro w7 w8
    have main : ∀ (v : Int) (H : XF), v = (if a.2 = 5 then 1 else F r 5) → xPT H → (∀ p i, ¬ (p = r + 8 ∧ i = c) → ¬ (p = r ∧ i = 5) → H p i = F p i) → H (r + 8) c = a.2 → H r 5 = v → inR (R c + a.1) ∧ inR (R c) ∧ (((R c + a.1 ≤ R c) → (xPT H → Q H)) ∧ (¬ (R c + a.1 ≤ R c) → (∃ (j1 : Nat), j1 < d ∧ xMV X j1 63 [.ref r, vi c, vi (mS T 1 c), vi (R c + a.1)] (xup H r 4 1) (fun (G1 : XF) => (xPT G1 → Q G1))))) := by
      intro v H hv hPH hHo hH8 hH5
      refine ⟨⟨by omega, by omega⟩, ⟨by omega, by omega⟩, fun z hG => ?_, fun z => ⟨1, hd, ?_⟩⟩
      · have a0 : a.1 = 0 := by omega
        have e0 : R c + a.1 = R c := by omega
        rw [e0, mTell_0 hn] at q
        refine q _ hG (fun p i w => hHo p i (by omega) (by omega)) ?_ hH8 (fun i w => hHo _ _ (by omega) (by omega)) (hE.of fun p i w => hHo p i (by omega) (by omega)) hEn (by rw [if_neg (by omega), hHo _ _ (by omega) (by omega)]) (by rw [hH5]; exact hv)
        refine h.of hT (fun p i w => hHo p i (by omega) (by omega)) fun i w => ?_
        unfold mRw
        by_cases e1 : i = 131
        · rw [if_pos e1, if_neg (by omega), e1]; omega
        · rw [if_neg e1]
          by_cases e2 : i = c
          · rw [if_pos e2, e2]; omega
          · rw [if_neg e2, if_neg (by omega)]
      · have hP2 : xPT (xup H r 4 1) := xPT_fld (k := 4) hPH hr (by decide) (by decide)
        have oo : ∀ p i, ¬ (p = r + 8 ∧ i = c) → ¬ (p = r ∧ (i = 4 ∨ i = 5)) → xup H r 4 1 p i = F p i := fun p i x y => by rw [xup_n (by omega)]; exact hHo p i x (by omega)
        refine k63 (g := R c + a.1) (tick := tick) (E := E) hP2 (by omega) hr ht hT hdis (hw.of hT fun p i w => oo p i (by omega) (by omega)) (h.of hT (fun p i w => oo p i (by omega) (by omega)) (fun _ _ => rfl)) hJ hc (by rw [oo r 2 (by omega) (by omega)]; exact h12) hn (by omega) (fun x y => by have := gb x y; omega) (hE.of fun p i w => oo p i (by omega) (by omega)) hEn fun G hG kG cG eG nG _ => ?_
        rw [toRw (by omega)] at cG
        refine q G hG (fun p i w => by rw [kG p i (by omega)]; exact oo p i (by omega) (by omega)) (cG.of hT (fun _ _ _ => rfl) fun i w => by rw [if_neg (by omega)]) ?_ ?_ eG nG ?_ ?_
        · rw [kG _ _ (by omega), xup_o (by omega)]; exact hH8
        · intro i w
          rw [kG _ _ (by omega)]
          exact oo _ _ (by omega) (by omega)
        · rw [kG _ _ (by omega), xup_s, if_pos (by omega)]
        · rw [kG _ _ (by omega), xup_i (by omega), hH5]; exact hv
    refine s62_231 hP hr ⟨by omega, ⟨by omega, by omega⟩, fun z hK => ?_, fun z hK => ?_⟩
    · exact s62_250 hK hr (main (F r 5) _ (by rw [if_neg z]) hK (fun p i x y => xup_n (by omega)) xup_s (xup_o (by omega)))
    · exact s62_250 hK hr (main 1 _ (by rw [if_pos (by omega)]) hK (fun p i x y => by rw [xup_n (by omega), xup_n (by omega)]) (by rw [xup_o (by omega), xup_s]) xup_s)
  -- the car ahead
  have ahead : ∀ (b : Int × Int) (w7 w8 : Value), b = mGo2 T (mS T) (R c) tick cl c → xW X d 62 191 [.ref r, vi c, vi cl, vi (R c), vi (R c + b.1), vi b.2, vi (mS T 1 c), w7, w8] [] F (xqv Q) := by
    intro b w7 w8 hb
    have g2 := mGo2_c (S := mS T) (f := R c) (t := tick) (cl := cl) (c := c) hT
    rw [← hb] at g2
    unfold mAc at g2
    unfold mGo at ea
    rw [← hb] at ea
    refine s62_191 hP hr ?_
    rw [h.2.2.2.2.1]
    refine ⟨⟨by omega, by omega⟩, ⟨by omega, by omega⟩, fun z _ => ?_, fun z => ⟨1, hd, k49 hP hr ht hT hw h (by omega) ⟨t, h.1, ht, ?_⟩⟩⟩
    · rw [if_neg (fun w => by have := (hJ.2.2.2 (c - 1) (by omega) (by omega)).mpr (by omega); omega)] at ea
      rw [← ea]
      exact last _ _
    · have j5 := hJ.2.2.2 (c - 1) (by omega) (by omega)
      have j6 := hJ.fr hT (c - 1) (by omega) (by omega)
      have l6 := hL (c - 1) (by omega) (by omega)
      rw [if_pos ⟨by omega, by omega⟩] at ea
      unfold mBd at ea
      rw [hw.1.2.2.1]
      refine ⟨⟨by omega, by omega⟩, ⟨by omega, by omega⟩, fun z1 _ => ?_, fun z1 _ => ?_⟩
      · rw [if_neg (by omega)] at ea
        rw [← ea]
        exact last _ _
      · rw [if_pos (by omega)] at ea
        have := last (vi (R (c - 1) - T (78 + (c - 1)) - T 2)) w8
        rw [ea] at this
        dsimp only at this
        rw [show R c + (R (c - 1) - T (78 + (c - 1)) - T 2 - R c) = R (c - 1) - T (78 + (c - 1)) - T 2 by omega] at this
        exact this
  -- from 82 on
  have cross : ∀ (b : Int × Int) (w6 w7 w8 : Value), b = (if c = 0 ∧ cl = 0 then mG T (R c) (T 6).toNat 0 (T 1, 3) else (T 1, 3)) → mAc (T 1) 4 b → xW X d 62 82 [.ref r, vi c, vi cl, vi (R c), vi (R c + b.1), vi b.2, w6, w7, w8] [] F (xqv Q) := by
    intro b w6 w7 w8 hb hbc
    refine s62_82 hP hr ⟨by omega, ?_⟩
    rw [cr.2.1 c hc.1 hc.2]
    refine ⟨by omega, ?_⟩
    rw [ck.1]
    refine ⟨⟨by omega, by omega⟩, ⟨by omega, by omega⟩, fun z _ => ahead b _ _ ?_, fun z => ⟨by omega, fun _ => ?_⟩⟩
    · unfold mGo2
      rw [if_neg z, hb]
    · have ld : mS T 2 (mS T 1 c) = c := by omega
      have ke := (h.2.2.2.2.2.1 (mS T 1 c) s1.1 s1.2).1
      rw [ld] at ke
      obtain ⟨x, ex⟩ : ∃ x, x = F (r + 9) c := ⟨_, rfl⟩
      rw [← ex] at ke ⊢
      refine l62c hP hd hr ht hT hw h hJ hc ld h12 htk (mGo2 T (mS T) (R c) tick cl c) (fun w7 w8 => ahead _ _ _ rfl) (T 4 - x).toNat x b _ ke.1.1 (by have := ke.1; omega) (fun y p q => ke.2.2 y p q) ⟨hbc.1, hbc.2.1, hbc.2.2.1, by have := hbc.2.2.2; omega⟩ ?_
      unfold mGo2
      rw [if_pos ld, ← hb]
      have k1 := ke.1
      rw [show (T 4).toNat = x.toNat + (T 4 - x).toNat by omega, mC_a, mC_0 x.toNat 0 fun y p q w => by have := ke.2.1 y p (by omega); omega, show (0 : Int) + ((x.toNat : Nat) : Int) = x by omega]
  have b0 : mAc (T 1) 4 (T 1, 3) := ⟨by dsimp only; omega, by dsimp only; omega, by dsimp only; omega, by dsimp only; omega⟩
  refine m62 hP hr ⟨by omega, t, h.1, ht, ?_⟩
  rw [h.2.2.2.1 c hc.1 hc.2, hw.1.2.1]
  refine ⟨⟨by omega, by omega⟩, fun z _ => ?_, fun z => ⟨hcl, fun z1 _ => ?_, fun z1 _ => ?_⟩⟩
  · exact cross (T 1, 3) _ _ _ (by rw [if_neg (fun w => z w.1)]) b0
  · exact cross (T 1, 3) _ _ _ (by rw [if_neg (fun w => z1 w.2)]) b0
  · refine l62g (A := mG T (R c) (T 6).toNat 0 (T 1, 3)) hP hr ht hT hw h hJ hc (fun w6 w7 w8 => cross (mG T (R c) (T 6).toNat 0 (T 1, 3)) _ _ _ (by rw [if_pos ⟨by omega, by omega⟩]) (mG_c _ _ _ b0)) (T 6).toNat 0 (T 1, 3) _ _ (by omega) (by omega) b0 rfl
end CAR
end MV
end CL7
