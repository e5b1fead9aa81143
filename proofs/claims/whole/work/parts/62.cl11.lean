section CL11
variable {X : List Int32} {d : Nat} {F : XF}
variable {T : Int → Int} {r t n : Nat} {limit : Int}
theorem cEv.any {r : Nat} {E E' : Int → Int} (h : cEv F r E) (hr : r = 70) : cEv F r E' := ⟨fun z => by omega, h.2⟩
theorem mEn_0 : mEn (fun _ => 0) := by unfold mEn; dsimp only; omega
/-- a tick aside, and on to where something may move again -/
theorem k55 {Q : XF → Prop} (hP : xPT F) (hd : 4 < d) (hr : xob 6 r) (h70 : r = 70) (ht : xob 9 t) (hT : mT T) (hdis : t + 17 ≤ r ∨ r + 28 ≤ t) (hw : cTw F t T) (h : cRu F r t T n) (hn : (n : Int) < limit) (hl : limit ≤ 2000) (hE : cEv F r (fun _ => 0)) (q : ∀ (G : XF) (n' : Nat), n < n' → (n' : Int) ≤ limit → xPT G → cK r 28 F G → cRu G r t T n' → cEv G r (fun _ => 0) → (∀ m : Nat, n < m → m < n' → mRun T m 131 = mRun T n 131) → Q G) : xMV X d 55 [.ref r, vi limit] F Q := by
  have hT' := hT
  obtain ⟨h00, hV, _, h3, h4, h5, h6, h7, hX, hO, hL, _⟩ := hT'
  have J := (mRun_I hT n (by omega)).1.1
  have J1 := (mRun_I hT (n + 1) (by omega)).1.1
  refine m55 hP hr ⟨4, hd, k60r (s := F) rfl hP (by omega) hr ht hT hdis hw h (by omega) hE mEn_0 fun G hG kG cG g2 wG eG nG m4 m4' m5 m5' => ?_⟩
  rw [g2]
  refine ⟨by rcases m4 with z | z <;> rw [z] <;> exact ⟨by decide, by decide⟩, fun z hH => ?_, fun z => ?_⟩
  · exact q _ (n + 1) (by omega) (by omega) hH (fun p i w => by rw [xup_n (by omega)]; exact kG p i (by omega)) (cRu.up hT cG m5) ((eG.any h70).of fun p i w => xup_n (by omega)) fun m a b => by omega
  · have z0 : G r 4 = 0 := by omega
    have same := m4' z0
    have ru := cRu.up hT cG m5
    have hP2 : xPT (xup G r 2 ((n : Int) + 1)) := xPT_fld (k := 2) hG hr (by decide) (by decide)
    have wk : ∀ i, ((0 ≤ i ∧ i < 30) ∨ i = 131 ∨ (30 ≤ i ∧ i < 30 + T 5)) → mRun T (n + 1) i = mK T (mS T) (n : Int) (mV (mClo T (mRun T n))) (mRun T n) (T 5).toNat i := mRun_K hT n
    have wb := mRun_w hT (n + 1) (by omega)
    have o1 := mJ_131 hT J J1 same
    have w8 : ∀ c, 0 ≤ c → c < T 5 → xup G r 2 ((n : Int) + 1) (r + 8) c = mRun T (n + 1) (30 + c) := fun c a b => by rw [xup_o (by omega)]; exact wG c a b
    refine ⟨4, hd, k56 (u := (n : Int) + 1) (R := mRun T (n + 1)) hP2 (by omega) hr ht hT (hw.of hT fun p i w => by rw [xup_n (by omega)]; exact kG p i (by omega)) ru.1 J1 xup_s (by omega) (fun c a b => by rw [w8 c a b]; have := wb c a b; exact ⟨by omega, by omega⟩) fun N hN hN1 hN2 => ⟨⟨by omega, by omega⟩, ⟨by omega, by omega⟩, ⟨by omega, by omega⟩, ⟨by omega, by omega⟩, fun hH => ?_⟩⟩
    -- nothing moves up to there
    have st : ∀ j : Nat, n ≤ j → (j : Int) < max ((n : Int) + 1) (min limit N) → mSti T (mS T) (mRun T n) (j : Int) (mV (mClo T (mRun T n))) := fun j a b => by
      by_cases y : (j : Int) < T 3
      · exact fun c _ _ => Or.inr (Or.inl y)
      by_cases y2 : (n : Int) < T 3
      · have := hN1 (by omega)
        omega
      have sbk := mSti_b (S := mS T) (t := (n : Int)) (cl := mV (mClo T (mRun T n))) hT J (by omega) (fun c p q => by rw [← wk c (by omega)]; exact same c p q)
      by_cases y3 : j = n
      · rw [y3]; exact sbk.1
      · obtain ⟨b1, b2⟩ := hN2 (by omega)
        refine mSti_n (W := fun c => mRun T (n + 1) (30 + c)) (N := N) hT J (by omega) (by omega) sbk.1 (fun c p q u v => by rw [← sbk.2 c p q u v, ← wk (30 + c) (by omega)]) b1 (fun e p q x u v w y => ?_) (by omega) (by omega)
        have se := (mS_b hT).2.2.2 e p q
        refine b2 e p q x (by rw [same _ (by omega) (by omega)]; exact u) (by rw [o1]; exact v) (by rw [w8 _ (by omega) (by omega)]; exact w) y
    obtain ⟨n', en⟩ : ∃ n' : Nat, (n' : Int) = max ((n : Int) + 1) (min limit N) := ⟨(max ((n : Int) + 1) (min limit N)).toNat, by omega⟩
    rw [← en] at st ⊢
    have run := fun (k : Nat) (hk : n + k ≤ n') => mRun_s hT (n := n) k (by omega) fun j a b => st j a (by omega)
    have run' : ∀ m : Nat, n ≤ m → m ≤ n' → ∀ i, (0 ≤ i ∧ i < 30) ∨ i = 131 → mRun T m i = mRun T n i := fun m a b i hi => by
      have := run (m - n) (by omega) i hi
      rw [show n + (m - n) = m by omega] at this
      exact this
    have oo : ∀ p i, ¬ (p = r ∧ i = 2) → xup (xup G r 2 ((n : Int) + 1)) r 2 (n' : Int) p i = G p i := fun p i w => by rw [xup_n w, xup_n w]
    have hH' : xPT (xup (xup G r 2 ((n : Int) + 1)) r 2 (n' : Int)) := by rw [en]; exact hH
    refine q _ n' (by omega) (by omega) hH' (fun p i w => by rw [oo p i (by omega)]; exact kG p i (by omega)) ⟨?_, xup_s, by rw [oo r 5 (by omega)]; exact m5⟩ ((eG.any h70).of fun p i w => oo p i (by omega)) fun m a b => run' m (by omega) (by omega) 131 (by omega)
    refine cG.of hT (fun p i w => oo p i (by omega)) fun i hi => ?_
    rw [run' n' (by omega) (by omega) i hi, run' (n + 1) (by omega) (by omega) i hi]
theorem k58 {Q : Int → XF → Prop} (hP : xPT F) (hd : 0 < d) (hr : xob 6 r) (ht : xob 9 t) (hT : mT T) (hw : cTw F t T) (h : cRu F r t T n) (hn : n ≤ 2000) (hl : 0 ≤ limit ∧ limit ≤ 2000) (q : ∀ y, mB y (mTl8 T n limit) → Q y F) : xMI X d 58 [.ref r, vi limit] F Q := by
  have hT' := hT
  obtain ⟨h00, hV, _, h3, h4, h5, h6, h7, hX, hO, hL, _⟩ := hT'
  have J := (mRun_I hT n (by omega)).1.1
  have w1 := hw.1
  refine m58 hP hr ⟨t, h.1.1, ht, t, h.1.1, ht, ?_⟩
  rw [h.2.1, w1.2.2.2.1, w1.2.2.2.2.2.1]
  refine ⟨⟨by omega, by omega⟩, ⟨by omega, by omega⟩, ⟨by omega, by omega⟩, fun z _ => q 0 (mB.i0 fun w => by have := w.1; omega), fun z => ⟨0, hd, k49 hP hr ht hT hw h.1 (by omega) ⟨t, h.1.1, ht, t, h.1.1, ht, ?_⟩⟩⟩
  rw [w1.1, w1.2.1]
  have mb := mul_b (a := T 1) (b := limit - max (n : Int) (T 3)) (by omega) (by omega)
  have jf := J.fr hT (T 5 - 1) (by omega) (by omega)
  have lf := hL (T 5 - 1) (by omega) (by omega)
  exact ⟨⟨by omega, by omega⟩, ⟨by omega, by omega⟩, fun z1 _ => q 0 (mB.i0 fun w => by have := w.2; omega), fun z1 _ => q 1 (mB.i1 ⟨by omega, by omega⟩)⟩
theorem k59 {R : Int → Int} {Q : Int → XF → Prop} (hP : xPT F) (hd : 1 < d) (hr : xob 6 r) (ht : xob 9 t) (hT : mT T) (hw : cTw F t T) (h : cCo F r t T R) (q : ∀ y, mB y (mHop T) → Q y F) : xMI X d 59 [.ref r] F Q := by
  have hT' := hT
  obtain ⟨h00, hV, _, h3, h4, h5, h6, h7, hX, hO, hL, _⟩ := hT'
  have sb := mS_b hT
  have cr := h.cars hT
  have e4 := hw.1.2.2.2.2.1
  have inner : ∀ (e : Int), 0 ≤ e → e < mS T 0 0 → (∀ w2, xW X d 59 2 [.ref r, vi (e + 1), w2] [] F (xqi Q)) ∨ (∃ x, 0 ≤ x ∧ x < T 4 ∧ ¬ mEvl T x (mNeed T (mS T 4 e) x)) → ∀ (m : Nat) (x : Int), 0 ≤ x → x + m = T 4 → (∀ y, 0 ≤ y → y < x → mEvl T y (mNeed T (mS T 4 e) y)) → xW X d 59 15 [.ref r, vi e, vi x] [] F (xqi Q) := by
    intro e he he1 nxt m
    have se := sb.2.2.2 e he he1
    induction m with
    | zero =>
      intro x hx hm hy
      refine s59_15 hP hr ⟨t, h.1, ht, ⟨by omega, by omega⟩, by rw [e4]; constructor <;> omega, fun _ _ => ?_, fun z => absurd (by rw [e4]; omega) z⟩
      rcases nxt with w | ⟨y, a, b, c⟩
      · exact w _
      · exact absurd (hy y a (by omega)) c
    | succ m ih =>
      intro x hx hm hy
      have xx := hX x hx (by omega)
      have xx' := xx
      unfold mX at xx'
      have nd := mNeed_b (T := T) (e := mS T 4 e) (x := x) hV.1 ⟨by omega, by omega⟩ (by omega)
      refine s59_15 hP hr ⟨t, h.1, ht, ⟨by omega, by omega⟩, by rw [e4]; constructor <;> omega, fun z => absurd z (by rw [e4]; omega), fun _ => ⟨t, h.1, ht, by omega, 1, hd, k66 hP (xtg_6_1 r hr.1 hr.2) hT h.2.2.1 (by omega) (by omega) ⟨1, hd, k10 (cX_ob ht hx (by omega)) xx (hw.2.1 x hx (by omega)) hP (by omega) ⟨by omega, by omega⟩ fun y hb => ⟨hb.r, fun z _ => ih (x + 1) (by omega) (by omega) fun y' a b => ?_, fun z _ => q 1 (mB.i1 ⟨e, x, he, he1, hx, by omega, hb.f (by omega)⟩)⟩⟩⟩⟩
      by_cases w : y' = x
      · rw [w]; exact hb.t z
      · exact hy y' a (by omega)
  have outer : ∀ (m : Nat) (e : Int) (w2 : Value), 0 ≤ e → e + m = mS T 0 0 → (∀ e' y, 0 ≤ e' → e' < e → 0 ≤ y → y < T 4 → mEvl T y (mNeed T (mS T 4 e') y)) → xW X d 59 2 [.ref r, vi e, w2] [] F (xqi Q) := by
    intro m
    induction m with
    | zero =>
      intro e w2 he hm hy
      refine s59_2 hP hr ⟨⟨by omega, by omega⟩, by rw [cr.1]; constructor <;> omega, fun _ _ => q 0 (mB.i0 ?_), fun z => absurd (by rw [cr.1]; omega) z⟩
      rintro ⟨e', x, a, b, c, f, g⟩
      exact g (hy e' x a (by omega) c f)
    | succ m ih =>
      intro e w2 he hm hy
      refine s59_2 hP hr ⟨⟨by omega, by omega⟩, by rw [cr.1]; constructor <;> omega, fun z => absurd z (by rw [cr.1]; omega), fun _ _ => inner e he (by omega) ?_ (T 4).toNat 0 (by omega) (by omega) fun y a b => by omega⟩
      by_cases w : ∃ x, 0 ≤ x ∧ x < T 4 ∧ ¬ mEvl T x (mNeed T (mS T 4 e) x)
      · exact Or.inr w
      · refine Or.inl fun w2 => ih (e + 1) w2 (by omega) (by omega) fun e' y a b c f => ?_
        by_cases z : e' = e
        · rw [z]
          apply Classical.byContradiction
          intro v
          exact w ⟨y, c, f, v⟩
        · exact hy e' y a (by omega) c f
  exact m59 hP hr fun _ => outer (mS T 0 0).toNat 0 _ (by omega) (by omega) fun e' y a b => by omega
/-- the end of a plan, if it is by the limit -/
theorem k57 {Q : Int → XF → Prop} (hP : xPT F) (hd : 5 < d) (hr : xob 6 r) (h70 : r = 70) (ht : xob 9 t) (hT : mT T) (hdis : t + 17 ≤ r ∨ r + 28 ≤ t) (hw : cTw F t T) (hl : 0 ≤ limit ∧ limit ≤ 2000) (q : ∀ G, xPT G → cK r 28 F G → Q (mEl T limit) G) : xMI X d 57 [.ref r, .ref t, vi limit] F Q := by
  have hT' := hT
  obtain ⟨h00, hV, _, h3, h4, h5, h6, h7, hX, hO, hL, _⟩ := hT'
  have fin : ∀ (G : XF) (n : Nat) (x3 : Int), xPT G → cK r 28 F G → cRu G r t T n → (n : Int) ≤ limit → (∀ m, m < n → ¬ mRun T m 131 = T 5) → (¬ mRun T n 131 = T 5 → ∀ m : Nat, (m : Int) ≤ limit → ¬ mRun T m 131 = T 5) → xW X d 57 59 [.ref r, .ref t, vi limit, vi x3] [] G (xqi Q) := fun G n x3 hG kG ru hn hno hre => by
    have gw : cTw G t T := kG.tw hT hw hdis
    have J := (mRun_I hT n (by omega)).1.1.2.2.1
    refine s57_59 hG hr ht ?_
    rw [ru.1.2.2.2.2.1, gw.1.2.2.2.2.2.1, ru.2.1]
    refine ⟨⟨by omega, by omega⟩, ⟨by omega, by omega⟩, fun z _ => ?_, fun z _ => ?_⟩
    · have := q G hG kG
      rw [mEl_n hl.2 (hre (by omega))] at this
      exact this
    · have := q G hG kG
      rw [mEl_y hl.2 hn hno (by omega)] at this
      exact this
  have loop : ∀ (f n : Nat) (G : XF) (i : Int), xPT G → cK r 28 F G → cRu G r t T n → cEv G r (fun _ => 0) → 0 ≤ i → i ≤ n → (n : Int) + f = limit → (∀ m, m < n → ¬ mRun T m 131 = T 5) → xW X d 57 16 [.ref r, .ref t, vi limit, vi i] [] G (xqi Q) := by
    intro f
    induction f using Nat.strongRecOn with
    | _ f ih =>
      intro n G i hG kG ru ev hi0 hin hnf hno
      have gw : cTw G t T := kG.tw hT hw hdis
      have J := (mRun_I hT n (by omega)).1.1.2.2.1
      have full : limit ≤ (n : Int) → (¬ mRun T n 131 = T 5 → ∀ m : Nat, (m : Int) ≤ limit → ¬ mRun T m 131 = T 5) := fun z w m hm => by
        by_cases y : m = n
        · rw [y]; exact w
        · exact hno m (by omega)
      refine s57_16 hG hr ht ?_
      rw [ru.1.2.2.2.2.1, gw.1.2.2.2.2.2.1, ru.2.1]
      refine ⟨⟨by omega, by omega⟩, ⟨by omega, by omega⟩, fun z _ => fin G n _ hG kG ru (by omega) hno (full (by omega)), fun z => ⟨⟨by omega, by omega⟩, ⟨by omega, by omega⟩, fun z1 _ => fin G n _ hG kG ru (by omega) hno (full z1), fun z1 => ⟨⟨by omega, by omega⟩, ⟨by omega, by omega⟩, fun z2 _ => fin G n _ hG kG ru (by omega) hno (fun w => absurd (by omega) w), fun z2 => ⟨5, hd, k58 hG (by omega) hr ht hT gw ru (by omega) hl fun y hy => ⟨hy.r, fun z3 _ => fin G n _ hG kG ru (by omega) hno (fun w m hm => ?_), fun z3 => ⟨5, hd, k55 hG (by omega) hr h70 ht hT hdis gw ru (by omega) hl.2 ev fun H n' a b hH kH rH eH sH hH2 => ?_⟩⟩⟩⟩⟩⟩
      · by_cases y' : m < n
        · exact hno m y'
        · exact mTl8_n hT (by omega) (hy.t z3) w (by omega) hm
      · refine ih (limit - (n' : Int)).toNat (by omega) n' H (i + 1) hH2 (kG.trans kH) rH eH (by omega) (by omega) (by omega) fun m hm => ?_
        by_cases y' : m < n
        · exact hno m y'
        by_cases y2 : m = n
        · rw [y2]; omega
        · rw [sH m (by omega) hm]; omega
  refine m57 hP hr ht ⟨5, hd, k48 hP (by omega) hr ht hT hdis hw fun G hG kG cG wG sG g2 g4 g5 eG => ⟨5, hd, k59 hG (by omega) hr ht hT (kG.tw hT hw hdis) cG fun y hy => ⟨hy.r, fun z _ => loop limit.toNat 0 G 0 hG kG ⟨cG, g2, Or.inl g5⟩ (eG.any h70) (by omega) (by omega) (by omega) (fun m hm => by omega), fun z _ => ?_⟩⟩⟩
  have := q G hG kG
  rw [mEl_n hl.2 fun m hm => mHop_n hT (hy.t z) (by omega)] at this
  exact this
end CL11
