section CL21
variable {X : List Int32} {d : Nat} {F : XF}
variable {T : Int → Int} {t n : Nat} {Q : Int → XF → Prop}
/-! the class's questions of the run -/
theorem o42 : xob 6 42 := ⟨by decide, by decide⟩
def cN (F : XF) (t : Nat) (T : Int → Int) (n : Nat) : Prop := cO F t T ∧ cRu F 42 t T n ∧ cSt F 42 T (mRun T n) ∧ cWh F 42 T (mRun T n) ∧ cEv F 42 (mEvs T n) ∧ mEn (mEvs T n) ∧ n ≤ 2000
theorem mNx_yes {x u m : Int} (hX : mX T x) (h : mNx T x u m < 2000) : mLet T x (mNx T x u m) m := by
  unfold mX at hX
  have mm := mmod (t := u) (c := T (8 + 7 * x + 2)) (by omega)
  unfold mNx at h ⊢
  by_cases q : mLet T x u m
  · rw [mV_t q, if_pos rfl]; exact q
  rw [mV_f q, if_neg (by decide)] at h ⊢
  have na : ¬ mAlw T x := fun z => q (Or.inl z)
  by_cases q2 : mEvl T x m
  · rw [mV_t q2, if_pos rfl] at h ⊢
    have ev : m ≤ T (8 + 7 * x + 4) - T (8 + 7 * x + 3) := by
      rcases q2 with z | z
      · exact absurd z na
      · exact z
    by_cases q3 : u % T (8 + 7 * x + 2) < T (8 + 7 * x + 3)
    · rw [if_pos q3] at h ⊢
      rw [show min (u + (T (8 + 7 * x + 3) - u % T (8 + 7 * x + 2))) 2000 = u + (T (8 + 7 * x + 3) - u % T (8 + 7 * x + 2)) by omega]
      have := mod_add (a := u) (δ := T (8 + 7 * x + 3) - u % T (8 + 7 * x + 2)) (c := T (8 + 7 * x + 2)) (by omega) (by omega) (by omega)
      rw [if_pos (by omega)] at this
      exact Or.inr ⟨by omega, by omega⟩
    · rw [if_neg q3] at h ⊢
      rw [show min (u + (T (8 + 7 * x + 2) - u % T (8 + 7 * x + 2) + T (8 + 7 * x + 3))) 2000 = u + (T (8 + 7 * x + 2) - u % T (8 + 7 * x + 2) + T (8 + 7 * x + 3)) by omega]
      have := mod_add (a := u) (δ := T (8 + 7 * x + 2) - u % T (8 + 7 * x + 2) + T (8 + 7 * x + 3)) (c := T (8 + 7 * x + 2)) (by omega) (by omega) (by omega)
      rw [if_neg (by omega)] at this
      exact Or.inr ⟨by omega, by omega⟩
  · rw [mV_f q2, if_neg (by decide)] at h
    omega
theorem mNx_ge {x u m : Int} (hX : mX T x) (hu : u < 2000) : u ≤ mNx T x u m := by
  unfold mX at hX
  have mm := mmod (t := u) (c := T (8 + 7 * x + 2)) (by omega)
  unfold mNx
  split
  · omega
  split
  · split <;> omega
  · omega
theorem mPs_x {e x u : Int} (hX : mX T x) (h1 : 1 ≤ mNeed T e x) (h0 : 0 ≤ u) (h2 : u < 2000) : ∀ (f : Nat) (v : Int), u ≤ v → v + f = 2000 → v ≤ mNx T x u (mNeed T e x) → mPs T e x f v = if 2000 ≤ mNx T x u (mNeed T e x) then -1 else mNx T x u (mNeed T e x)
  | 0, v, hv, hf, hn => by
    rw [if_pos (by omega)]
    rfl
  | f + 1, v, hv, hf, hn => by
    unfold mPs
    by_cases z : v = mNx T x u (mNeed T e x)
    · have y := mNx_yes (T := T) (u := u) (m := mNeed T e x) hX (by omega)
      rw [← z] at y ⊢
      rw [if_pos (mV_t ((mLet_m h1).mp y)), if_neg (by omega)]
    · have no := mNx_no (T := T) (t := u) (n := mNeed T e x) (m := v) hX h0 hv (by omega)
      rw [if_neg (by rw [mV_f (fun w => no ((mLet_m h1).mpr w))]; decide)]
      exact mPs_x hX h1 h0 h2 f (v + 1) (by omega) (by omega) (by omega)
theorem k130 {s : Int} (hP : xPT F) (hs : inR s) (h : cN F t T n) (q : ∀ y, mB y (0 ≤ s ∧ s < mS T 0 0) → Q y F) : xMI X d 130 [.ref 0, vi s] F Q := by
  have hT := h.1.2.2.2.1
  have h5 := hT.2.2.2.2.2.1
  have sb := (mS_b hT).1
  have e : F 43 0 = mS T 0 0 := (h.2.1.1.cars hT).1
  refine m130 hP ⟨hs, fun z _ => q 0 (mB.i0 fun w => by omega), fun z => ?_⟩
  rw [e]
  exact ⟨hs, ⟨by omega, by omega⟩, fun z1 _ => q 0 (mB.i0 fun w => by omega), fun z1 _ => q 1 (mB.i1 ⟨by omega, by omega⟩)⟩
theorem k104 {c w : Int} (hP : xPT F) (hd : 0 < d) (hc : inR c) (hw : inR w) (h : cN F t T n) (q : Q (aCar T (mS T) (mRun T n) c w) F) : xMI X d 104 [.ref 0, vi c, vi w] F Q := by
  have hT := h.1.2.2.2.1
  have h5 := hT.2.2.2.2.2.1
  have J := (mRun_I hT n (by have := h.2.2.2.2.2.2; omega)).1.1
  have cr := h.2.1.1.cars hT
  have go : ∀ v, aCar T (mS T) (mRun T n) c w = v → Q v F := fun v e => by rw [← e]; exact q
  unfold aCar at go
  refine m104 hP ⟨0, hd, k128 hP hc h.1 fun y hy => ⟨hy.r, fun z => ?_, fun z _ => go _ (by rw [if_neg (hy.f (by omega))])⟩⟩
  have hy' := hy.t z
  have e7 : F 49 c = mRun T n c := h.2.1.1.2.2.2.1 c hy'.1 hy'.2
  have e8 : F 50 c = mRun T n (30 + c) := h.2.2.2.1 c hy'.1 hy'.2
  have e4 : F 47 c = mS T 1 c := cr.2.1 c hy'.1 hy'.2
  have e3 : F 42 3 = mRun T n 131 := h.2.1.1.2.2.2.2.1
  have et := h.1.2.2.2.2.2.1.2.2.1 c hy'.1 hy'.2
  have j4 := J.2.2.2 c hy'.1 hy'.2
  have j3 := J.2.2.1
  simp only [if_pos hy'] at go
  refine ⟨hw, fun u _ => go _ (by rw [if_neg (by omega), if_neg (by omega), if_neg (by omega), if_neg (by omega), if_neg (by omega), if_neg (by omega)]), fun u => ⟨by omega, fun _ => ?_⟩, fun u => ⟨0, hd, k49 hP o42 h.1.2.1 hT h.1.2.2.2.2.2.1 h.2.1.1 hy' fun _ => go _ (by rw [if_neg (by omega), if_pos u])⟩, fun u => ⟨t, h.1.1, h.1.2.1, by omega, fun _ => ?_⟩, fun u => ⟨by omega, fun _ => ?_⟩, fun u => ⟨by omega, fun _ => ?_⟩, fun u => ?_⟩
  · rw [e7]; exact go _ (by rw [if_pos u])
  · rw [et]; exact go _ (by rw [if_neg (by omega), if_neg (by omega), if_pos u])
  · rw [e8]; exact go _ (by rw [if_neg (by omega), if_neg (by omega), if_neg (by omega), if_pos u])
  · rw [e4]; exact go _ (by rw [if_neg (by omega), if_neg (by omega), if_neg (by omega), if_neg (by omega), if_pos u])
  · rw [e3]
    refine ⟨hc, ⟨by omega, by omega⟩, fun u1 _ => go _ (by rw [if_neg (by omega), if_neg (by omega), if_neg (by omega), if_neg (by omega), if_neg (by omega), if_pos u, if_neg (by omega)]), fun u1 _ => go _ (by rw [if_neg (by omega), if_neg (by omega), if_neg (by omega), if_neg (by omega), if_neg (by omega), if_pos u, if_pos (by omega)])⟩
theorem k105 {x w : Int} (hP : xPT F) (hd : 1 < d) (hx : inR x) (hw : inR w) (h : cN F t T n) (q : Q (aCrossing T (mS T) (mRun T n) x w) F) : xMI X d 105 [.ref 0, vi x, vi w] F Q := by
  have hT := h.1.2.2.2.1
  have h4 := hT.2.2.2.2.1
  have J := (mRun_I hT n (by have := h.2.2.2.2.2.2; omega)).1.1
  have go : ∀ v, aCrossing T (mS T) (mRun T n) x w = v → Q v F := fun v e => by rw [← e]; exact q
  unfold aCrossing at go
  refine m105 hP ⟨1, hd, k129 hP hx h.1 fun y hy => ⟨hy.r, fun z => ?_, fun z _ => go _ (by rw [if_neg (hy.f (by omega))])⟩⟩
  have hy' := hy.t z
  simp only [if_pos hy'] at go
  have st : ∀ k, 0 ≤ k → k < 7 → F (54 + 6 + x.toNat) k = mRun T n (60 + 7 * x + k) := fun k a b => h.2.2.1 x k hy'.1 hy'.2 a b
  have lo : ∀ k, 0 ≤ k → k ≤ 3 → w = k → Q (F (54 + 6 + x.toNat) k) F := fun k a b e => by
    rw [st k a (by omega)]
    exact go _ (by rw [if_pos (by omega), e])
  have hi : ∀ k, 4 ≤ k → k ≤ 6 → w = k + 1 → Q (F (54 + 6 + x.toNat) k) F := fun k a b e => by
    rw [st k (by omega) (by omega)]
    exact go _ (by rw [if_neg (by omega), if_neg (by omega), if_pos (by omega), show 60 + 7 * x + w - 1 = 60 + 7 * x + k by omega])
  exact ⟨by omega, hw, fun u _ => go _ (by rw [if_neg (by omega), if_neg (by omega), if_neg (by omega)]), fun u _ => lo 0 (by omega) (by omega) u, fun u _ => lo 1 (by omega) (by omega) u, fun u _ => lo 2 (by omega) (by omega) u, fun u _ => lo 3 (by omega) (by omega) u, fun u => ⟨1, hd, k51 hP (by omega) o42 h.1.2.1 hT h.1.2.2.2.2.2.1 h.2.1.1 J hy' fun _ => go _ (by rw [if_neg (by omega), if_pos u])⟩, fun u _ => hi 4 (by omega) (by omega) u, fun u _ => hi 5 (by omega) (by omega) u, fun u _ => hi 6 (by omega) (by omega) u⟩
theorem k106 {s w : Int} (hP : xPT F) (hd : 0 < d) (hs : inR s) (hw : inR w) (h : cN F t T n) (q : Q (aSection T (mS T) (mRun T n) s w) F) : xMI X d 106 [.ref 0, vi s, vi w] F Q := by
  have hT := h.1.2.2.2.1
  have h5 := hT.2.2.2.2.2.1
  have sb := mS_b hT
  have cr := h.2.1.1.cars hT
  have go : ∀ v, aSection T (mS T) (mRun T n) s w = v → Q v F := fun v e => by rw [← e]; exact q
  unfold aSection at go
  refine m106 hP ⟨0, hd, k130 hP hs h fun y hy => ⟨hy.r, fun z => ?_, fun z _ => go _ (by rw [if_neg (hy.f (by omega))])⟩⟩
  have hy' := hy.t z
  simp only [if_pos hy'] at go
  have ss := sb.2.2.2 s hy'.1 hy'.2
  have e2 : F 44 s = mS T 2 s := (cr.2.2 s hy'.1 hy'.2).1
  have e3 : F 45 s = mS T 3 s := (cr.2.2 s hy'.1 hy'.2).2.1
  have e4 : F 46 s = mS T 4 s := (cr.2.2 s hy'.1 hy'.2).2.2
  have e7 : F 49 (mS T 2 s) = mRun T n (mS T 2 s) := h.2.1.1.2.2.2.1 _ (by omega) (by omega)
  rw [e2, e3, e4, e7]
  exact ⟨by omega, by omega, hw, fun u _ => go _ (by rw [if_neg (by omega), if_neg (by omega), if_neg (by omega), if_neg (by omega)]), fun u _ => go _ (by rw [if_pos u]), fun u _ => go _ (by rw [if_neg (by omega), if_pos u]), fun u => ⟨by omega, fun _ => go _ (by rw [if_neg (by omega), if_neg (by omega), if_pos u])⟩, fun u => ⟨by omega, 0, hd, k49 hP o42 h.1.2.1 hT h.1.2.2.2.2.2.1 h.2.1.1 (by omega) fun _ => go _ (by rw [if_neg (by omega), if_neg (by omega), if_neg (by omega), if_pos u])⟩⟩
theorem k107 {v w : Int} (hP : xPT F) (hv : inR v) (hw : inR w) (h : cN F t T n) (q : Q (aEvent (mEvs T n) v w) F) : xMI X d 107 [.ref 0, vi v, vi w] F Q := by
  have go : ∀ u, aEvent (mEvs T n) v w = u → Q u F := fun u e => by rw [← e]; exact q
  unfold aEvent at go
  obtain ⟨e0, e1⟩ := h.2.2.2.2.1.1 rfl
  have en := h.2.2.2.2.2.1
  unfold mEn at en
  have e0' : F 55 0 = mEvs T n (-1) := e0
  have l1 : (xln0 56 : Int) = 200 := by decide
  have l2 : (xln0 57 : Int) = 200 := by decide
  have l3 : (xln0 58 : Int) = 200 := by decide
  have l4 : (xln0 59 : Int) = 200 := by decide
  refine m107 hP ⟨hv, fun z _ => go _ (by rw [if_neg (by omega)]), fun z => ?_⟩
  rw [e0', l1, l2, l3, l4]
  refine ⟨hv, ⟨by omega, by omega⟩, fun z1 => ?_, fun z1 _ => go _ (by rw [if_neg (by omega)])⟩
  have ev := e1 v (by omega) z1
  have f1 : F 56 v = mEvs T n (4 * v) := ev.1
  have f2 : F 57 v = mEvs T n (4 * v + 1) := ev.2.1
  have f3 : F 58 v = mEvs T n (4 * v + 2) := ev.2.2.1
  have f4 : F 59 v = mEvs T n (4 * v + 3) := ev.2.2.2
  rw [f1, f2, f3, f4]
  exact ⟨hw, fun u _ => go _ (by rw [if_neg (by omega)]), fun u => ⟨by omega, fun _ => go _ (by rw [if_pos (by omega), u, Int.add_zero])⟩, fun u => ⟨by omega, fun _ => go _ (by rw [if_pos (by omega), u])⟩, fun u => ⟨by omega, fun _ => go _ (by rw [if_pos (by omega), u])⟩, fun u => ⟨by omega, fun _ => go _ (by rw [if_pos (by omega), u])⟩⟩
theorem k108 {s x : Int} (hP : xPT F) (hd : 0 < d) (hs : inR s) (hx : inR x) (h : cN F t T n) (q : Q (aNeed T (mS T) s x) F) : xMI X d 108 [.ref 0, vi s, vi x] F Q := by
  have hT := h.1.2.2.2.1
  have go : ∀ u, aNeed T (mS T) s x = u → Q u F := fun u e => by rw [← e]; exact q
  unfold aNeed at go
  exact m108 hP ⟨0, hd, k130 hP hs h fun y hy => ⟨hy.r, fun z _ => go _ (by rw [if_neg (fun u => hy.f z u.1)]), fun z => ⟨0, hd, k129 hP hx h.1 fun y2 hy2 => ⟨hy2.r, fun z1 => ⟨0, hd, k66 hP (xtg_6_1 42 o42.1 o42.2) hT h.2.1.1.2.2.1 (hy.t z) (hy2.t z1) fun _ => go _ (by rw [if_pos ⟨hy.t z, hy2.t z1⟩])⟩, fun z1 _ => go _ (by rw [if_neg (fun u => hy2.f (by omega) u.2)])⟩⟩⟩⟩
theorem k110 {x u : Int} (hP : xPT F) (hd : 1 < d) (hx : inR x) (hu : inR u) (h : cO F t T) (q : Q (aOpen T x u) F) : xMI X d 110 [.ref 0, vi x, vi u] F Q := by
  have hT := h.2.2.2.1
  have h4 := hT.2.2.2.2.1
  have hX := hT.2.2.2.2.2.2.2.2.1
  have go : ∀ v, aOpen T x u = v → Q v F := fun v e => by rw [← e]; exact q
  unfold aOpen at go
  refine m110 hP ⟨1, hd, k129 hP hx h fun y hy => ⟨hy.r, fun z => ⟨1, hd, k131 hP hu fun y2 hy2 => ⟨hy2.r, fun z1 => ?_, fun z1 _ => go _ (by rw [if_pos (hy.t z), if_neg (hy2.f (by omega))])⟩⟩, fun z _ => go _ (by rw [if_neg (hy.f (by omega))])⟩⟩
  have a := hy.t z
  have b := hy2.t z1
  refine ⟨t, h.1, h.2.1, by omega, 1, hd, k9 (cX_ob h.2.1 a.1 (by omega)) (hX x a.1 a.2) (h.2.2.2.2.2.1.2.1 x a.1 a.2) hP (by omega) (by omega) fun y3 hy3 => ⟨hy3.r, fun z2 _ => go _ (by rw [if_pos a, if_pos b, mV_f (hy3.f z2)]), fun z2 _ => go _ (by rw [if_pos a, if_pos b, mV_t (hy3.t z2)])⟩⟩
theorem k109 {s x u : Int} (hP : xPT F) (hd : 2 < d) (hs : inR s) (hx : inR x) (hu : inR u) (h : cN F t T n) (q : Q (aPass T (mS T) s x u) F) : xMI X d 109 [.ref 0, vi s, vi x, vi u] F Q := by
  have hT := h.1.2.2.2.1
  have h1 := hT.2.1
  have h4 := hT.2.2.2.2.1
  have hX := hT.2.2.2.2.2.2.2.2.1
  have go : ∀ v, aPass T (mS T) s x u = v → Q v F := fun v e => by rw [← e]; exact q
  unfold aPass at go
  refine m109 hP ⟨2, hd, k130 hP hs h fun y hy => ⟨hy.r, fun z _ => go _ (by rw [if_neg (fun w => hy.f z w.1)]), fun z => ⟨2, hd, k129 hP hx h.1 fun y2 hy2 => ⟨hy2.r, fun z1 => ⟨2, hd, k131 hP hu fun y3 hy3 => ⟨hy3.r, fun z2 => ?_, fun z2 _ => go _ (by rw [if_pos ⟨hy.t z, hy2.t z1⟩, if_neg (hy3.f (by omega))])⟩⟩, fun z1 _ => go _ (by rw [if_neg (fun w => hy2.f (by omega) w.2)])⟩⟩⟩⟩
  have a := hy.t z
  have b := hy2.t z1
  have c := hy3.t z2
  have xx := hX x b.1 b.2
  have xx' := xx
  unfold mX at xx'
  have ss := (mS_b hT).2.2.2 s a.1 a.2
  have nb := mNeed_b (T := T) (e := mS T 4 s) (x := x) h1.1 ⟨by omega, by omega⟩ (by omega)
  have n1 := mNeed_1 (T := T) (e := mS T 4 s) (x := x) h1.1 (by omega)
  have xb := mNx_b (n := mNeed T (mS T 4 s) x) xx (u := u) (by omega)
  have xg := mNx_ge (m := mNeed T (mS T 4 s) x) xx (u := u) (by omega)
  have e := mPs_x (T := T) (e := mS T 4 s) (u := u) xx n1 c.1 (by omega) (2000 - u).toNat u (by omega) (by omega) xg
  rw [if_pos ⟨a, b⟩, if_pos c, e] at go
  exact ⟨t, h.1.1, h.1.2.1, by omega, 2, hd, k66 hP (xtg_6_1 42 o42.1 o42.2) hT h.2.1.1.2.2.1 a b ⟨2, hd, k12 (cX_ob h.1.2.1 b.1 (by omega)) xx (h.1.2.2.2.2.2.1.2.1 x b.1 b.2) hP (by omega) (by omega) (by omega) ⟨⟨by omega, by omega⟩, fun v _ => go _ (by rw [if_pos v]), fun v _ => go _ (by rw [if_neg v])⟩⟩⟩
theorem k127 {w acts taped : Int} (hP : xPT F) (hw : inR w) (h : cN F t T n) (ha : F 37 0 = acts) (hb : F 18 0 = taped) (q : Q (aCount T n acts taped w) F) : xMI X d 127 [.ref 0, vi w] F Q := by
  have hT := h.1.2.2.2.1
  have go : ∀ v, aCount T n acts taped w = v → Q v F := fun v e => by rw [← e]; exact q
  have e := h.1.2.2.2.2.2.1.1
  have e6 : F 43 0 = mS T 0 0 := (h.2.1.1.cars hT).1
  have e9 : F 42 2 = (n : Int) := h.2.1.2.1
  have e10 : F 42 3 = mRun T n 131 := h.2.1.1.2.2.2.2.1
  have e11 : F 55 0 = mEvs T n (-1) := (h.2.2.2.2.1.1 rfl).1
  have p := h.1.1
  have p2 := h.1.2.1
  refine m127 hP ⟨hw, fun u _ => go _ ?_, fun u => ⟨t, p, p2, fun _ => go _ ?_⟩, fun u => ⟨t, p, p2, fun _ => go _ ?_⟩, fun u => ⟨t, p, p2, fun _ => go _ ?_⟩, fun u => ⟨t, p, p2, fun _ => go _ ?_⟩, fun u => ⟨t, p, p2, fun _ => go _ ?_⟩, fun u => ⟨t, p, p2, fun _ => go _ ?_⟩, fun u _ => go _ ?_, fun u => ⟨t, p, p2, fun _ => go _ ?_⟩, fun u => ⟨t, p, p2, fun _ => go _ ?_⟩, fun u _ => go _ ?_, fun u _ => go _ ?_, fun u _ => go _ ?_, fun u _ => go _ ?_, fun u _ => go _ ?_⟩
  · unfold aCount
    rw [if_neg (by omega), if_neg (by omega), if_neg (by omega), if_neg (by omega), if_neg (by omega), if_neg (by omega), if_neg (by omega), if_neg (by omega), if_neg (by omega), if_neg (by omega), if_neg (by omega), if_neg (by omega), if_neg (by omega), if_neg (by omega)]
  all_goals subst u
  · exact e.1.symm
  · exact e.2.1.symm
  · exact e.2.2.1.symm
  · exact e.2.2.2.1.symm
  · exact e.2.2.2.2.1.symm
  · exact e.2.2.2.2.2.1.symm
  · exact e6.symm
  · exact e.2.2.2.2.2.2.1.symm
  · exact e.2.2.2.2.2.2.2.symm
  · exact e9.symm
  · exact e10.symm
  · exact e11.symm
  · exact ha.symm
  · exact hb.symm
theorem k95 {w : Int} (hP : xPT F) (hw : inR w) (q : Q (aFault w (F 18 1) (F 18 2)) F) : xMI X d 95 [.ref 0, vi w] F Q := by
  have go : ∀ v, aFault w (F 18 1) (F 18 2) = v → Q v F := fun v e => by rw [← e]; exact q
  unfold aFault at go
  exact m95 hP ⟨hw, fun z => ⟨hw, fun z1 _ => go _ (by rw [if_neg z, if_neg z1]), fun z1 _ => go _ (by rw [if_neg z, if_pos (by omega)])⟩, fun z _ => go _ (by rw [if_pos (by omega)])⟩
end CL21
