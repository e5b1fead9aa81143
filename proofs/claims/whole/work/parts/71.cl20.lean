section CL20
variable {X : List Int32} {d : Nat} {F : XF}
variable {T : Int → Int} {t : Nat} {Q : Int → XF → Prop}
/-- once all are out, nothing moves -/
theorem mRun_out (hT : mT T) {m : Nat} (h : mRun T m 131 = T 5) : ∀ k : Nat, m + k ≤ 9000 → mRun T (m + k) 131 = T 5 ∧ ∀ c, 0 ≤ c → c < T 5 → mRun T (m + k) c = mRun T m c
  | 0, _ => ⟨h, fun _ _ _ => rfl⟩
  | k + 1, hk => by
    obtain ⟨a, b⟩ := mRun_out hT h k (by omega)
    have J := (mRun_I hT (m + k) (by omega)).1.1
    have J1 := (mRun_I hT (m + k + 1) (by omega)).1.1
    have st : ∀ c, 0 ≤ c → c < T 5 → mRun T (m + k + 1) c = mRun T (m + k) c := fun c p q => (mTk_m (S := mS T) hT J ⟨p, q⟩).2.2.2 ((J.2.2.2 c p q).mpr (by omega))
    refine ⟨?_, fun c p q => (st c p q).trans (b c p q)⟩
    have := mJ_131 hT J J1 st
    show mRun T (m + k + 1) 131 = T 5
    omega
theorem cO.k {G : XF} (h : cO F t T) (k : cK 70 28 F G) : cAs F G ∧ cO G t T := by
  have e : cAs F G := fun p i z => k p i (by omega)
  exact ⟨e, h.of e (h.2.2.2.2.2.2.1.of fun p i z => k p i (by omega)) (h.2.2.2.2.2.2.2.of (k 104 1 (by omega)) fun p i z => k p i (by omega))⟩
theorem k113 {c n : Int} (hP : xPT F) (hd : 6 < d) (hc : inR c) (hn : inR n) (h : cO F t T) (q : cQ F t T Q (aWhere T c n)) : xMI X d 113 [.ref 0, vi c, vi n] F Q := by
  have hT := h.2.2.2.1
  have h5 := hT.2.2.2.2.2.1
  have ht := h.2.1
  have h7 := h.2.2.1
  have hw := h.2.2.2.2.2.1
  unfold aWhere at q
  have q0 := fun v e => q.go (w := v) hP cAs.refl h e
  refine m113 hP ⟨6, hd, k128 hP hc h fun y hy => ⟨hy.r, fun z => ⟨hn, fun z1 _ => q0 _ (by rw [if_pos (hy.t z), if_neg (by omega)]), fun z1 => ⟨hn, fun z2 => ⟨t, h.1, ht, 6, hd, k48 hP (by omega) o70 ht hT (by omega) hw fun G hG kG cG _ _ g2 _ g5 eG _ => ?_⟩, fun z2 _ => q0 _ (by rw [if_pos (hy.t z), if_neg (by omega)])⟩⟩, fun z _ => q0 _ (by rw [if_neg (hy.f (by omega))])⟩⟩
  have hc' := hy.t z
  rw [if_pos hc', if_pos ⟨by omega, by omega⟩] at q
  have fin : ∀ (G : XF) (m : Nat) (x3 : Int), xPT G → cK 70 28 F G → cRu G 70 t T m → (m : Int) ≤ n → ((m : Int) = n ∨ mRun T m 131 = T 5) → xW X d 113 85 [.ref 0, vi c, vi n, vi x3] [] G (xqi Q) := fun G m x3 hG kG ru hm hor => by
    refine s113_85 hG ⟨by omega, fun _ => ?_⟩
    have e : G 77 c = mRun T m c := ru.1.2.2.2.1 c hc'.1 hc'.2
    rw [e]
    refine q.go hG (h.k kG).1 (h.k kG).2 ?_
    rcases hor with u | u
    · rw [show n.toNat = m by omega]
    · have := (mRun_out hT u (n.toNat - m) (by omega)).2 c hc'.1 hc'.2
      rw [show m + (n.toNat - m) = n.toNat by omega] at this
      rw [this]
  have loop : ∀ (f m : Nat) (G : XF) (i : Int), xPT G → cK 70 28 F G → cRu G 70 t T m → cEv G 70 (fun _ => 0) → 0 ≤ i → i ≤ m → (m : Int) + f = n → xW X d 113 38 [.ref 0, vi c, vi n, vi i] [] G (xqi Q) := by
    intro f
    induction f using Nat.strongRecOn with
    | _ f ih =>
      intro m G i hG kG ru ev hi0 him hmf
      have gO := (h.k kG).2
      have J := (mRun_I hT m (by omega)).1.1.2.2.1
      refine s113_38 hG ?_
      rw [ru.2.1, ru.1.2.2.2.2.1]
      refine ⟨⟨by omega, by omega⟩, ⟨by omega, by omega⟩, fun y _ => fin G m _ hG kG ru (by omega) (Or.inl (by omega)), fun y => ⟨⟨by omega, by omega⟩, ⟨by omega, by omega⟩, fun y1 _ => fin G m _ hG kG ru (by omega) (Or.inl (by omega)), fun y1 => ⟨t, gO.1, ht, ?_⟩⟩⟩
      rw [gO.2.2.2.2.2.1.1.2.2.2.2.2.1]
      refine ⟨⟨by omega, by omega⟩, ⟨by omega, by omega⟩, fun y2 _ => fin G m _ hG kG ru (by omega) (Or.inr (by omega)), fun y2 => ⟨6, hd, k55 hG (by omega) o70 rfl ht hT (by omega) gO.2.2.2.2.2.1 ru (by omega) (by omega) ev fun H n' a b hH kH rH eH _ hH2 => ih (n - (n' : Int)).toNat (by omega) n' H (i + 1) hH2 (kG.trans kH) rH eH (by omega) (by omega) (by omega)⟩⟩
  exact loop n.toNat 0 G 0 hG kG ⟨cG, g2, Or.inl g5⟩ (eG.any rfl) (by omega) (by omega) (by omega)
theorem k114 {n : Int} (hP : xPT F) (hd : 6 < d) (hn : inR n) (h : cO F t T) (q : cQ F t T Q (aWaits T n)) : xMI X d 114 [.ref 0, vi n] F Q := by
  have hT := h.2.2.2.1
  have ht := h.2.1
  have h7 := h.2.2.1
  have hw := h.2.2.2.2.2.1
  unfold aWaits at q
  have q0 := fun v e => q.go (w := v) hP cAs.refl h e
  refine m114 hP ⟨hn, fun z1 _ => q0 _ (by rw [if_neg (by omega)]), fun z1 => ⟨hn, fun z2 => ⟨t, h.1, ht, 6, hd, k48 hP (by omega) o70 ht hT (by omega) hw fun G hG kG cG _ sG g2 _ g5 eG _ => ?_⟩, fun z2 _ => q0 _ (by rw [if_neg (by omega)])⟩⟩
  rw [if_pos ⟨by omega, by omega⟩] at q
  have loop : ∀ (f m : Nat) (G : XF), xPT G → cK 70 28 F G → cRu G 70 t T m → cSt G 70 T (mRun T m) → cEv G 70 (fun _ => 0) → (m : Int) + f = n → xW X d 114 27 [.ref 0, vi n, vi (m : Int)] [] G (xqi Q) := by
    intro f
    induction f with
    | zero =>
      intro m G hG kG ru st ev hm
      have gO := (h.k kG)
      refine s114_27 hG ⟨⟨by omega, by omega⟩, ⟨by omega, by omega⟩, fun _ => ⟨6, hd, k52 (R := mRun T m) hG o70 ht hT gO.2.2.2.2.2.2.1 ru.1.1 st fun _ => ?_⟩, fun y => absurd (by omega) y⟩
      rw [show n.toNat = m by omega] at q
      exact q G hG gO.1 gO.2
    | succ f ih =>
      intro m G hG kG ru st ev hm
      have gO := (h.k kG)
      refine s114_27 hG ⟨⟨by omega, by omega⟩, ⟨by omega, by omega⟩, fun y => absurd y (by omega), fun _ => ⟨6, hd, k53 hG (by omega) o70 ht hT (by omega) gO.2.2.2.2.2.2.1 ru st (by omega) ev mEn_0 fun H hH kH rH sH wH eH nH _ hH2 => ?_⟩⟩
      exact ih (m + 1) H hH2 (kG.trans kH) rH sH (eH.any rfl) (by omega)
  exact loop n.toNat 0 G hG kG ⟨cG, g2, Or.inl g5⟩ sG (eG.any rfl) (by omega)
end CL20
