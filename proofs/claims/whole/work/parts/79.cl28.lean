section CL28
variable {X : List Int32} {d : Nat} {F : XF}
variable {T : Int → Int} {t : Nat} {Q : Int → XF → Prop}
theorem k111 {x k w : Int} (hP : xPT F) (hd : 2 < d) (hx : inR x) (hk : inR k) (hw : inR w) (h : cO F t T) (q : Q (aWindow T x k w) F) : xMI X d 111 [.ref 0, vi x, vi k, vi w] F Q := by
  have hT := h.2.2.2.1
  have h4 := hT.2.2.2.2.1
  have hX := hT.2.2.2.2.2.2.2.2.1
  have go : ∀ v, aWindow T x k w = v → Q v F := fun v e => by rw [← e]; exact q
  unfold aWindow at go
  refine m111 hP ⟨2, hd, k129 hP hx h fun y hy => ⟨hy.r, fun z => ?_, fun z _ => go _ (by rw [if_neg (hy.f (by omega))])⟩⟩
  have a := hy.t z
  have xx := hX x a.1 a.2
  have xx' := xx
  unfold mX at xx'
  have cx := h.2.2.2.2.2.1.2.1 x a.1 a.2
  have ob := cX_ob h.2.1 a.1 (show x < 10 by omega)
  have cx' := cx
  obtain ⟨c0, c1, c2, c3, c4, c5, c6⟩ := cx'
  refine ⟨t, h.1, h.2.1, by omega, hk, fun z1 => ⟨hw, fun z2 _ => go _ (by rw [if_pos a, if_neg z1, if_neg (by omega)]), fun z2 => ⟨hw, fun z3 => ⟨hk, fun z4 => ⟨2, hd, k13 ob xx cx hP (by omega) k ?_⟩, fun z4 _ => go _ (by rw [if_pos a, if_neg z1, if_pos (by omega), if_pos (by omega)])⟩, fun z3 _ => go _ (by rw [if_pos a, if_neg z1, if_neg (by omega)])⟩⟩, fun z1 => ⟨2, hd, k13 ob xx cx hP (by omega) k fun _ => go _ (by rw [if_pos a, if_pos (by omega)])⟩⟩
  have nb : -1 ≤ (mWn T x k 2000).1 ∧ (mWn T x k 2000).1 ≤ 2000 := by
    by_cases al : mAlw T x
    · rw [(mWn_a (k := k) xx al 1999).1]; omega
    · obtain ⟨j, p, e, hj, hp, w, _⟩ := mWn_w (T := T) (x := x) (k := 0) rfl rfl rfl (by omega) (by omega) (fun w => al w) (by omega) 2000
      have jl := Int.mul_le_mul_of_nonneg_right (show 1 ≤ T (8 + 7 * x + 2) by omega) hj
      rw [Int.one_mul] at jl
      rw [mWn_1 (k := k) (k' := 0), w]
      by_cases u : T (8 + 7 * x + 3) < p
      · rw [if_pos u]; omega
      · rw [if_neg u]; omega
  refine ⟨hk, ⟨by omega, by omega⟩, fun z5 => ⟨hw, fun z6 => ⟨2, hd, m15 hP ob ⟨1, by omega, k7 ob xx cx hP fun y2 hy2 => ⟨hy2.r, fun z7 => ⟨1, by omega, m14 hP ob fun _ => ?_⟩, fun z7 _ => ?_⟩⟩⟩, fun z6 => ⟨2, hd, m14 hP ob fun _ => ?_⟩⟩, fun z5 _ => go _ (by rw [if_pos a, if_neg z1, if_pos (by omega), if_neg (by omega), if_pos (by omega)])⟩
  · have wn := win_b (k := k) xx (hy2.f z7) (by omega) (by omega)
    rw [c2, c3, c4]
    exact ⟨⟨by omega, by omega⟩, ⟨by omega, by omega⟩, fun _ => fun _ => go _ (by rw [if_pos a, if_neg z1, if_pos (by omega), if_neg (by omega), if_neg (by omega), if_neg z6, wn.2.1])⟩
  · have wa : (mWn T x k 2000).1 = 0 ∧ (k = 0 → (mWn T x k 2000).2.1 = 0 ∧ (mWn T x k 2000).2.2 = ((1999 : Nat) : Int) + 1) := mWn_a (k := k) xx (hy2.t z7) 1999
    have k0 : k = 0 := by
      have := wa.1
      omega
    have w22 := (wa.2 k0).2
    intro _
    exact go _ (by rw [if_pos a, if_neg z1, if_pos (by omega), if_neg (by omega), if_neg (by omega), if_neg z6, w22]; decide)
  · rw [c2, c3]
    by_cases al : mAlw T x
    · have wa : (mWn T x k 2000).1 = 0 ∧ (k = 0 → (mWn T x k 2000).2.1 = 0 ∧ (mWn T x k 2000).2.2 = ((1999 : Nat) : Int) + 1) := mWn_a (k := k) xx al 1999
      have k0 : k = 0 := by
        have := wa.1
        omega
      have w21 := (wa.2 k0).1
      unfold mAlw at al
      rw [k0, al.1, Int.zero_mul]
      rw [k0] at w21 go
      intro _
      exact go _ (by rw [if_pos a, if_neg (by omega), if_pos (by omega), if_neg (by omega), if_neg (by rw [← k0]; omega), if_pos (by omega), w21]; decide)
    · have wn := win_b (k := k) xx al (by omega) (by omega)
      exact fun _ => go _ (by rw [if_pos a, if_neg z1, if_pos (by omega), if_neg (by omega), if_neg (by omega), if_pos (by omega), wn.1])
end CL28
