section CL25
variable {X : List Int32} {d : Nat} {F : XF}
variable {T : Int → Int} {t n : Nat} {Q : Int → XF → Prop}
theorem k126 {a e : Int} (hP : xPT F) (ha : inL a) (he : 0 ≤ e ∧ e ≤ 2000000000) (q : ∀ y, mB y (0 < e ∧ 9223372036854775807 / e < a) → Q y F) : xMI X d 126 [vl a, vi e] F Q := by
  refine m126 hP ⟨⟨by omega, by omega⟩, fun z _ => q 0 (mB.i0 fun w => by omega), fun z => ?_⟩
  have hd : 0 ≤ 9223372036854775807 / e ∧ 9223372036854775807 / e ≤ 9223372036854775807 := ⟨Int.ediv_nonneg (by omega) (by omega), Int.ediv_le_self _ (by omega)⟩
  refine ⟨⟨by omega, by omega⟩, ⟨by omega, by omega⟩, ⟨by omega, by omega⟩, ha, ⟨by omega, by omega⟩, xcmp_r, fun c _ => q 0 (mB.i0 fun w => ?_), fun c _ => q 1 (mB.i1 ⟨by omega, xcmp_gt.mp (by omega)⟩)⟩
  have := xcmp_gt.mpr w.2
  omega
theorem k125 {a b : Int} (hP : xPT F) (hd : 7 < d) (ha : inL a) (hb : inL b) (h : cO F t T) (q : cQ F t T Q (aPrice T a b)) : xML X d 125 [.ref 0, vl a, vl b] F Q := by
  have hT := h.2.2.2.1
  have h4 := hT.2.2.2.2.1
  have eb := mEnd_b (T := T)
  have wb := mWe_b hT
  have ew : mWs (mRun T (mLast T)) (T 4).toNat = mWe T := rfl
  unfold aPrice at q
  rw [ew] at q
  have q0 := fun v e => q.go (w := v) hP cAs.refl h e
  refine m125 hP ⟨ha, ⟨by omega, by omega⟩, xcmp_r, fun c _ => q0 _ (by rw [if_pos (Or.inl (xcmp_lt.mp c))]), fun c => ⟨hb, ⟨by omega, by omega⟩, xcmp_r, fun c1 => ⟨t, h.1, h.2.1, 7, hd, f20 hP (by omega) h fun G hG k o e1 e2 fn => ?_⟩, fun c1 _ => q0 _ (by rw [if_pos (Or.inr (xcmp_lt.mp (by omega)))])⟩⟩
  have c' : ¬ a < 0 := fun w => c (xcmp_lt.mpr w)
  have c1' : ¬ b < 0 := fun w => by have := xcmp_lt.mpr w; omega
  have qg := fun v e => q.go (w := v) hG k o e
  rw [e1]
  have n0 : ¬ (a < 0 ∨ b < 0) := by omega
  refine ⟨⟨by omega, by omega⟩, fun z => ⟨7, hd, k126 hG ha (by omega) fun y hy => ⟨hy.r, fun z1 _ => qg _ (by rw [if_neg n0, if_neg z, if_pos (Or.inl (hy.t z1))]), fun z1 => ?_⟩⟩, fun z _ => qg _ (by rw [if_neg n0, if_pos (by omega)])⟩
  have y1 : ¬ (0 < mEnd T ∧ 9223372036854775807 / mEnd T < a) := hy.f (by omega)
  rw [e2]
  refine ⟨7, hd, k126 hG hb (by omega) fun y2 hy2 => ⟨hy2.r, fun z2 => ?_, fun z2 _ => qg _ (by rw [if_neg n0, if_neg z, if_pos (Or.inr (hy2.t z2))])⟩⟩
  have y2' := hy2.f z2
  have g1 := mul_ok (show 0 ≤ a by omega) (show 0 ≤ mEnd T by omega) y1
  have g2 := mul_ok (show 0 ≤ b by omega) wb.1 y2'
  have nn : ¬ ((0 < mEnd T ∧ 9223372036854775807 / mEnd T < a) ∨ (0 < mWe T ∧ 9223372036854775807 / mWe T < b)) := by
    rintro (w | w)
    · exact y1 w
    · exact y2' w
  rw [e1, e2]
  refine ⟨⟨by omega, by omega⟩, ⟨by omega, by omega⟩, ⟨by omega, by omega⟩, ⟨by omega, by omega⟩, xcmp_r, fun z3 _ => qg _ ?_, fun z3 _ => qg _ ?_⟩
  · rw [if_neg n0, if_neg z, if_neg nn, if_neg (fun w => by have := xcmp_gt.mpr w; omega)]
  · rw [if_neg n0, if_neg z, if_neg nn, if_pos (xcmp_gt.mp (by omega))]
end CL25
