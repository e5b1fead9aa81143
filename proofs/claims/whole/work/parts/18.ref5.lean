section REF5
variable {X : List Int32} {d : Nat} {F : XF}
noncomputable def mV (C : Prop) : Int := @ite Int C (Classical.propDecidable C) 1 0
theorem mV_t {C : Prop} (h : C) : mV C = 1 := by unfold mV; exact if_pos h
theorem mV_f {C : Prop} (h : ¬ C) : mV C = 0 := by unfold mV; exact if_neg h
theorem mV_b {C : Prop} : mB (mV C) C := by
  rcases Classical.em C with h | h
  · rw [mV_t h]; exact mB.i1 h
  · rw [mV_f h]; exact mB.i0 h
theorem mB.v {y : Int} {C : Prop} (h : mB y C) : y = mV C := by
  rcases h with h | h
  · rw [mV_t h.2]; exact h.1
  · rw [mV_f h.2]; exact h.1
theorem mV_01 {C : Prop} : mV C = 0 ∨ mV C = 1 := (mV_b (C := C)).z
/-- those who wait on a street: after who comes; whether one is served -/
noncomputable def mW0 (T : Int → Int) (x t : Int) (R : Int → Int) : Int := R (60 + 7 * x) + mV (0 < T (8 + 7 * x + 5) ∧ t % T (8 + 7 * x + 5) = 0)
noncomputable def mSv (T : Int → Int) (x t h : Int) (R : Int → Int) : Int := mV (h = 0 ∧ t % T (8 + 7 * x + 6) = 0 ∧ 0 < mW0 T x t R)
/-- a street behind a tick: held h, open o -/
noncomputable def mSt (T : Int → Int) (x t h o : Int) (R : Int → Int) (k : Int) : Int :=
  if k = 0 then mW0 T x t R - mSv T x t h R
  else if k = 1 then R (60 + 7 * x + 1) + (mW0 T x t R - mSv T x t h R)
  else if k = 2 then R (60 + 7 * x + 2) + mSv T x t h R
  else if k = 3 then max (R (60 + 7 * x + 3)) (mW0 T x t R)
  else if k = 4 then R (60 + 7 * x + 4) + h
  else if k = 5 then R (60 + 7 * x + 5) + mV (h = 1 ∧ o = 0)
  else if mSv T x t h R = 1 then max (R (60 + 7 * x + 6)) (t - R (60 + 7 * x + 2) * T (8 + 7 * x + 5)) else R (60 + 7 * x + 6)
theorem c241 {r t x at_ x5 h : Int} {w : Value} {G : XF} {Q : XF → Prop} (hG : xPT G) (hd : 1 < d) (hat : at_ = r + 60 + 7 * x) (hr : 0 ≤ r ∧ r ≤ 132) (hx : 0 ≤ x ∧ x < 10) (hX : mX (G 132) x) (ht : 0 ≤ t ∧ t ≤ 100000) (hh : h = 0 ∨ h = 1) (next : ∀ H, xPT H → (∀ p i, ¬ (p = 140 ∧ (i = at_ + 1 ∨ i = at_ + 4 ∨ i = at_ + 5)) → H p i = G p i) → H 140 (at_ + 1) = G 140 (at_ + 1) + G 140 at_ → H 140 (at_ + 4) = G 140 (at_ + 4) + h → H 140 (at_ + 5) = G 140 (at_ + 5) + mV (h = 1 ∧ mV (mOpn (G 132) x t) = 0) → xW X d 176 2 [.ref 131, vi r, vi t, vi (x + 1), vi at_, vi x5, vi h, w] [] H (xqv Q)) : xW X d 176 241 [.ref 131, vi r, vi t, vi x, vi at_, vi x5, vi h, w] [] G (xqv Q) := by
  have hX2 : ∀ u1 v1 u2 v2 : Int, mX (xup (xup G 140 u1 v1) 140 u2 v2 132) x := fun _ _ _ _ => by
    rw [show ∀ u1 v1 u2 v2 : Int, xup (xup G 140 u1 v1) 140 u2 v2 132 = G 132 from fun _ _ _ _ => by funext i; simp [xup]]
    exact hX
  refine s176_241 hG ⟨⟨by omega, by omega⟩, ⟨by omega, by omega⟩, ⟨by omega, by omega⟩, ⟨by omega, by omega⟩, ⟨by omega, by omega⟩, fun c => ⟨⟨by omega, by omega⟩, ⟨by omega, by omega⟩, ⟨by omega, by omega⟩, fun _ => ⟨⟨by omega, by omega⟩, fun hH => ?_⟩, fun c2 => absurd c c2⟩, fun c => ⟨⟨by omega, by omega⟩, ⟨by omega, by omega⟩, ⟨by omega, by omega⟩, fun c2 => absurd c2 c, fun _ => ⟨1, hd, p167 (by exact xPT_arr (xPT_arr hG (by decide)) (by decide)) (by omega) hx (hX2 _ _ _ _) ht fun y e => ⟨e.r, fun c2 => ⟨⟨by omega, by omega⟩, fun hH => ?_⟩, fun c2 => ⟨⟨by omega, by omega⟩, fun hH => ?_⟩⟩⟩⟩⟩
  · refine next _ hH (fun p i hn => ?_) ?_ ?_ ?_
    · simp only [xup]; rw [if_neg (by omega), if_neg (by omega), if_neg (by omega)]
    · simp only [xup]; rw [if_neg (by omega), if_neg (by omega), if_pos (by simp)]
    · simp only [xup]; rw [if_neg (by omega), if_pos (by simp)]; omega
    · simp only [xup]; rw [if_pos (by simp), mV_f (by omega)]
  · have ho := e.v
    rw [show ∀ u1 v1 u2 v2 : Int, xup (xup G 140 u1 v1) 140 u2 v2 132 = G 132 from fun _ _ _ _ => by funext i; simp [xup]] at ho
    refine next _ hH (fun p i hn => ?_) ?_ ?_ ?_
    · simp only [xup]; rw [if_neg (by omega), if_neg (by omega), if_neg (by omega)]
    · simp only [xup]; rw [if_neg (by omega), if_neg (by omega), if_pos (by simp)]
    · simp only [xup]; rw [if_neg (by omega), if_pos (by simp)]; omega
    · simp only [xup]; rw [if_pos (by simp), mV_f (by omega)]
  · have ho := e.v
    rw [show ∀ u1 v1 u2 v2 : Int, xup (xup G 140 u1 v1) 140 u2 v2 132 = G 132 from fun _ _ _ _ => by funext i; simp [xup]] at ho
    refine next _ hH (fun p i hn => ?_) ?_ ?_ ?_
    · simp only [xup]; rw [if_neg (by omega), if_neg (by omega), if_neg (by omega)]
    · simp only [xup]; rw [if_neg (by omega), if_neg (by omega), if_pos (by simp)]
    · simp only [xup]; rw [if_neg (by omega), if_pos (by simp)]; omega
    · simp only [xup]; rw [if_pos (by simp), mV_t (by omega)]
theorem c79 {r t x at_ x5 h : Int} {w : Value} {G : XF} {Q : XF → Prop} (hG : xPT G) (hat : at_ = r + 60 + 7 * x) (hr : 0 ≤ r ∧ r ≤ 132) (hx : 0 ≤ x ∧ x < 10) (hX : mX (G 132) x) (ht : 0 ≤ t ∧ t ≤ 100000) (hh : h = 0 ∨ h = 1) (hx5 : 0 ≤ x5 ∧ x5 ≤ 99) (b0 : 0 ≤ G 140 at_ ∧ G 140 at_ ≤ 100000) (b2 : 0 ≤ G 140 (at_ + 2) ∧ G 140 (at_ + 2) ≤ 100000) (b3 : 0 ≤ G 140 (at_ + 3) ∧ G 140 (at_ + 3) ≤ 100000) (b6 : 0 ≤ G 140 (at_ + 6) ∧ G 140 (at_ + 6) ≤ 100000) (next : ∀ H w2, xPT H → (∀ p i, ¬ (p = 140 ∧ (i = at_ ∨ i = at_ + 2 ∨ i = at_ + 3 ∨ i = at_ + 6)) → H p i = G p i) → H 140 at_ = G 140 at_ - mV (h = 0 ∧ t % G 132 (8 + 7 * x + 6) = 0 ∧ 0 < G 140 at_) → H 140 (at_ + 2) = G 140 (at_ + 2) + mV (h = 0 ∧ t % G 132 (8 + 7 * x + 6) = 0 ∧ 0 < G 140 at_) → H 140 (at_ + 3) = max (G 140 (at_ + 3)) (G 140 at_) → H 140 (at_ + 6) = (if mV (h = 0 ∧ t % G 132 (8 + 7 * x + 6) = 0 ∧ 0 < G 140 at_) = 1 then max (G 140 (at_ + 6)) (t - G 140 (at_ + 2) * x5) else G 140 (at_ + 6)) → xW X d 176 241 [.ref 131, vi r, vi t, vi x, vi at_, vi x5, vi h, w2] [] H (xqv Q)) : xW X d 176 79 [.ref 131, vi r, vi t, vi x, vi at_, vi x5, vi h, w] [] G (xqv Q) := by
  unfold mX at hX
  have hm := mmod (t := t) (c := G 132 (8 + 7 * x + 6)) (by omega)
  have hmul : 0 ≤ G 140 (at_ + 2) * x5 ∧ G 140 (at_ + 2) * x5 ≤ 9900000 := by
    refine ⟨Int.mul_nonneg b2.1 hx5.1, ?_⟩
    have := Int.mul_le_mul b2.2 hx5.2 hx5.1 (by omega)
    omega
  have A : ∀ v, xPT (xup G 140 (at_ + 3) v) → v = max (G 140 (at_ + 3)) (G 140 at_) → ¬ (h = 0 ∧ t % G 132 (8 + 7 * x + 6) = 0 ∧ 0 < G 140 at_) → xW X d 176 241 [.ref 131, vi r, vi t, vi x, vi at_, vi x5, vi h, w] [] (xup G 140 (at_ + 3) v) (xqv Q) := by
    intro v hH hv hn
    refine next _ w hH (fun p i hi => ?_) ?_ ?_ ?_ ?_
    · simp only [xup]; rw [if_neg (by omega)]
    · simp only [xup]; rw [if_neg (by omega), mV_f hn]; omega
    · simp only [xup]; rw [if_neg (by omega), mV_f hn]; omega
    · simp only [xup]; rw [if_pos (by simp)]; exact hv
    · simp only [xup]; rw [if_neg (by omega), mV_f hn, if_neg (by decide)]
  have B : ∀ v u w2, xPT (xup (xup (xup (xup G 140 (at_ + 3) v) 140 (at_ + 6) u) 140 at_ (G 140 at_ - 1)) 140 (at_ + 2) (G 140 (at_ + 2) + 1)) → v = max (G 140 (at_ + 3)) (G 140 at_) → u = max (G 140 (at_ + 6)) (t - G 140 (at_ + 2) * x5) → (h = 0 ∧ t % G 132 (8 + 7 * x + 6) = 0 ∧ 0 < G 140 at_) → xW X d 176 241 [.ref 131, vi r, vi t, vi x, vi at_, vi x5, vi h, w2] [] (xup (xup (xup (xup G 140 (at_ + 3) v) 140 (at_ + 6) u) 140 at_ (G 140 at_ - 1)) 140 (at_ + 2) (G 140 (at_ + 2) + 1)) (xqv Q) := by
    intro v u w2 hH hv hu hn
    refine next _ w2 hH (fun p i hi => ?_) ?_ ?_ ?_ ?_
    · simp only [xup]; rw [if_neg (by omega), if_neg (by omega), if_neg (by omega), if_neg (by omega)]
    · simp only [xup]; rw [if_neg (by omega), if_pos (by simp), mV_t hn]
    · simp only [xup]; rw [if_pos (by simp), mV_t hn]
    · simp only [xup]; rw [if_neg (by omega), if_neg (by omega), if_neg (by omega), if_pos (by simp)]; exact hv
    · simp only [xup]; rw [if_neg (by omega), if_neg (by omega), if_pos (by simp), mV_t hn, if_pos rfl]; exact hu
  refine s176_79 hG ⟨⟨by omega, by omega⟩, ⟨by omega, by omega⟩, ⟨by omega, by omega⟩, ⟨by omega, by omega⟩, fun c => ⟨⟨by omega, by omega⟩, ⟨by omega, by omega⟩, ⟨by omega, by omega⟩, fun c1 hH => A _ hH (by omega) (by omega), fun c1 => ⟨⟨by omega, by omega⟩, ⟨by omega, by omega⟩, ⟨by omega, by omega⟩, ⟨by omega, by omega⟩, fun c2 hH => A _ hH (by omega) (by omega), fun c2 => ⟨⟨by omega, by omega⟩, ⟨by omega, by omega⟩, fun c3 hH => A _ hH (by omega) (by omega), fun c3 => ⟨⟨by omega, by omega⟩, ⟨by omega, by omega⟩, ⟨by omega, by omega⟩, ⟨by omega, by omega⟩, fun c4 => ⟨⟨by omega, by omega⟩, ⟨by omega, by omega⟩, ⟨by omega, by omega⟩, ⟨by omega, by omega⟩, ⟨by omega, by omega⟩, ⟨by omega, by omega⟩, fun hH => B _ _ _ hH (by omega) (by omega) (by omega)⟩, fun c4 => ⟨⟨by omega, by omega⟩, ⟨by omega, by omega⟩, ⟨by omega, by omega⟩, ⟨by omega, by omega⟩, ⟨by omega, by omega⟩, fun hH => B _ _ _ hH (by omega) (by omega) (by omega)⟩⟩⟩⟩⟩, fun c => ⟨⟨by omega, by omega⟩, ⟨by omega, by omega⟩, ⟨by omega, by omega⟩, fun c1 hH => A _ hH (by omega) (by omega), fun c1 => ⟨⟨by omega, by omega⟩, ⟨by omega, by omega⟩, ⟨by omega, by omega⟩, ⟨by omega, by omega⟩, fun c2 hH => A _ hH (by omega) (by omega), fun c2 => ⟨⟨by omega, by omega⟩, ⟨by omega, by omega⟩, fun c3 hH => A _ hH (by omega) (by omega), fun c3 => ⟨⟨by omega, by omega⟩, ⟨by omega, by omega⟩, ⟨by omega, by omega⟩, ⟨by omega, by omega⟩, fun c4 => ⟨⟨by omega, by omega⟩, ⟨by omega, by omega⟩, ⟨by omega, by omega⟩, ⟨by omega, by omega⟩, ⟨by omega, by omega⟩, ⟨by omega, by omega⟩, fun hH => B _ _ _ hH (by omega) (by omega) (by omega)⟩, fun c4 => ⟨⟨by omega, by omega⟩, ⟨by omega, by omega⟩, ⟨by omega, by omega⟩, ⟨by omega, by omega⟩, ⟨by omega, by omega⟩, fun hH => B _ _ _ hH (by omega) (by omega) (by omega)⟩⟩⟩⟩⟩⟩
end REF5
