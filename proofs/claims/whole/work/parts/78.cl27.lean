section CL27
variable {X : List Int32} {d : Nat} {F : XF}
variable {T : Int → Int} {t : Nat} {Q : Int → XF → Prop}
theorem mWn_1 {x k k' : Int} : ∀ t : Nat, (mWn T x k t).1 = (mWn T x k' t).1
  | 0 => rfl
  | t + 1 => by
    have ih := mWn_1 (x := x) (k := k) (k' := k') t
    rw [mWn, mWn]
    by_cases a : mV (mOpn T x t) = 1
    · rw [if_pos a, if_pos a]
      by_cases b : (t : Int) = 0 ∨ mV (mOpn T x ((t : Int) - 1)) = 0
      · rw [if_pos b, if_pos b]
        show (mWn T x k t).1 + 1 = (mWn T x k' t).1 + 1
        rw [ih]
      · rw [if_neg b, if_neg b]; exact ih
    · rw [if_neg a, if_neg a]; exact ih
theorem mWn_a {x k : Int} (hX : mX T x) (al : mAlw T x) : ∀ t : Nat, (mWn T x k (t + 1)).1 = 0 ∧ (k = 0 → (mWn T x k (t + 1)).2.1 = 0 ∧ (mWn T x k (t + 1)).2.2 = (t : Int) + 1) := by
  unfold mX at hX
  have op : ∀ u : Int, mV (mOpn T x u) = 1 := fun u => mV_t (by
    have := mmod (t := u) (c := T (8 + 7 * x + 2)) (by omega)
    unfold mAlw at al
    unfold mOpn
    omega)
  intro t
  induction t with
  | zero =>
    rw [mWn, if_pos (op _), if_pos (show ((0 : Nat) : Int) = 0 ∨ _ from Or.inl rfl)]
    refine ⟨rfl, fun h => ?_⟩
    subst h
    exact ⟨rfl, rfl⟩
  | succ t ih =>
    rw [mWn, if_pos (op _), if_neg (by rw [op]; omega)]
    refine ⟨ih.1, fun h => ?_⟩
    have i2 := ih.2 h
    refine ⟨i2.1, ?_⟩
    show (if (mWn T x k (t + 1)).1 = k then (mWn T x k (t + 1)).2.2 + 1 else (mWn T x k (t + 1)).2.2) = _
    rw [if_pos (by omega), i2.2]
    omega
section CR
variable {o : Nat} {x : Int}
theorem k13 (ho : xob 1 o) (hX : mX T x) (hc : cCr F o T x) (hP : xPT F) (hd : 0 < d) (k : Int) (q : Q ((mWn T x k 2000).1 + 1) F) : xMI X d 13 [.ref o] F Q := by
  have hX' := hX
  unfold mX at hX'
  have hc' := hc
  obtain ⟨c0, c1, c2, c3, c4, c5, c6⟩ := hc'
  refine m13 hP ho ⟨0, hd, k7 ho hX hc hP fun y hy => ⟨hy.r, fun z _ => ?_, fun z => ?_⟩⟩
  · rw [(mWn_a (k := k) hX (hy.t z) 1999).1] at q
    exact q
  · rw [c2, c3]
    refine ⟨⟨by omega, by omega⟩, fun _ => ⟨⟨by omega, by omega⟩, ⟨by omega, by omega⟩, fun _ => ?_⟩, fun z1 => absurd (by omega) z1⟩
    obtain ⟨j, p, e, hj, hp, w, _⟩ := mWn_w (T := T) (x := x) (k := 0) rfl rfl rfl (by omega) (by omega) (fun w => hy.f (by omega) w) (by omega) 2000
    rw [mWn_1 (k := k) (k' := 0), w] at q
    have e2 : 2000 - T (8 + 7 * x + 3) + T (8 + 7 * x + 2) - 1 = (p - T (8 + 7 * x + 3) + T (8 + 7 * x + 2) - 1) + T (8 + 7 * x + 2) * j := by omega
    rw [e2, Int.add_mul_ediv_left _ _ (by omega)]
    by_cases u : T (8 + 7 * x + 3) < p
    · rw [if_pos u] at q
      have : (p - T (8 + 7 * x + 3) + T (8 + 7 * x + 2) - 1) / T (8 + 7 * x + 2) = 1 := by
        rw [show p - T (8 + 7 * x + 3) + T (8 + 7 * x + 2) - 1 = (p - T (8 + 7 * x + 3) - 1) + T (8 + 7 * x + 2) * 1 by omega, Int.add_mul_ediv_left _ _ (by omega), Int.ediv_eq_zero_of_lt (by omega) (by omega)]
        rfl
      rw [this, Int.add_comm]
      exact q
    · rw [if_neg u, show j - 1 + 1 = j by omega] at q
      rw [Int.ediv_eq_zero_of_lt (by omega) (by omega), Int.zero_add]
      exact q
theorem win_b {k : Int} (hX : mX T x) (na : ¬ mAlw T x) (hk : 0 ≤ k) (h : k ≤ (mWn T x k 2000).1) : (mWn T x k 2000).2.1 = k * T (8 + 7 * x + 2) + T (8 + 7 * x + 3) ∧ (mWn T x k 2000).2.2 = min (T (8 + 7 * x + 4) - T (8 + 7 * x + 3)) (2000 - (k * T (8 + 7 * x + 2) + T (8 + 7 * x + 3))) ∧ 0 ≤ k * T (8 + 7 * x + 2) + T (8 + 7 * x + 3) ∧ k * T (8 + 7 * x + 2) + T (8 + 7 * x + 3) ≤ 3000 := by
  unfold mX at hX
  obtain ⟨j, p, e, hj, hp, w, _, w3⟩ := mWn_w (T := T) (x := x) (k := k) rfl rfl rfl (by omega) (by omega) (fun w => na w) hk 2000
  have w4 := w3 h
  rw [Int.mul_comm k]
  have kj : k ≤ j := by
    rw [w] at h
    by_cases u : T (8 + 7 * x + 3) < p
    · rw [if_pos u] at h; exact h
    · rw [if_neg u] at h; omega
  have a := Int.mul_le_mul_of_nonneg_left kj (show 0 ≤ T (8 + 7 * x + 2) by omega)
  have b := Int.mul_nonneg (show 0 ≤ T (8 + 7 * x + 2) by omega) hk
  exact ⟨w4.1, w4.2, by omega, by omega⟩
end CR
end CL27
