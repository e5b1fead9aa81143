section CL26
variable {X : List Int32} {d : Nat} {F : XF}
variable {T : Int → Int}
/-- the windows ahead of tick t = C * j + p, if it isn't always open -/
theorem mWn_w {x k C o z : Int} (hC : T (8 + 7 * x + 2) = C) (ho : T (8 + 7 * x + 3) = o) (hz : T (8 + 7 * x + 4) = z) (h1 : 1 ≤ C) (h2 : 0 ≤ o ∧ o < z ∧ z ≤ C) (na : ¬ (o = 0 ∧ z = C)) (hk : 0 ≤ k) : ∀ t : Nat, ∃ j p : Int, (t : Int) = C * j + p ∧ 0 ≤ j ∧ (0 ≤ p ∧ p < C) ∧ (mWn T x k t).1 = (if o < p then j else j - 1) ∧ ((mWn T x k t).1 < k → (mWn T x k t).2.2 = 0) ∧ (k ≤ (mWn T x k t).1 → (mWn T x k t).2.1 = C * k + o ∧ (mWn T x k t).2.2 = min (z - o) (t - (C * k + o)))
  | 0 => ⟨0, 0, by rw [Int.mul_zero]; rfl, by omega, by omega, by rw [if_neg (by omega)]; rfl, fun _ => rfl, fun h => by have : (mWn T x k 0).1 = -1 := rfl; omega⟩
  | t + 1 => by
    obtain ⟨j, p, e, hj, hp, w1, w2, w3⟩ := mWn_w (k := k) hC ho hz h1 h2 na hk t
    have md : (t : Int) % C = p := by
      rw [e, Int.add_comm, Int.add_mul_emod_self_left, Int.emod_eq_of_lt hp.1 hp.2]
    have op : mOpn T x t ↔ (o ≤ p ∧ p ≤ z - 1) := by
      unfold mOpn
      rw [hC, ho, hz, md]
    have nx : ∃ j' p' : Int, ((t + 1 : Nat) : Int) = C * j' + p' ∧ 0 ≤ j' ∧ (0 ≤ p' ∧ p' < C) ∧ ((p' = p + 1 ∧ j' = j) ∨ (p' = 0 ∧ p = C - 1 ∧ j' = j + 1)) := by
      by_cases u : p + 1 < C
      · exact ⟨j, p + 1, by omega, hj, by omega, Or.inl ⟨rfl, rfl⟩⟩
      · exact ⟨j + 1, 0, by rw [Int.mul_add, Int.mul_one]; omega, by omega, by omega, Or.inr ⟨rfl, by omega, rfl⟩⟩
    obtain ⟨j', p', e', hj', hp', cs⟩ := nx
    refine ⟨j', p', e', hj', hp', ?_⟩
    have kj : k < j → C * k + C ≤ C * j := fun u => by
      have := Int.mul_le_mul_of_nonneg_left (show k + 1 ≤ j by omega) (show 0 ≤ C by omega)
      rw [Int.mul_add, Int.mul_one] at this
      exact this
    have step : mWn T x k (t + 1) = if mV (mOpn T x t) = 1 then (if (t : Int) = 0 ∨ mV (mOpn T x ((t : Int) - 1)) = 0 then ((mWn T x k t).1 + 1, if (mWn T x k t).1 + 1 = k then (t : Int) else (mWn T x k t).2.1, if (mWn T x k t).1 + 1 = k then (mWn T x k t).2.2 + 1 else (mWn T x k t).2.2) else ((mWn T x k t).1, (mWn T x k t).2.1, if (mWn T x k t).1 = k then (mWn T x k t).2.2 + 1 else (mWn T x k t).2.2)) else mWn T x k t := by rw [mWn]
    have ct : ((t + 1 : Nat) : Int) = (t : Int) + 1 := by omega
    rw [step, ct]
    by_cases u : o ≤ p ∧ p ≤ z - 1
    · rw [if_pos (mV_t (op.mpr u))]
      by_cases b : p = o
      · have beg : (t : Int) = 0 ∨ mV (mOpn T x ((t : Int) - 1)) = 0 := by
          by_cases t0 : (t : Int) = 0
          · exact Or.inl t0
          · refine Or.inr (mV_f fun w => ?_)
            unfold mOpn at w
            rw [hC, ho, hz] at w
            by_cases o0 : o = 0
            · have : ((t : Int) - 1) % C = C - 1 := by
                have e2 : (t : Int) - 1 = (C - 1) + C * (j - 1) := by rw [Int.mul_sub, Int.mul_one]; omega
                rw [e2, Int.add_mul_emod_self_left, Int.emod_eq_of_lt (by omega) (by omega)]
              rw [this] at w
              omega
            · have : ((t : Int) - 1) % C = p - 1 := by
                have e2 : (t : Int) - 1 = (p - 1) + C * j := by omega
                rw [e2, Int.add_mul_emod_self_left, Int.emod_eq_of_lt (by omega) (by omega)]
              rw [this] at w
              omega
        rw [if_pos beg]
        dsimp only
        rw [if_neg (by omega)] at w1
        rw [w1] at w2 w3 ⊢
        rw [show j - 1 + 1 = j by omega]
        refine ⟨by rcases cs with c | c; rw [if_pos (by omega)]; omega; rw [if_neg (by omega)]; omega, fun v => ?_, fun v => ?_⟩
        · rw [if_neg (by omega)]; exact w2 (by omega)
        · by_cases kk : j = k
          · have z0 := w2 (by omega)
            rw [if_pos kk, if_pos kk, z0, ← kk]
            exact ⟨by omega, by omega⟩
          · have := w3 (by omega)
            have := kj (by omega)
            rw [if_neg kk, if_neg kk]
            exact ⟨by omega, by omega⟩
      · have nb : ¬ ((t : Int) = 0 ∨ mV (mOpn T x ((t : Int) - 1)) = 0) := by
          have cj : 0 ≤ C * j := Int.mul_nonneg (by omega) hj
          have md2 : ((t : Int) - 1) % C = p - 1 := by
            have e2 : (t : Int) - 1 = (p - 1) + C * j := by omega
            rw [e2, Int.add_mul_emod_self_left, Int.emod_eq_of_lt (by omega) (by omega)]
          have : mOpn T x ((t : Int) - 1) := by
            unfold mOpn
            rw [hC, ho, hz, md2]
            omega
          rw [mV_t this]
          omega
        rw [if_neg nb]
        dsimp only
        rw [if_pos (by omega)] at w1
        rw [w1] at w2 w3 ⊢
        refine ⟨by rcases cs with c | c; rw [if_pos (by omega)]; omega; rw [if_neg (by omega)]; omega, fun v => ?_, fun v => ?_⟩
        · rw [if_neg (by omega)]; exact w2 v
        · have w4 := w3 v
          by_cases kk : j = k
          · rw [if_pos kk]
            rw [← kk] at w4 ⊢
            exact ⟨w4.1, by omega⟩
          · have := kj (by omega)
            rw [if_neg kk]
            exact ⟨w4.1, by omega⟩
    · rw [if_neg (by rw [mV_f (fun w => u (op.mp w))]; decide)]
      refine ⟨?_, w2, fun v => ?_⟩
      · rw [w1]
        rcases cs with c | c
        · by_cases v : o < p
          · rw [if_pos v, if_pos (by omega)]; omega
          · rw [if_neg v, if_neg (by omega)]; omega
        · by_cases v : o < p
          · rw [if_pos v, if_neg (by omega)]; omega
          · omega
      · have w4 := w3 v
        refine ⟨w4.1, ?_⟩
        by_cases kk : k < j
        · have := kj kk
          omega
        · have : k = j := by
            rw [w1] at v
            by_cases y : o < p
            · rw [if_pos y] at v; omega
            · rw [if_neg y] at v; omega
          rw [this] at w4 ⊢
          by_cases y : o < p
          · omega
          · rw [w1, if_neg y] at v; omega
end CL26
