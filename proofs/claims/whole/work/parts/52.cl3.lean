section CL3
variable {X : List Int32} {d : Nat} {F : XF}
section STREET
variable {T R : Int → Int} {o p : Nat} {x t h : Int} {Q : XF → Prop}
theorem k68 (hP : xPT F) (ho : xob 8 o) (q : ∀ G, xPT G → (∀ a i, ¬ a = o → G a i = F a i) → (∀ k, 0 ≤ k → k < 7 → G o k = 0) → Q G) : xMV X d 68 [.ref o] F Q := by
  refine m68 hP ho fun hG => q _ hG (fun a i z => by rw [xup_o z, xup_o z, xup_o z, xup_o z, xup_o z, xup_o z, xup_o z]) fun k a b => ?_
  rcases (show k = 0 ∨ k = 1 ∨ k = 2 ∨ k = 3 ∨ k = 4 ∨ k = 5 ∨ k = 6 by omega) with z | z | z | z | z | z | z <;> subst z <;> simp [xup]
theorem c69c (hP : xPT F) (hd : 1 < d) (ho : xob 8 o) (hp : xob 1 p) (hX : mX T x) (hc : cCr F p T x) (hne : ¬ p = o) (ht : 0 ≤ t ∧ t ≤ 100000) (hh : h = 0 ∨ h = 1) (q : ∀ G, xPT G → (∀ a i, ¬ (a = o ∧ (i = 1 ∨ i = 4 ∨ i = 5)) → G a i = F a i) → G o 1 = F o 1 + F o 0 → G o 4 = F o 4 + h → G o 5 = F o 5 + mV (h = 1 ∧ mV (mOpn T x t) = 0) → Q G) : xW X d 69 110 [.ref o, .ref p, vi t, vi h] [] F (xqv Q) := by
  refine s69_110 hP ho hp ⟨⟨by omega, by omega⟩, fun c hG => ?_, fun c => ⟨1, hd, ?_⟩⟩
  · refine q _ hG (fun a i z => xup_n (by omega)) xup_s ?_ ?_
    · rw [xup_i (by decide)]; omega
    · rw [xup_i (by decide), mV_f (by omega)]; omega
  · have hP2 : xPT (xup (xup F o 1 (F o 1 + F o 0)) o 4 (F o 4 + 1)) := xPT_fld (k := 4) (xPT_fld (k := 1) hP ho (by decide) (by decide)) ho (by decide) (by decide)
    have hc2 : cCr (xup (xup F o 1 (F o 1 + F o 0)) o 4 (F o 4 + 1)) p T x := by
      unfold cCr at *
      have e : ∀ i, xup (xup F o 1 (F o 1 + F o 0)) o 4 (F o 4 + 1) p i = F p i := fun i => by rw [xup_o hne, xup_o hne]
      rw [e, e, e, e, e, e, e]
      exact hc
    refine k9 hp hX hc2 hP2 (by omega) ht fun y hy => ⟨hy.r, fun c1 hG => ?_, fun c1 hG => ?_⟩
    · refine q _ hG (fun a i z => by rw [xup_n (by omega), xup_n (by omega)]) ?_ ?_ ?_
      · rw [xup_i (by decide), xup_s]
      · rw [xup_s]; omega
      · rw [xup_i (by decide), xup_i (by decide), mV_f (fun z => by have := hy.v; have := hy.z; omega)]; omega
    · refine q _ hG (fun a i z => by rw [xup_n (by omega), xup_n (by omega), xup_n (by omega)]) ?_ ?_ ?_
      · rw [xup_i (by decide), xup_i (by decide), xup_s]
      · rw [xup_i (by decide), xup_s]; omega
      · rw [xup_s, xup_i (by decide), xup_i (by decide), mV_t ⟨by omega, by have := hy.v; omega⟩]
theorem c69b (hP : xPT F) (hd : 1 < d) (ho : xob 8 o) (hp : xob 1 p) (hX : mX T x) (hc : cCr F p T x) (hne : ¬ p = o) (ht : 0 ≤ t ∧ t ≤ 100000) (hh : h = 0 ∨ h = 1) (b0 : 0 ≤ F o 0 ∧ F o 0 ≤ 100000) (b2 : 0 ≤ F o 2 ∧ F o 2 ≤ 100000) (b6 : 0 ≤ F o 6 ∧ F o 6 ≤ 100000) (q : ∀ G, xPT G → (∀ a i, ¬ (a = o ∧ (i = 0 ∨ i = 2 ∨ i = 6)) → G a i = F a i) → G o 0 = F o 0 - mV (h = 0 ∧ t % T (8 + 7 * x + 6) = 0 ∧ 0 < F o 0) → G o 2 = F o 2 + mV (h = 0 ∧ t % T (8 + 7 * x + 6) = 0 ∧ 0 < F o 0) → G o 6 = (if mV (h = 0 ∧ t % T (8 + 7 * x + 6) = 0 ∧ 0 < F o 0) = 1 then max (F o 6) (t - F o 2 * T (8 + 7 * x + 5)) else F o 6) → xW X d 69 110 [.ref o, .ref p, vi t, vi h] [] G (xqv Q)) : xW X d 69 41 [.ref o, .ref p, vi t, vi h] [] F (xqv Q) := by
  have hX' := hX
  unfold mX at hX'
  obtain ⟨c0, c1, c2, c3, c4, c5, c6⟩ := hc
  have hm := mmod (t := t) (c := T (8 + 7 * x + 6)) (by omega)
  have hmul : 0 ≤ F o 2 * T (8 + 7 * x + 5) ∧ F o 2 * T (8 + 7 * x + 5) ≤ 9900000 := by
    refine ⟨Int.mul_nonneg b2.1 (by omega), ?_⟩
    have := Int.mul_le_mul b2.2 (show T (8 + 7 * x + 5) ≤ 99 by omega) (by omega) (by omega)
    omega
  have no : ¬ (h = 0 ∧ t % T (8 + 7 * x + 6) = 0 ∧ 0 < F o 0) → xW X d 69 110 [.ref o, .ref p, vi t, vi h] [] F (xqv Q) := fun z => q F hP (fun _ _ _ => rfl) (by rw [mV_f z]; omega) (by rw [mV_f z]; omega) (by rw [mV_f z, if_neg (by decide)])
  refine s69_41 hP ho hp ?_
  rw [c6, c5]
  refine ⟨⟨by omega, by omega⟩, fun c _ => no (by omega), fun c => ⟨⟨by omega, by omega⟩, fun c1 _ => no (by omega), fun c1 => ⟨⟨by omega, by omega⟩, fun c2 => absurd c2 (by omega), fun _ => ⟨⟨by omega, by omega⟩, ⟨by omega, by omega⟩, ⟨by omega, by omega⟩, fun c3 _ => no (by omega), fun c3 => ⟨⟨by omega, by omega⟩, ⟨by omega, by omega⟩, fun hG => ?_⟩⟩⟩⟩⟩
  have yes : (h = 0 ∧ t % T (8 + 7 * x + 6) = 0 ∧ 0 < F o 0) := by omega
  refine q _ hG (fun a i z => by rw [xup_n (by omega), xup_n (by omega), xup_n (by omega)]) ?_ ?_ ?_
  · rw [xup_s, mV_t yes]
  · rw [xup_i (by decide), xup_s, mV_t yes]
  · rw [xup_i (by decide), xup_i (by decide), xup_s, mV_t yes, if_pos rfl]
theorem k69 (hP : xPT F) (hd : 1 < d) (ho : xob 8 o) (hp : xob 1 p) (hX : mX T x) (hc : cCr F p T x) (hne : ¬ p = o) (ht : 0 ≤ t ∧ t ≤ 10000) (hh : h = 0 ∨ h = 1) (hs : ∀ k, 0 ≤ k → k < 7 → F o k = R (60 + 7 * x + k)) (hb : 0 ≤ R (60 + 7 * x) ∧ R (60 + 7 * x) ≤ t ∧ 0 ≤ R (60 + 7 * x + 2) ∧ R (60 + 7 * x + 2) ≤ t ∧ R (60 + 7 * x) ≤ R (60 + 7 * x + 3) ∧ R (60 + 7 * x + 3) ≤ t ∧ 0 ≤ R (60 + 7 * x + 6) ∧ R (60 + 7 * x + 6) ≤ t) (q : ∀ G, xPT G → (∀ a i, ¬ a = o → G a i = F a i) → (∀ k, 0 ≤ k → k < 7 → G o k = mSt T x t h (mV (mOpn T x t)) R k) → Q G) : xMV X d 69 [.ref o, .ref p, vi t, vi h] F Q := by
  have hX' := hX
  unfold mX at hX'
  have s0 := hs 0 (by omega) (by omega)
  have s1 := hs 1 (by omega) (by omega)
  have s2 := hs 2 (by omega) (by omega)
  have s3 := hs 3 (by omega) (by omega)
  have s4 := hs 4 (by omega) (by omega)
  have s5 := hs 5 (by omega) (by omega)
  have s6 := hs 6 (by omega) (by omega)
  rw [Int.add_zero] at s0
  have c5 := hc.2.2.2.2.2.1
  -- from 41 on
  have fin : ∀ G, xPT G → (∀ a i, ¬ (a = o ∧ (i = 0 ∨ i = 3)) → G a i = F a i) → G o 0 = mW0 T x t R → G o 3 = max (R (60 + 7 * x + 3)) (mW0 T x t R) → xW X d 69 41 [.ref o, .ref p, vi t, vi h] [] G (xqv Q) := fun G hG k1 g0 g3 => by
    have w : 0 ≤ mW0 T x t R ∧ mW0 T x t R ≤ t + 1 := by
      unfold mW0
      have := mV_01 (C := 0 < T (8 + 7 * x + 5) ∧ t % T (8 + 7 * x + 5) = 0)
      omega
    have e : ∀ H : XF, (∀ i, H p i = F p i) → cCr H p T x := fun H z => by unfold cCr at *; rw [z, z, z, z, z, z, z]; exact hc
    refine c69b hG hd ho hp hX (e G fun i => k1 p i (by omega)) hne (by omega) hh (by rw [g0]; omega) (by rw [k1 o 2 (by omega), s2]; omega) (by rw [k1 o 6 (by omega), s6]; omega) fun H hH k2 h0 h2 h6 => ?_
    refine c69c hH hd ho hp hX (e H fun i => by rw [k2 p i (by omega), k1 p i (by omega)]) hne (by omega) hh fun K hK k3 j1 j4 j5 => q K hK (fun a i z => by rw [k3 a i (by omega), k2 a i (by omega), k1 a i (by omega)]) fun k a b => ?_
    have sv : mV (h = 0 ∧ t % T (8 + 7 * x + 6) = 0 ∧ 0 < G o 0) = mSv T x t h R := by unfold mSv; rw [g0]
    rw [sv] at h0 h2 h6
    rw [g0] at h0
    rw [k1 o 2 (by omega), s2] at h2 h6
    rw [k1 o 6 (by omega), s6] at h6
    unfold mSt
    rcases (show k = 0 ∨ k = 1 ∨ k = 2 ∨ k = 3 ∨ k = 4 ∨ k = 5 ∨ k = 6 by omega) with z | z | z | z | z | z | z
    · rw [if_pos z, z, k3 o 0 (by omega), h0]
    · rw [if_neg (by omega), if_pos z, z, j1, k2 o 1 (by omega), k1 o 1 (by omega), s1, h0]
    · rw [if_neg (by omega), if_neg (by omega), if_pos z, z, k3 o 2 (by omega), h2]
    · rw [if_neg (by omega), if_neg (by omega), if_neg (by omega), if_pos z, z, k3 o 3 (by omega), k2 o 3 (by omega), g3]
    · rw [if_neg (by omega), if_neg (by omega), if_neg (by omega), if_neg (by omega), if_pos z, z, j4, k2 o 4 (by omega), k1 o 4 (by omega), s4]
    · rw [if_neg (by omega), if_neg (by omega), if_neg (by omega), if_neg (by omega), if_neg (by omega), if_pos z, z, j5, k2 o 5 (by omega), k1 o 5 (by omega), s5]
    · rw [if_neg (by omega), if_neg (by omega), if_neg (by omega), if_neg (by omega), if_neg (by omega), if_neg (by omega), z, k3 o 6 (by omega), h6]
  have no : ¬ (0 < T (8 + 7 * x + 5) ∧ t % T (8 + 7 * x + 5) = 0) → xW X d 69 41 [.ref o, .ref p, vi t, vi h] [] F (xqv Q) := fun z => by
    have w : mW0 T x t R = R (60 + 7 * x) := by unfold mW0; rw [mV_f z]; omega
    exact fin F hP (fun _ _ _ => rfl) (by rw [w]; exact s0) (by rw [w, s3]; omega)
  refine m69 hP ho hp ?_
  rw [c5, s0, s3]
  refine ⟨⟨by omega, by omega⟩, fun c _ => no (by omega), fun c => ⟨⟨by omega, by omega⟩, ⟨by omega, by omega⟩, ?_, fun c1 _ => no (by omega), fun c1 => ⟨⟨by omega, by omega⟩, ⟨by omega, by omega⟩, fun hG => ?_⟩⟩⟩
  · have := mmod (t := t) (c := T (8 + 7 * x + 5)) (by omega)
    constructor <;> omega
  · have w : mW0 T x t R = R (60 + 7 * x) + 1 := by unfold mW0; rw [mV_t ⟨by omega, by omega⟩]
    exact fin _ hG (fun a i z => by rw [xup_n (by omega), xup_n (by omega)]) (by rw [xup_i (by decide), xup_s, w]) (by rw [xup_s, w])
end STREET
/-! a run at r on the town t -/
/-- so many crossings lie ahead of a front; so many ends ahead of a tail -/
def mNe (T : Int → Int) (f e : Int) : Prop := (0 ≤ e ∧ e ≤ T 4) ∧ (∀ i, 0 ≤ i → i < e → T (8 + 7 * i) < f) ∧ (∀ i, e ≤ i → i < T 4 → f ≤ T (8 + 7 * i))
def mNl (T : Int → Int) (g l : Int) : Prop := (0 ≤ l ∧ l ≤ T 4) ∧ (∀ i, 0 ≤ i → i < l → T (8 + 7 * i) + T (8 + 7 * i + 1) ≤ g) ∧ (∀ i, l ≤ i → i < T 4 → g < T (8 + 7 * i) + T (8 + 7 * i + 1))
/-- by how many of the first n sections a crossing is held -/
noncomputable def mCn (T : Int → Int) (S : Nat → Int → Int) (R : Int → Int) (i : Int) : Nat → Int
  | 0 => 0
  | n + 1 => mCn T S R i n + mV (mOn T R (S 2 n) (S 3 n) i)
theorem mCn_b {T : Int → Int} {S : Nat → Int → Int} {R : Int → Int} {i : Int} : ∀ n : Nat, 0 ≤ mCn T S R i n ∧ mCn T S R i n ≤ n ∧ (0 < mCn T S R i n ↔ ∃ s : Int, 0 ≤ s ∧ s < n ∧ mOn T R (S 2 s) (S 3 s) i)
  | 0 => by
    unfold mCn
    refine ⟨by omega, by omega, ⟨fun h => by omega, ?_⟩⟩
    rintro ⟨s, a, b, _⟩; omega
  | n + 1 => by
    obtain ⟨a, b, c⟩ := mCn_b (T := T) (S := S) (R := R) (i := i) n
    unfold mCn
    have v := mV_b (C := mOn T R (S 2 n) (S 3 n) i)
    have v01 := v.z
    refine ⟨by omega, by omega, ⟨fun h => ?_, ?_⟩⟩
    · by_cases q : 0 < mCn T S R i n
      · obtain ⟨s, x, y, z⟩ := c.mp q
        exact ⟨s, x, by omega, z⟩
      · exact ⟨n, by omega, by omega, v.t (by omega)⟩
    · rintro ⟨s, x, y, z⟩
      by_cases q : s = n
      · subst q
        rw [mV_t z]; omega
      · have := c.mpr ⟨s, x, by omega, z⟩
        omega
theorem mCn_h {T : Int → Int} {R : Int → Int} {i : Int} (hT : mT T) : 0 < mCn T (mS T) R i (mS T 0 0).toNat ↔ mHeld T (mS T) R i := by
  have b := (mS_b hT).1
  rw [(mCn_b (mS T 0 0).toNat).2.2]
  unfold mHeld
  constructor
  · rintro ⟨s, x, y, z⟩; exact ⟨s, x, by omega, z⟩
  · rintro ⟨s, x, y, z⟩; exact ⟨s, x, by omega, z⟩
end CL3
