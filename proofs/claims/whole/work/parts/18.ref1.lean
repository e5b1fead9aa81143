/-! the reference: what is told is F 132, the run F 140, the sections F 136 .. F 139 and F 131 17 -/
section REF1
variable {X : List Int32} {d : Nat} {F : XF}
/-- a crossing as it is told -/
def mX (T : Int → Int) (x : Int) : Prop := 0 ≤ T (8 + 7 * x) ∧ 1 ≤ T (8 + 7 * x + 1) ∧ T (8 + 7 * x) + T (8 + 7 * x + 1) ≤ T 0 ∧ 1 ≤ T (8 + 7 * x + 2) ∧ T (8 + 7 * x + 2) ≤ 200 ∧ 0 ≤ T (8 + 7 * x + 3) ∧ T (8 + 7 * x + 3) < T (8 + 7 * x + 4) ∧ T (8 + 7 * x + 4) ≤ T (8 + 7 * x + 2) ∧ 0 ≤ T (8 + 7 * x + 5) ∧ T (8 + 7 * x + 5) ≤ 99 ∧ 1 ≤ T (8 + 7 * x + 6) ∧ T (8 + 7 * x + 6) ≤ 20 ∧ T (8 + 7 * x + 1) ≤ 50
/-- what is told keeps the document's bounds -/
def mT (T : Int → Int) : Prop := (10 ≤ T 0 ∧ T 0 ≤ 1000) ∧ (1 ≤ T 1 ∧ T 1 ≤ 50) ∧ (0 ≤ T 2 ∧ T 2 ≤ 50) ∧ (0 ≤ T 3 ∧ T 3 ≤ 999) ∧ (0 ≤ T 4 ∧ T 4 ≤ 10) ∧ (0 ≤ T 5 ∧ T 5 ≤ 30) ∧ (0 ≤ T 6 ∧ T 6 ≤ 4) ∧ (0 ≤ T 7 ∧ T 7 ≤ 7) ∧ (∀ x, 0 ≤ x → x < T 4 → mX T x) ∧ (∀ x y, 0 ≤ x → x < y → y < T 4 → T (8 + 7 * x) + T (8 + 7 * x + 1) ≤ T (8 + 7 * y)) ∧ (∀ c, 0 ≤ c → c < T 5 → 1 ≤ T (78 + c) ∧ T (78 + c) ≤ 30) ∧ (∀ c, 0 ≤ c → c < 30 → T (108 + c) = 0 ∨ T (108 + c) = 1) ∧ (∀ k, 0 ≤ k → k < T 6 → 1 ≤ T (138 + k) ∧ T (138 + k) ≤ T 0) ∧ (∀ k, 0 ≤ k → k < T 7 → 0 ≤ T (142 + 3 * k) ∧ T (142 + 3 * k) < T 5 ∧ 0 ≤ T (142 + 3 * k + 1) ∧ T (142 + 3 * k + 1) ≤ 1999 ∧ 1 ≤ T (142 + 3 * k + 2) ∧ T (142 + 3 * k + 2) ≤ 500)
theorem xcmp_r {x y : Int} : inR (xcmp x y) := by
  unfold xcmp
  by_cases h : y < x
  · rw [if_pos h]; constructor <;> omega
  · rw [if_neg h]
    by_cases h2 : x = y
    · rw [if_pos h2]; constructor <;> omega
    · rw [if_neg h2]; constructor <;> omega
theorem xcmp_lt {x y : Int} : xcmp x y < 0 ↔ x < y := by
  unfold xcmp
  by_cases h : y < x
  · rw [if_pos h]; omega
  · rw [if_neg h]
    by_cases h2 : x = y
    · rw [if_pos h2]; omega
    · rw [if_neg h2]; omega
theorem xcmp_gt {x y : Int} : 0 < xcmp x y ↔ y < x := by
  unfold xcmp
  by_cases h : y < x
  · rw [if_pos h]; omega
  · rw [if_neg h]
    by_cases h2 : x = y
    · rw [if_pos h2]; omega
    · rw [if_neg h2]; omega
/-- what a boolean says -/
def mB (y : Int) (C : Prop) : Prop := (y = 1 ∧ C) ∨ (y = 0 ∧ ¬ C)
theorem mB.t {y : Int} {C : Prop} (h : mB y C) (e : ¬ y = 0) : C := by
  rcases h with h | h
  · exact h.2
  · exact absurd h.1 e
theorem mB.f {y : Int} {C : Prop} (h : mB y C) (e : y = 0) : ¬ C := by
  rcases h with h | h
  · have := h.1; omega
  · exact h.2
theorem mB.r {y : Int} {C : Prop} (h : mB y C) : inR y := by
  rcases h with h | h <;> have := h.1 <;> constructor <;> omega
theorem mB.z {y : Int} {C : Prop} (h : mB y C) : y = 0 ∨ y = 1 := by
  rcases h with h | h <;> have := h.1 <;> omega
theorem mB.i1 {C : Prop} (h : C) : mB 1 C := Or.inl ⟨rfl, h⟩
theorem mB.i0 {C : Prop} (h : ¬ C) : mB 0 C := Or.inr ⟨rfl, h⟩
theorem p132 {v lo hi : Int} {Q : Int → XF → Prop} (hP : xPT F) (h : inL v ∧ inL lo ∧ inL hi) (q : ∀ y, mB y (lo ≤ v ∧ v ≤ hi) → Q y F) : xMI X d 132 [vl v, vl lo, vl hi] F Q := by
  refine m132 hP ⟨h.1, h.2.1, xcmp_r, fun c => fun _ => q _ ?_, fun c => ⟨h.1, h.2.2, xcmp_r, fun c2 _ => q _ ?_, fun c2 _ => q _ ?_⟩⟩
  · have := xcmp_lt.mp c
    unfold mB; omega
  · have := xcmp_gt.mp c2
    unfold mB; omega
  · have a1 : ¬ v < lo := fun h => c (xcmp_lt.mpr h)
    have a2 : ¬ hi < v := fun h => c2 (xcmp_gt.mpr h)
    unfold mB; omega
theorem p154 {Q : Int → XF → Prop} (hP : xPT F) (q : Q (F 132 5) F) : xMI X d 154 [.ref 131] F Q := m154 hP fun _ => q
theorem p155 {c : Int} {Q : Int → XF → Prop} (hP : xPT F) (hd : 0 < d) (hc : inR c) (h5 : 0 ≤ F 132 5 ∧ F 132 5 ≤ 30) (q : ∀ y, mB y (0 ≤ c ∧ c < F 132 5) → Q y F) : xMI X d 155 [.ref 131, vi c] F Q := by
  refine m155 hP ⟨hc, 0, hd, p154 hP ⟨⟨by omega, by omega⟩, 0, hd, p132 hP ⟨⟨by omega, by omega⟩, ⟨by omega, by omega⟩, ⟨by omega, by omega⟩⟩ fun y h => ⟨h.z, fun _ => q y (by unfold mB at *; omega)⟩⟩⟩
theorem p164 {x : Int} {Q : Int → XF → Prop} (hP : xPT F) (hx : 0 ≤ x ∧ x < 10) (q : Q (F 132 (8 + 7 * x)) F) : xMI X d 164 [.ref 131, vi x] F Q := m164 hP ⟨⟨by omega, by omega⟩, fun _ => q⟩
theorem p165 {x : Int} {Q : Int → XF → Prop} (hP : xPT F) (hx : 0 ≤ x ∧ x < 10) (q : Q (F 132 (8 + 7 * x + 1)) F) : xMI X d 165 [.ref 131, vi x] F Q := m165 hP ⟨⟨by omega, by omega⟩, fun _ => q⟩
/-- for how many ticks a section of such an extent needs a crossing -/
def mNeed (T : Int → Int) (e x : Int) : Int := (T (8 + 7 * x + 1) + e + T 1 - 1) / T 1
theorem p166 {s x : Int} {Q : Int → XF → Prop} (hP : xPT F) (hd : 0 < d) (hx : 0 ≤ x ∧ x < 10) (hs : 0 ≤ s ∧ s < 30) (h1 : 1 ≤ F 132 1 ∧ F 132 1 ≤ 50) (hw : 0 ≤ F 132 (8 + 7 * x + 1) ∧ F 132 (8 + 7 * x + 1) ≤ 1000) (he : 0 ≤ F 139 s ∧ F 139 s ≤ 100000) (q : Q (mNeed (F 132) (F 139 s) x) F) : xMI X d 166 [.ref 131, vi s, vi x] F Q := by
  refine m166 hP ⟨0, hd, p165 hP hx ⟨hs, ⟨by omega, by omega⟩, ⟨by omega, by omega⟩, fun _ => q⟩⟩
def mAlw (T : Int → Int) (x : Int) : Prop := T (8 + 7 * x + 3) = 0 ∧ T (8 + 7 * x + 4) = T (8 + 7 * x + 2)
def mOpn (T : Int → Int) (x t : Int) : Prop := T (8 + 7 * x + 3) ≤ t % T (8 + 7 * x + 2) ∧ t % T (8 + 7 * x + 2) ≤ T (8 + 7 * x + 4) - 1
def mMay (T : Int → Int) (e x t : Int) : Prop := mAlw T x ∨ mOpn T x t ∧ t % T (8 + 7 * x + 2) + mNeed T e x ≤ T (8 + 7 * x + 4)
theorem p168 {x : Int} {Q : Int → XF → Prop} (hP : xPT F) (hx : 0 ≤ x ∧ x < 10) (hX : mX (F 132) x) (q : ∀ y, mB y (mAlw (F 132) x) → Q y F) : xMI X d 168 [.ref 131, vi x] F Q := by
  unfold mX at hX
  refine m168 hP ⟨⟨by omega, by omega⟩, ⟨by omega, by omega⟩, fun c _ => q _ (by unfold mB mAlw; omega), fun c => ⟨⟨by omega, by omega⟩, ⟨by omega, by omega⟩, ⟨by omega, by omega⟩, ⟨by omega, by omega⟩, fun c2 _ => q _ (by unfold mB mAlw; omega), fun c2 _ => q _ (by unfold mB mAlw; omega)⟩⟩
theorem mmod {t c : Int} (h : 1 ≤ c) : 0 ≤ t % c ∧ t % c < c := ⟨Int.emod_nonneg _ (by omega), Int.emod_lt_of_pos _ (by omega)⟩
theorem p167 {x t : Int} {Q : Int → XF → Prop} (hP : xPT F) (hd : 0 < d) (hx : 0 ≤ x ∧ x < 10) (hX : mX (F 132) x) (ht : 0 ≤ t ∧ t ≤ 100000) (q : ∀ y, mB y (mOpn (F 132) x t) → Q y F) : xMI X d 167 [.ref 131, vi x, vi t] F Q := by
  unfold mX at hX
  have hm := mmod (t := t) (c := F 132 (8 + 7 * x + 2)) (by omega)
  refine m167 hP ⟨⟨by omega, by omega⟩, ⟨by omega, by omega⟩, ⟨by omega, by omega⟩, ⟨by omega, by omega⟩, ⟨by omega, by omega⟩, ⟨by omega, by omega⟩, ⟨by omega, by omega⟩, ⟨by omega, by omega⟩, 0, hd, p132 hP ⟨⟨by omega, by omega⟩, ⟨by omega, by omega⟩, ⟨by omega, by omega⟩⟩ fun y h => ⟨h.z, fun _ => q y h⟩⟩
theorem mNeed_b {T : Int → Int} {e x : Int} (h1 : 1 ≤ T 1) (hw : 0 ≤ T (8 + 7 * x + 1) ∧ T (8 + 7 * x + 1) ≤ 1000) (he : 0 ≤ e ∧ e ≤ 100000) : 0 ≤ mNeed T e x ∧ mNeed T e x ≤ 102000 := by
  unfold mNeed
  constructor
  · exact Int.ediv_nonneg (by omega) (by omega)
  · refine Int.le_trans (Int.ediv_le_ediv (by omega) (show T (8 + 7 * x + 1) + e + T 1 - 1 ≤ 101000 * T 1 from ?_)) ?_
    · have : 101000 ≤ 101000 * T 1 := by omega
      omega
    · rw [Int.mul_ediv_cancel _ (by omega)]; omega
theorem p169 {s x t : Int} {Q : Int → XF → Prop} (hP : xPT F) (hd : 1 < d) (hx : 0 ≤ x ∧ x < 10) (hX : mX (F 132) x) (ht : 0 ≤ t ∧ t ≤ 100000) (h1 : 1 ≤ F 132 1 ∧ F 132 1 ≤ 50) (hs : 0 ≤ s ∧ s < 30) (he : 0 ≤ F 139 s ∧ F 139 s ≤ 100000) (q : ∀ y, mB y (mMay (F 132) (F 139 s) x t) → Q y F) : xMI X d 169 [.ref 131, vi s, vi x, vi t] F Q := by
  have hX' := hX
  unfold mX at hX'
  have hm := mmod (t := t) (c := F 132 (8 + 7 * x + 2)) (by omega)
  have hn := mNeed_b (T := F 132) (e := F 139 s) (x := x) h1.1 ⟨by omega, by omega⟩ he
  refine m169 hP ⟨1, hd, p168 hP hx hX fun y1 e1 => ⟨e1.r, fun c _ => q 1 (mB.i1 (Or.inl (e1.t c))), fun c => ⟨1, hd, p167 hP (by omega) hx hX ht fun y2 e2 => ⟨e2.r, fun c2 _ => q 0 (mB.i0 ?_), fun c2 => ⟨⟨by omega, by omega⟩, ⟨by omega, by omega⟩, ⟨by omega, by omega⟩, 1, hd, p166 hP (by omega) hx hs h1 ⟨by omega, by omega⟩ he ⟨⟨by omega, by omega⟩, ⟨by omega, by omega⟩, ⟨by omega, by omega⟩, fun c3 _ => q 0 (mB.i0 ?_), fun c3 _ => q 1 (mB.i1 ?_)⟩⟩⟩⟩⟩⟩
  · rintro (h | h)
    · exact e1.f (by omega) h
    · exact e2.f c2 h.1
  · rintro (h | h)
    · exact e1.f (by omega) h
    · omega
  · exact Or.inr ⟨e2.t c2, by omega⟩
theorem p171 {r c : Int} {Q : Int → XF → Prop} (hP : xPT F) (hr : 0 ≤ r ∧ r ≤ 132) (hc : 0 ≤ c ∧ c < 30) (q : Q (F 140 (r + c) - F 132 (78 + c)) F) : xMI X d 171 [.ref 131, vi r, vi c] F Q := m171 hP ⟨⟨by omega, by omega⟩, ⟨by omega, by omega⟩, fun _ => q⟩
theorem p172 {r c : Int} {Q : Int → XF → Prop} (hP : xPT F) (hd : 0 < d) (hr : 0 ≤ r ∧ r ≤ 132) (hc : 0 ≤ c ∧ c < 30) (hb : inR (F 140 (r + c) - F 132 (78 + c)) ∧ inR (F 132 0)) (q : ∀ y, mB y (F 132 0 ≤ F 140 (r + c) - F 132 (78 + c)) → Q y F) : xMI X d 172 [.ref 131, vi r, vi c] F Q :=
  m172 hP ⟨0, hd, p171 hP hr hc ⟨hb.1, hb.2, fun c _ => q _ (mB.i0 (by omega)), fun c _ => q _ (mB.i1 (by omega))⟩⟩
end REF1
