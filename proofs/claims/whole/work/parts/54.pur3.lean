section PUR3
/-! sections: a car lies between its section's lead and last -/
theorem mL_c {T : Int → Int} : ∀ k : Nat, (∀ c : Int, 0 ≤ c → c < k → mL T k 2 (mL T k 1 c) ≤ c ∧ c ≤ mL T k 3 (mL T k 1 c)) ∧ (∀ s, 0 ≤ s → s < mL T k 0 0 → mL T k 1 (mL T k 2 s) = s ∧ mL T k 1 (mL T k 3 s) = s ∧ 0 ≤ mL T k 2 s ∧ mL T k 2 s < k ∧ 0 ≤ mL T k 3 s ∧ mL T k 3 s < k) ∧ (∀ c : Int, 0 ≤ c → c < k → 0 ≤ mL T k 1 c ∧ mL T k 1 c < mL T k 0 0) ∧ 0 ≤ mL T k 0 0 ∧ (0 < k → 1 ≤ mL T k 0 0)
  | 0 => ⟨fun c a b => by omega, fun s a b => by simp [mL] at b; omega, fun c a b => by omega, by simp [mL], by omega⟩
  | k + 1 => by
    obtain ⟨h1, h2, h3, h4, h5⟩ := mL_c (T := T) k
    by_cases hc : k = 0 ∨ T (108 + (k : Int) - 1) = 1
    · simp only [mL, if_pos hc]
      refine ⟨fun c a b => ?_, fun s a b => ?_, fun c a b => ?_, by omega, by omega⟩
      · by_cases e : c = k
        · rw [if_pos e, if_pos rfl, if_pos rfl]; omega
        · have q := h1 c a (by omega)
          have p := h3 c a (by omega)
          rw [if_neg e, if_neg (by omega), if_neg (by omega)]; exact q
      · by_cases e : s = mL T k 0 0
        · rw [if_pos e, if_pos e, if_pos rfl]; omega
        · have q := h2 s a (by omega)
          rw [if_neg e, if_neg e, if_neg (by omega), if_neg (by omega)]; omega
      · by_cases e : c = k
        · rw [if_pos e]; omega
        · have p := h3 c a (by omega)
          rw [if_neg e]; omega
    · simp only [mL, if_neg hc]
      have k0 : 0 < k := by omega
      have n1 := h5 k0
      refine ⟨fun c a b => ?_, fun s a b => ?_, fun c a b => ?_, by omega, by omega⟩
      · by_cases e : c = k
        · have q := h2 (mL T k 0 0 - 1) (by omega) (by omega)
          rw [if_pos e, if_pos rfl]; omega
        · have q := h1 c a (by omega)
          have p := h3 c a (by omega)
          rw [if_neg e]
          by_cases g : mL T k 1 c = mL T k 0 0 - 1
          · rw [if_pos g]; omega
          · rw [if_neg g]; exact q
      · have q := h2 s a (by omega)
        by_cases e : s = mL T k 0 0 - 1
        · rw [if_pos e, if_pos rfl, if_neg (by omega)]; omega
        · rw [if_neg e, if_neg (by omega), if_neg (by omega)]; omega
      · by_cases e : c = k
        · rw [if_pos e]; omega
        · have p := h3 c a (by omega)
          rw [if_neg e]; omega
theorem mS_c {T : Int → Int} (hT : mT T) : (∀ c, 0 ≤ c → c < T 5 → mS T 2 (mS T 1 c) ≤ c ∧ c ≤ mS T 3 (mS T 1 c)) ∧ (∀ s, 0 ≤ s → s < mS T 0 0 → mS T 1 (mS T 2 s) = s ∧ mS T 1 (mS T 3 s) = s) := by
  have h5 := hT.2.2.2.2.2.1
  have h := mL_c (T := T) (T 5).toNat
  exact ⟨fun c a b => h.1 c a (by omega), fun s a b => ⟨(h.2.1 s a b).1, (h.2.1 s a b).2.1⟩⟩
/-- behind a car that isn't out -/
theorem mJ_le {T R : Int → Int} (hT : mT T) (hJ : mJ T R) {a : Int} (ha : 0 ≤ a) (hn : R a - T (78 + a) < T 0) : ∀ (n : Nat), a + n < T 5 → R (a + n) ≤ R a ∧ R (a + n) - T (78 + (a + n)) < T 0
  | 0, h => by rw [show a + ((0 : Nat) : Int) = a by omega]; omega
  | n + 1, h => by
    have hT' := hT
    obtain ⟨h0, _, h2, _, _, h5, _, _, _, _, hl, _⟩ := hT'
    have ih := mJ_le hT hJ ha hn n (by omega)
    have c := hJ.2.1 (a + n + 1) (by omega) (by omega)
    rw [show a + (n : Int) + 1 - 1 = a + n by omega] at c
    have l := hl (a + n) (by omega) (by omega)
    have l2 := hl (a + n + 1) (by omega) (by omega)
    rw [show a + ((n + 1 : Nat) : Int) = a + n + 1 by omega]
    omega
theorem mJ_l2 {T R : Int → Int} (hT : mT T) (hJ : mJ T R) {a b : Int} (ha : 0 ≤ a) (hn : R a - T (78 + a) < T 0) (hab : a ≤ b) (hb : b < T 5) : R b ≤ R a ∧ R b - T (78 + b) < T 0 := by
  have := mJ_le hT hJ ha hn (b - a).toNat (by omega)
  rw [show a + (((b - a).toNat : Nat) : Int) = b by omega] at this
  exact this
/-! how many crossings are ahead of a front -/
theorem mNe_x {T : Int → Int} (hT : mT T) (f : Int) : ∃ e, mNe T f e := by
  have hT' := hT
  obtain ⟨_, _, _, _, h4, _, _, _, hX, hO, _⟩ := hT'
  have key : ∀ n : Nat, (n : Int) ≤ T 4 → ∃ e : Int, (0 ≤ e ∧ e ≤ n) ∧ (∀ i, 0 ≤ i → i < e → T (8 + 7 * i) < f) ∧ (∀ i, e ≤ i → i < n → f ≤ T (8 + 7 * i)) := by
    intro n
    induction n with
    | zero => intro _; exact ⟨0, by omega, fun i a b => by omega, fun i a b => by omega⟩
    | succ n ih =>
      intro hn
      obtain ⟨e, a, b, c⟩ := ih (by omega)
      by_cases q : T (8 + 7 * (n : Int)) < f
      · refine ⟨n + 1, by omega, fun i p r => ?_, fun i p r => by omega⟩
        by_cases hi : i = n
        · rw [hi]; exact q
        · have := hO i n p (by omega) (by omega)
          have := hX i p (by omega)
          unfold mX at this
          omega
      · refine ⟨e, by omega, b, fun i p r => ?_⟩
        by_cases hi : i = n
        · rw [hi]; omega
        · exact c i p (by omega)
  obtain ⟨e, a, b, c⟩ := key (T 4).toNat (by omega)
  exact ⟨e, by omega, b, fun i p r => c i p (by omega)⟩
theorem mNl_x {T : Int → Int} (hT : mT T) (g : Int) : ∃ l, mNl T g l := by
  have hT' := hT
  obtain ⟨_, _, _, _, h4, _, _, _, hX, hO, _⟩ := hT'
  have key : ∀ n : Nat, (n : Int) ≤ T 4 → ∃ e : Int, (0 ≤ e ∧ e ≤ n) ∧ (∀ i, 0 ≤ i → i < e → T (8 + 7 * i) + T (8 + 7 * i + 1) ≤ g) ∧ (∀ i, e ≤ i → i < n → g < T (8 + 7 * i) + T (8 + 7 * i + 1)) := by
    intro n
    induction n with
    | zero => intro _; exact ⟨0, by omega, fun i a b => by omega, fun i a b => by omega⟩
    | succ n ih =>
      intro hn
      obtain ⟨e, a, b, c⟩ := ih (by omega)
      by_cases q : T (8 + 7 * (n : Int)) + T (8 + 7 * (n : Int) + 1) ≤ g
      · refine ⟨n + 1, by omega, fun i p r => ?_, fun i p r => by omega⟩
        by_cases hi : i = n
        · rw [hi]; exact q
        · have := hO i n p (by omega) (by omega)
          have := hX n (by omega) (by omega)
          unfold mX at this
          omega
      · refine ⟨e, by omega, b, fun i p r => ?_⟩
        by_cases hi : i = n
        · rw [hi]; omega
        · exact c i p (by omega)
  obtain ⟨e, a, b, c⟩ := key (T 4).toNat (by omega)
  exact ⟨e, by omega, b, fun i p r => c i p (by omega)⟩
theorem mNe_m {T : Int → Int} {f g e e' : Int} (a : mNe T f e) (b : mNe T g e') (h : f ≤ g) : e ≤ e' := by
  apply Classical.byContradiction
  intro hq
  have x := a.2.1 e' b.1.1 (by omega)
  have y := b.2.2 e' (by omega) (by have := a.1; omega)
  omega
theorem mNl_m {T : Int → Int} {f g e e' : Int} (a : mNl T f e) (b : mNl T g e') (h : f ≤ g) : e ≤ e' := by
  apply Classical.byContradiction
  intro hq
  have x := a.2.1 e' b.1.1 (by omega)
  have y := b.2.2 e' (by omega) (by have := a.1; omega)
  omega
theorem mNle {T : Int → Int} (hT : mT T) {f g e l : Int} (a : mNe T f e) (b : mNl T g l) (h : g < f) : l ≤ e := by
  have hX := hT.2.2.2.2.2.2.2.2.1
  apply Classical.byContradiction
  intro hq
  have hb := b.1
  have ha := a.1
  have x := b.2.1 e ha.1 (by omega)
  have y := a.2.2 e (by omega) (by omega)
  have := hX e ha.1 (by omega)
  unfold mX at this
  omega
/-! one section changes -/
theorem mCn_o {T : Int → Int} {S : Nat → Int → Int} {R R' : Int → Int} {i : Int} : ∀ n : Nat, (∀ e : Int, 0 ≤ e → e < n → (mOn T R' (S 2 e) (S 3 e) i ↔ mOn T R (S 2 e) (S 3 e) i)) → mCn T S R' i n = mCn T S R i n
  | 0, _ => rfl
  | n + 1, h => by
    unfold mCn
    rw [mCn_o n (fun e a b => h e a (by omega)), propext (h n (by omega) (by omega))]
theorem mCn_s {T : Int → Int} {S : Nat → Int → Int} {R R' : Int → Int} {i s : Int} (hs : 0 ≤ s) : ∀ n : Nat, s < n → (∀ e : Int, 0 ≤ e → e < n → ¬ e = s → (mOn T R' (S 2 e) (S 3 e) i ↔ mOn T R (S 2 e) (S 3 e) i)) → mCn T S R' i n = mCn T S R i n + mV (mOn T R' (S 2 s) (S 3 s) i) - mV (mOn T R (S 2 s) (S 3 s) i)
  | 0, h, _ => by omega
  | n + 1, h, ho => by
    unfold mCn
    by_cases q : s = n
    · subst q
      rw [mCn_o n (fun e a b => ho e a (by omega) (by omega))]
      omega
    · rw [mCn_s hs n (by omega) (fun e a b c => ho e a (by omega) c), propext (ho n (by omega) (by omega) (by omega))]
      omega
/-! events that don't come -/
theorem mTl_0 {T : Int → Int} {ld la g c s f t : Int} : ∀ (n : Nat) (x : Int) (E : Int → Int), (∀ y, x ≤ y → y < x + n → ¬ (ld = c ∧ f ≤ T (8 + 7 * y) ∧ T (8 + 7 * y) < g) ∧ ¬ (la = c ∧ f - T (78 + c) < T (8 + 7 * y) + T (8 + 7 * y + 1) ∧ T (8 + 7 * y) + T (8 + 7 * y + 1) ≤ g - T (78 + c))) → mTl T ld la g c s f t n x E = E
  | 0, x, E, _ => rfl
  | n + 1, x, E, h => by
    have a := h x (by omega) (by omega)
    unfold mTl
    rw [if_neg a.1, if_neg a.2]
    exact mTl_0 n (x + 1) E fun y p q => h y (by omega) (by omega)
theorem mTl_a {T : Int → Int} {ld la g c s f t : Int} : ∀ (m n : Nat) (x : Int) (E : Int → Int), mTl T ld la g c s f t (m + n) x E = mTl T ld la g c s f t n (x + m) (mTl T ld la g c s f t m x E)
  | 0, n, x, E => by
    rw [show 0 + n = n by omega, show x + ((0 : Nat) : Int) = x by omega]
    rfl
  | m + 1, n, x, E => by
    rw [show m + 1 + n = (m + n) + 1 by omega]
    have e := mTl_a (T := T) (ld := ld) (la := la) (g := g) (c := c) (s := s) (f := f) (t := t) m n (x + 1) (if la = c ∧ f - T (78 + c) < T (8 + 7 * x) + T (8 + 7 * x + 1) ∧ T (8 + 7 * x) + T (8 + 7 * x + 1) ≤ g - T (78 + c) then
      mHap (if ld = c ∧ f ≤ T (8 + 7 * x) ∧ T (8 + 7 * x) < g then mHap E 0 t x s else E) 1 t x s
     else (if ld = c ∧ f ≤ T (8 + 7 * x) ∧ T (8 + 7 * x) < g then mHap E 0 t x s else E))
    rw [show x + 1 + (m : Int) = x + ((m + 1 : Nat) : Int) by omega] at e
    exact e
/-- a car goes on to g: what stays -/
def mTo (R : Int → Int) (c g o : Int) : Int → Int := fun i => if i = 131 then o else if i = c then g else R i
/-- who is on a crossing, as a car goes on to g -/
theorem mOn_go {T R : Int → Int} (hT : mT T) (hJ : mJ T R) {c g o : Int} (hc : 0 ≤ c ∧ c < T 5) (hn : R c - T (78 + c) < T 0) (hg : R c < g) (hch : 0 < c → R (c - 1) - T (78 + (c - 1)) < T 0 → g ≤ R (c - 1) - T (78 + (c - 1)) - T 2) {e0 e1 l0 l1 : Int} (he : mS T 2 (mS T 1 c) = c → mNe T (R c) e0 ∧ mNe T g e1) (hl : mS T 3 (mS T 1 c) = c → mNl T (R c - T (78 + c)) l0 ∧ mNl T (g - T (78 + c)) l1) {j : Int} (hj : 0 ≤ j ∧ j < T 4) : mCn T (mS T) (mTo R c g o) j (mS T 0 0).toNat = mCn T (mS T) R j (mS T 0 0).toNat + (if mS T 2 (mS T 1 c) = c ∧ e0 ≤ j ∧ j < e1 then 1 else 0) - (if mS T 3 (mS T 1 c) = c ∧ l0 ≤ j ∧ j < l1 then 1 else 0) := by
  have hT' := hT
  obtain ⟨h0, _, h2, _, h4, h5, _, _, hX, hO, hL, _⟩ := hT'
  have sb := mS_b hT
  have sc := mS_c hT
  have s1 := sb.2.2.1 c hc.1 hc.2
  have s2 := sb.2.2.2 (mS T 1 c) s1.1 s1.2
  have cc := sc.1 c hc.1 hc.2
  have Xj := hX j hj.1 hj.2
  unfold mX at Xj
  have lc := hL c hc.1 hc.2
  have at_c : mTo R c g o c = g := by unfold mTo; rw [if_neg (by omega), if_pos rfl]
  have at_o : ∀ i, 0 ≤ i → i < 30 → ¬ i = c → mTo R c g o i = R i := fun i a b d => by unfold mTo; rw [if_neg (by omega), if_neg d]
  rw [mCn_s (s := mS T 1 c) s1.1 (mS T 0 0).toNat (by omega) (R := R) (R' := mTo R c g o) (fun e a b d => ?_)]
  · have ldn : ¬ mS T 2 (mS T 1 c) = c → mTo R c g o (mS T 2 (mS T 1 c)) = R (mS T 2 (mS T 1 c)) := fun z => at_o _ (by omega) (by omega) z
    have lan : ¬ mS T 3 (mS T 1 c) = c → mTo R c g o (mS T 3 (mS T 1 c)) = R (mS T 3 (mS T 1 c)) := fun z => at_o _ (by omega) (by omega) z
    by_cases q2 : mS T 2 (mS T 1 c) = c
    · obtain ⟨a0, a1⟩ := he q2
      have m := mNe_m a0 a1 (by omega)
      have u0 : T (8 + 7 * j) < R c ↔ j < e0 := ⟨fun z => by
        apply Classical.byContradiction; intro y
        have := a0.2.2 j (by omega) hj.2; omega, fun z => a0.2.1 j hj.1 z⟩
      have u1 : T (8 + 7 * j) < g ↔ j < e1 := ⟨fun z => by
        apply Classical.byContradiction; intro y
        have := a1.2.2 j (by omega) hj.2; omega, fun z => a1.2.1 j hj.1 z⟩
      by_cases q3 : mS T 3 (mS T 1 c) = c
      · obtain ⟨b0, b1⟩ := hl q3
        have n := mNl_m b0 b1 (by omega)
        have le0 := mNle hT a0 b0 (by omega)
        have le1 := mNle hT a1 b1 (by omega)
        have v0 : R c - T (78 + c) < T (8 + 7 * j) + T (8 + 7 * j + 1) ↔ ¬ j < l0 := ⟨fun z y => by have := b0.2.1 j hj.1 y; omega, fun z => b0.2.2 j (by omega) hj.2⟩
        have v1 : g - T (78 + c) < T (8 + 7 * j) + T (8 + 7 * j + 1) ↔ ¬ j < l1 := ⟨fun z y => by have := b1.2.1 j hj.1 y; omega, fun z => b1.2.2 j (by omega) hj.2⟩
        have w1 : mOn T (mTo R c g o) (mS T 2 (mS T 1 c)) (mS T 3 (mS T 1 c)) j ↔ (j < e1 ∧ ¬ j < l1) := by
          unfold mOn
          rw [q2, q3, at_c, u1, v1]
        have w0 : mOn T R (mS T 2 (mS T 1 c)) (mS T 3 (mS T 1 c)) j ↔ (j < e0 ∧ ¬ j < l0) := by
          unfold mOn
          rw [q2, q3, u0, v0]
        rw [propext w1, propext w0]
        by_cases y1 : j < e1 ∧ ¬ j < l1 <;> by_cases y0 : j < e0 ∧ ¬ j < l0
        · rw [mV_t y1, mV_t y0, if_neg (by omega), if_neg (by omega)] <;> omega
        · rw [mV_t y1, mV_f y0, if_pos (by omega), if_neg (by omega)] <;> omega
        · rw [mV_f y1, mV_t y0, if_neg (by omega), if_pos (by omega)] <;> omega
        · rw [mV_f y1, mV_f y0]
          by_cases z : mS T 2 (mS T 1 c) = c ∧ e0 ≤ j ∧ j < e1
          · rw [if_pos z, if_pos (by omega)] <;> omega
          · rw [if_neg z, if_neg (by omega)] <;> omega
      · have w1 : mOn T (mTo R c g o) (mS T 2 (mS T 1 c)) (mS T 3 (mS T 1 c)) j ↔ (j < e1 ∧ R (mS T 3 (mS T 1 c)) - T (78 + mS T 3 (mS T 1 c)) < T (8 + 7 * j) + T (8 + 7 * j + 1)) := by
          unfold mOn
          rw [lan q3, q2, at_c, u1]
        have w0 : mOn T R (mS T 2 (mS T 1 c)) (mS T 3 (mS T 1 c)) j ↔ (j < e0 ∧ R (mS T 3 (mS T 1 c)) - T (78 + mS T 3 (mS T 1 c)) < T (8 + 7 * j) + T (8 + 7 * j + 1)) := by
          unfold mOn
          rw [q2, u0]
        rw [propext w1, propext w0, if_neg (show ¬ (mS T 3 (mS T 1 c) = c ∧ l0 ≤ j ∧ j < l1) by omega)]
        have bl := mJ_l2 hT hJ hc.1 hn cc.2 (by omega)
        have ll := hL (mS T 3 (mS T 1 c)) (by omega) (by omega)
        by_cases y : j < e0
        · rw [if_neg (by omega)]
          have : (j < e1 ∧ R (mS T 3 (mS T 1 c)) - T (78 + mS T 3 (mS T 1 c)) < T (8 + 7 * j) + T (8 + 7 * j + 1)) ↔ (j < e0 ∧ R (mS T 3 (mS T 1 c)) - T (78 + mS T 3 (mS T 1 c)) < T (8 + 7 * j) + T (8 + 7 * j + 1)) := by omega
          rw [propext this]; omega
        · rw [mV_f (C := j < e0 ∧ _) (fun z => y z.1)]
          have p := a0.2.2 j (by omega) hj.2
          by_cases y1 : j < e1
          · rw [mV_t ⟨y1, by omega⟩, if_pos (by omega)] <;> omega
          · rw [mV_f (fun z => y1 z.1), if_neg (by omega)] <;> omega
    · by_cases q3 : mS T 3 (mS T 1 c) = c
      · obtain ⟨b0, b1⟩ := hl q3
        have n := mNl_m b0 b1 (by omega)
        have v0 : R c - T (78 + c) < T (8 + 7 * j) + T (8 + 7 * j + 1) ↔ ¬ j < l0 := ⟨fun z y => by have := b0.2.1 j hj.1 y; omega, fun z => b0.2.2 j (by omega) hj.2⟩
        have v1 : g - T (78 + c) < T (8 + 7 * j) + T (8 + 7 * j + 1) ↔ ¬ j < l1 := ⟨fun z y => by have := b1.2.1 j hj.1 y; omega, fun z => b1.2.2 j (by omega) hj.2⟩
        have w1 : mOn T (mTo R c g o) (mS T 2 (mS T 1 c)) (mS T 3 (mS T 1 c)) j ↔ (T (8 + 7 * j) < R (mS T 2 (mS T 1 c)) ∧ ¬ j < l1) := by
          unfold mOn
          rw [ldn q2, q3, at_c, v1]
        have w0 : mOn T R (mS T 2 (mS T 1 c)) (mS T 3 (mS T 1 c)) j ↔ (T (8 + 7 * j) < R (mS T 2 (mS T 1 c)) ∧ ¬ j < l0) := by
          unfold mOn
          rw [q3, v0]
        rw [propext w1, propext w0, if_neg (show ¬ (mS T 2 (mS T 1 c) = c ∧ e0 ≤ j ∧ j < e1) by omega)]
        -- the lead is ahead
        have ahead : j < l1 → T (8 + 7 * j) < R (mS T 2 (mS T 1 c)) := fun y => by
          have p := b1.2.1 j hj.1 y
          by_cases out : R (mS T 2 (mS T 1 c)) - T (78 + mS T 2 (mS T 1 c)) < T 0
          · have b := mJ_l2 hT hJ (a := mS T 2 (mS T 1 c)) (b := c - 1) (by omega) out (by omega) (by omega)
            have := hch (by omega) b.2
            have := hL (c - 1) (by omega) (by omega)
            omega
          · have := hL (mS T 2 (mS T 1 c)) (by omega) (by omega)
            omega
        by_cases y1 : j < l1
        · have p := ahead y1
          rw [mV_f (C := T (8 + 7 * j) < R (mS T 2 (mS T 1 c)) ∧ ¬ j < l1) (fun z => z.2 y1)]
          by_cases y0 : j < l0
          · rw [mV_f (fun z => z.2 y0), if_neg (by omega)] <;> omega
          · rw [mV_t ⟨p, y0⟩, if_pos (by omega)] <;> omega
        · rw [if_neg (by omega)]
          have : (T (8 + 7 * j) < R (mS T 2 (mS T 1 c)) ∧ ¬ j < l1) ↔ (T (8 + 7 * j) < R (mS T 2 (mS T 1 c)) ∧ ¬ j < l0) := by omega
          rw [propext this]; omega
      · have w1 : mOn T (mTo R c g o) (mS T 2 (mS T 1 c)) (mS T 3 (mS T 1 c)) j ↔ mOn T R (mS T 2 (mS T 1 c)) (mS T 3 (mS T 1 c)) j := by
          unfold mOn
          rw [ldn q2, lan q3]
        rw [propext w1, if_neg (show ¬ (mS T 3 (mS T 1 c) = c ∧ l0 ≤ j ∧ j < l1) by omega), if_neg (show ¬ (mS T 2 (mS T 1 c) = c ∧ e0 ≤ j ∧ j < e1) by omega)]
        omega
  · have se := sb.2.2.2 e a (by omega)
    have sce := sc.2 e a (by omega)
    have n2 : ¬ mS T 2 e = c := fun z => d (by rw [← sce.1, z])
    have n3 : ¬ mS T 3 e = c := fun z => d (by rw [← sce.2, z])
    unfold mOn
    rw [at_o _ (by omega) (by omega) n2, at_o _ (by omega) (by omega) n3]
end PUR3
