section REF3
variable {X : List Int32} {d : Nat} {F : XF}
/-- the sections of the first k cars: 0 how many; 1 of a car; 2 lead, 3 last, 4 extent of a section -/
def mL (T : Int → Int) : Nat → Nat → Int → Int
  | 0 => fun _ _ => 0
  | k + 1 => fun j i =>
    if k = 0 ∨ T (108 + (k : Int) - 1) = 1 then
      match j with
      | 0 => mL T k 0 0 + 1
      | 1 => if i = k then mL T k 0 0 else mL T k 1 i
      | 2 => if i = mL T k 0 0 then k else mL T k 2 i
      | 3 => if i = mL T k 0 0 then k else mL T k 3 i
      | _ => if i = mL T k 0 0 then T (78 + (k : Int)) else mL T k 4 i
    else
      match j with
      | 0 => mL T k 0 0
      | 1 => if i = k then mL T k 0 0 - 1 else mL T k 1 i
      | 2 => mL T k 2 i
      | 3 => if i = mL T k 0 0 - 1 then k else mL T k 3 i
      | _ => if i = mL T k 0 0 - 1 then mL T k 4 i + (T (78 + (k : Int)) + T 2) else mL T k 4 i
theorem mL_b {T : Int → Int} (hT : mT T) : ∀ k : Nat, (k : Int) ≤ T 5 → (0 ≤ mL T k 0 0 ∧ mL T k 0 0 ≤ k) ∧ (0 < k → 1 ≤ mL T k 0 0) ∧ (∀ c : Int, 0 ≤ c → c < k → 0 ≤ mL T k 1 c ∧ mL T k 1 c < mL T k 0 0) ∧ (∀ s, 0 ≤ s → s < mL T k 0 0 → 0 ≤ mL T k 2 s ∧ mL T k 2 s < k ∧ 0 ≤ mL T k 3 s ∧ mL T k 3 s < k ∧ 1 ≤ mL T k 4 s ∧ mL T k 4 s ≤ 80 * k) := by
  obtain ⟨_, _, h2, _, _, h5, _, _, _, _, hl, _⟩ := hT
  intro k
  induction k with
  | zero => intro _; refine ⟨⟨by simp [mL], by simp [mL]⟩, by omega, fun c a b => by omega, fun s a b => by simp [mL] at b; omega⟩
  | succ k ih =>
    intro hk
    obtain ⟨⟨i1, i2⟩, i3, i4, i5⟩ := ih (by omega)
    have hlk := hl k (by omega) (by omega)
    by_cases hc : k = 0 ∨ T (108 + (k : Int) - 1) = 1
    · simp only [mL, if_pos hc]
      refine ⟨⟨by omega, by omega⟩, fun _ => by omega, fun c a b => ?_, fun s a b => ?_⟩
      · by_cases hq : c = k
        · rw [if_pos hq]; omega
        · rw [if_neg hq]; have := i4 c a (by omega); omega
      · by_cases hq : s = mL T k 0 0
        · rw [if_pos hq, if_pos hq, if_pos hq]; omega
        · rw [if_neg hq, if_neg hq, if_neg hq]; have := i5 s a (by omega); omega
    · simp only [mL, if_neg hc]
      have hk0 : 0 < k := by omega
      have := i3 hk0
      refine ⟨⟨by omega, by omega⟩, fun _ => by omega, fun c a b => ?_, fun s a b => ?_⟩
      · by_cases hq : c = k
        · rw [if_pos hq]; omega
        · rw [if_neg hq]; have := i4 c a (by omega); omega
      · have := i5 s a (by omega)
        by_cases hq : s = mL T k 0 0 - 1
        · rw [if_pos hq, if_pos hq]; omega
        · rw [if_neg hq, if_neg hq]; omega
/-- the reference's sections are those of the first k cars -/
def mSA (k : Nat) (F : XF) : Prop := F 131 17 = mL (F 132) k 0 0 ∧ (∀ c : Int, 0 ≤ c → c < k → F 136 c = mL (F 132) k 1 c) ∧ (∀ s, 0 ≤ s → s < mL (F 132) k 0 0 → F 137 s = mL (F 132) k 2 s ∧ F 138 s = mL (F 132) k 3 s ∧ F 139 s = mL (F 132) k 4 s)
/-- all but the sections is as it was -/
def mSK (F G : XF) : Prop := (∀ p i, ¬ p = 131 → ¬ p = 136 → ¬ p = 137 → ¬ p = 138 → ¬ p = 139 → G p i = F p i) ∧ (∀ i, ¬ i = 17 → G 131 i = F 131 i)
theorem mSK.trans {F G H : XF} (a : mSK F G) (b : mSK G H) : mSK F H := ⟨fun p i h1 h2 h3 h4 h5 => (b.1 p i h1 h2 h3 h4 h5).trans (a.1 p i h1 h2 h3 h4 h5), fun i h => (b.2 i h).trans (a.2 i h)⟩
theorem mSK.t {F G : XF} (a : mSK F G) : G 132 = F 132 := funext fun i => a.1 132 i (by decide) (by decide) (by decide) (by decide) (by decide)
theorem l163 {Q : XF → Prop} (hd : 0 < d) (F0 : XF) (hT : mT (F0 132)) (q : ∀ G, xPT G → mSK F0 G → mSA (F0 132 5).toNat G → Q G) : ∀ (n k : Nat) (F : XF) (w : Value), xPT F → (k : Int) + n = F0 132 5 → mSK F0 F → mSA k F → xW X d 163 7 [.ref 131, vi k, w] [] F (xqv Q) := by
  have hT' := hT
  obtain ⟨_, _, h2, _, _, h5, _, _, _, _, hl, hsp, _⟩ := hT'
  intro n
  induction n with
  | zero =>
    intro k F w hP hk hF hS
    have e := hF.t
    refine s163_7 hP ⟨0, hd, p154 hP ⟨⟨by omega, by omega⟩, ?_, fun _ hG => q F hG hF ?_, fun c => absurd ?_ c⟩⟩
    · rw [e]; constructor <;> omega
    · have : (F0 132 5).toNat = k := by omega
      rw [this]; exact hS
    · rw [e]; omega
  | succ n ih =>
    intro k F w hP hk hF hS
    have e := hF.t
    have b := mL_b (T := F0 132) hT k (by omega)
    obtain ⟨s1, s2, s3⟩ := hS
    rw [e] at s1 s2 s3
    have hlk := hl k (by omega) (by omega)
    have lead : (k = 0 ∨ F0 132 (108 + (k : Int) - 1) = 1) → ∀ w, xW X d 163 34 [.ref 131, vi k, w] [] F (xqv Q) := by
      intro hc w
      refine s163_34 hP ⟨⟨by omega, by omega⟩, ⟨by omega, by omega⟩, fun hG => ?_⟩
      refine s163_74 hG ⟨?_, ⟨by omega, by omega⟩, ⟨by omega, by omega⟩, fun c => absurd c (by decide), fun _ => ⟨?_, ?_, ⟨by omega, by omega⟩, fun hG2 => ?_⟩⟩
      · simp only [xup]; simp; omega
      · simp only [xup]; simp; omega
      · simp only [xup]; simp; omega
      · refine ih (k + 1) _ _ hG2 (by omega) (hF.trans ⟨fun p i h1 h2 h3 h4 h5 => by simp [xup, h1, h2, h3, h4, h5], fun i h => by simp [xup, h]⟩) ?_
        have e2 : ∀ v1 v2 v3 v4 v5 v6 : Int, ∀ u1 u2 u3 : Int, (xup (xup (xup (xup (xup (xup F 137 u1 v1) 139 u2 v2) 131 17 v3) 139 u3 v4) 138 v5 v6) 136 k v5) 132 = F0 132 := fun _ _ _ _ _ _ _ _ _ => by rw [← e]; funext i; simp [xup]
        unfold mSA
        rw [e2]
        simp only [mL, if_pos hc]
        refine ⟨by simp [xup, s1], fun c a b => ?_, fun s a b => ?_⟩
        · simp only [xup]
          by_cases hq : c = k
          · simp [hq, s1]
          · have := s2 c a (by omega)
            simp [hq, this]
        · simp only [xup]
          by_cases hq : s = mL (F0 132) k 0 0
          · subst hq
            simp [s1, e]
          · have := s3 s a (by omega)
            simp [hq, s1, this]
    have stay : ¬ (k = 0 ∨ F0 132 (108 + (k : Int) - 1) = 1) → xW X d 163 74 [.ref 131, vi k, vi 0] [] F (xqv Q) := by
      intro hc
      have := b.2.1 (by omega)
      refine s163_74 hP ⟨⟨by omega, by omega⟩, ⟨by omega, by omega⟩, ⟨by omega, by omega⟩, fun _ => ⟨⟨by omega, by omega⟩, ⟨by omega, by omega⟩, ⟨by omega, by omega⟩, fun hG2 => ?_⟩, fun c => absurd rfl c⟩
      refine ih (k + 1) _ _ hG2 (by omega) (hF.trans ⟨fun p i h1 h2 h3 h4 h5 => by simp [xup, h2, h4, h5], fun i h => by simp [xup]⟩) ?_
      have e2 : ∀ u1 v1 u2 v2 u3 v3 : Int, (xup (xup (xup F 139 u1 v1) 138 u2 v2) 136 u3 v3) 132 = F0 132 := fun _ _ _ _ _ _ => by rw [← e]; funext i; simp [xup]
      unfold mSA
      rw [e2]
      simp only [mL, if_neg hc]
      refine ⟨by simp [xup, s1], fun c a b => ?_, fun s a b => ?_⟩
      · simp only [xup]
        by_cases hq : c = k
        · simp [hq, s1]
        · have := s2 c a (by omega)
          simp [hq, this]
      · simp only [xup]
        have := s3 s a (by omega)
        by_cases hq : s = mL (F0 132) k 0 0 - 1
        · simp [hq, s1, e] at this ⊢
          exact ⟨this.1, this.2.2⟩
        · simp [hq, s1, this]
    refine s163_7 hP ⟨0, hd, p154 hP ⟨⟨by omega, by omega⟩, by rw [e]; constructor <;> omega, fun c => absurd c (by rw [e]; omega), fun _ => ⟨⟨by omega, by omega⟩, fun c _ => lead (Or.inl (by omega)) w, fun c => ⟨⟨by omega, by omega⟩, ?_, fun c2 _ => ?_, fun c2 _ => lead (Or.inr ?_) w⟩⟩⟩⟩
    · rw [e]
      have := hsp (k - 1) (by omega) (by omega)
      rw [show (108 : Int) + (k - 1) = 108 + k - 1 by omega] at this
      constructor <;> omega
    · rw [e] at c2
      exact stay (by omega)
    · rw [e] at c2
      omega
theorem p163 {Q : XF → Prop} (hP : xPT F) (hd : 0 < d) (hT : mT (F 132)) (q : ∀ G, xPT G → mSK F G → mSA (F 132 5).toNat G → Q G) : xMV X d 163 [.ref 131] F Q := by
  have h5 := hT.2.2.2.2.2.1
  refine m163 hP fun hG => l163 hd F hT q (F 132 5).toNat 0 _ _ hG (by omega) ⟨fun p i h1 _ _ _ _ => by simp [xup, h1], fun i h => by simp [xup, h]⟩ ⟨by simp [xup, mL], fun c a b => by omega, fun s a b => by simp [mL] at b; omega⟩
end REF3
