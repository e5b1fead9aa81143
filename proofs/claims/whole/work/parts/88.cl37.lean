section CL37
variable {X : List Int32} {d : Nat} {F : XF}
/-! bytes -/
theorem xand255_b {z : Int} : 0 ≤ xand z 255 ∧ xand z 255 ≤ 255 := by
  have h : (Int32.ofInt z &&& Int32.ofInt 255).toBitVec.toNat ≤ 255 := by
    rw [Int32.toBitVec_and, BitVec.toNat_and]
    exact Nat.and_le_right
  have e : xand z 255 = ((Int32.ofInt z &&& Int32.ofInt 255).toBitVec.toNat : Int) := by
    unfold xand
    show (Int32.ofInt z &&& Int32.ofInt 255).toBitVec.toInt = _
    exact BitVec.toInt_eq_toNat_of_lt (by omega)
  omega
theorem xbyte_and {z : Int} : xbyte (xand z 255) = xbyte z := by
  unfold xbyte xand
  rw [Int32.ofInt_toInt, Int32.toInt8_and]
  have : (Int32.ofInt 255).toInt8 = -1 := by decide +kernel
  rw [this, Int8.and_neg_one]
theorem xush_shr {x : Int} {s : Nat} (hs : s ≤ 24) : xand (xush x (s : Int)) 255 = xand (xshr x (s : Int)) 255 := by
  have key : Int32.ofInt (xush x (s : Int)) &&& Int32.ofInt 255 = Int32.ofInt (xshr x (s : Int)) &&& Int32.ofInt 255 := by
    unfold xush xshr
    rw [Int32.ofInt_toInt, Int32.ofInt_toInt]
    apply b_ext
    intro i hi
    rw [b_and, b_and, show Int32.ofInt 255 = 255 from rfl, b_255, show Int32.ofInt (s : Int) = nI s from rfl, b_ushr s (by omega), b_sshr s (by omega) _ hi]
    by_cases h8 : i < 8
    · rw [if_pos (by omega)]
    · rw [decide_eq_false h8, Bool.and_false, Bool.and_false]
  unfold xand
  rw [key]
theorem xby_c : ∀ c : Nat, c < 256 → (-128 ≤ xbyte (xbyte (c : Int)) ∧ xbyte (xbyte (c : Int)) ≤ 127) ∧ (c : Int) = (if xbyte (xbyte (c : Int)) < 0 then xbyte (xbyte (c : Int)) + 256 else xbyte (xbyte (c : Int))) := by decide +kernel
theorem xby {x : Int} {s : Nat} (hs : s ≤ 24) : (-128 ≤ xbyte (xbyte (xshr x (s : Int))) ∧ xbyte (xbyte (xshr x (s : Int))) ≤ 127) ∧ xand (xush x (s : Int)) 255 = (if xbyte (xbyte (xshr x (s : Int))) < 0 then xbyte (xbyte (xshr x (s : Int))) + 256 else xbyte (xbyte (xshr x (s : Int)))) := by
  have b := xand255_b (z := xshr x (s : Int))
  have c := xby_c (xand (xshr x (s : Int)) 255).toNat (by omega)
  rw [show (((xand (xshr x (s : Int)) 255).toNat : Nat) : Int) = xand (xshr x (s : Int)) 255 by omega, xbyte_and] at c
  rw [xush_shr hs]
  exact c
theorem l28 {x : Int} {Q : XF → Prop} (F0 : XF) (h0 : 0 ≤ F0 18 0 ∧ F0 18 0 + 4 ≤ 600) (q : ∀ G, xPT G → (∀ p i, ¬ p = 19 → ¬ (p = 18 ∧ i = 0) → G p i = F0 p i) → G 18 0 = F0 18 0 + 4 → (∀ i, ¬ (F0 18 0 ≤ i ∧ i < F0 18 0 + 4) → G 19 i = F0 19 i) → (∀ k : Int, 0 ≤ k → k < 4 → G 19 (F0 18 0 + k) = xand (xush x (24 - 8 * k)) 255) → Q G) : ∀ (f k : Nat) (F : XF), xPT F → k + f = 4 → (∀ p i, ¬ p = 19 → ¬ (p = 18 ∧ i = 0) → F p i = F0 p i) → F 18 0 = F0 18 0 + k → (∀ i, ¬ (F0 18 0 ≤ i ∧ i < F0 18 0 + 4) → F 19 i = F0 19 i) → (∀ j : Int, 0 ≤ j → j < k → F 19 (F0 18 0 + j) = xand (xush x (24 - 8 * j)) 255) → xW X d 28 3 [.ref 18, vi x, vi (24 - 8 * (k : Int))] [] F (xqv Q) := by
  intro f
  induction f with
  | zero =>
    intro k F hP hk hK e0 hO hB
    refine s28_3 hP ⟨⟨by omega, by omega⟩, fun _ _ => q F hP hK (by omega) hO fun j a b => hB j a (by omega), fun c => absurd (by omega) c⟩
  | succ f ih =>
    intro k F hP hk hK e0 hO hB
    refine s28_3 hP ⟨⟨by omega, by omega⟩, fun c => absurd c (by omega), fun _ => ?_⟩
    rw [e0]
    refine ⟨⟨by omega, by omega⟩, fun c => absurd c (by omega), fun _ => ⟨⟨by omega, by omega⟩, fun hG => ?_⟩⟩
    have := ih (k + 1) _ hG (by omega) (fun p i z1 z2 => by rw [xup_n z2, xup_o z1]; exact hK p i z1 z2) (by rw [xup_s]; omega) (fun i z => by rw [xup_o (by decide), xup_i (by omega)]; exact hO i z) (fun j a b => ?_)
    · rw [show 24 - 8 * ((k + 1 : Nat) : Int) = 24 - 8 * (k : Int) + -8 by omega] at this
      exact this
    · by_cases hq : j = k
      · rw [hq, xup_o (by decide), xup_s]
      · rw [xup_o (by decide), xup_i (by omega)]
        exact hB j a (by omega)
theorem k28 {x : Int} {Q : XF → Prop} (hP : xPT F) (h0 : 0 ≤ F 18 0 ∧ F 18 0 + 4 ≤ 600) (q : ∀ G, xPT G → (∀ p i, ¬ p = 19 → ¬ (p = 18 ∧ i = 0) → G p i = F p i) → G 18 0 = F 18 0 + 4 → (∀ i, ¬ (F 18 0 ≤ i ∧ i < F 18 0 + 4) → G 19 i = F 19 i) → (∀ k : Int, 0 ≤ k → k < 4 → G 19 (F 18 0 + k) = xand (xush x (24 - 8 * k)) 255) → Q G) : xMV X d 28 [.ref 18, vi x] F Q :=
  m28 hP fun _ => l28 F h0 q 4 0 F hP (by omega) (fun _ _ _ _ => rfl) (by omega) (fun _ _ => rfl) (fun j a b => absurd b (by omega))
/-- the k-th of twenty bytes, as the class has it -/
def gB (a b c d e k : Int) : Int := xand (xush (if k < 4 then a else if k < 8 then b else if k < 12 then c else if k < 16 then d else e) (24 - 8 * (k % 4))) 255
theorem gB_f {a b c e g k : Int} (h : 0 ≤ k ∧ k < 20) : (-128 ≤ fB a b c e g k ∧ fB a b c e g k ≤ 127) ∧ gB a b c e g k = (if fB a b c e g k < 0 then fB a b c e g k + 256 else fB a b c e g k) := by
  have := xby (x := (if k < 4 then a else if k < 8 then b else if k < 12 then c else if k < 16 then e else g)) (s := (24 - 8 * (k % 4)).toNat) (by omega)
  rw [show (((24 - 8 * (k % 4)).toNat : Nat) : Int) = 24 - 8 * (k % 4) by omega] at this
  exact this
theorem k93 {a b c e g : Int} {Q : Int → XF → Prop} (hP : xPT F) (hd : 0 < d) (h4 : 0 ≤ F 18 0 ∧ F 18 0 ≤ 600) (q0 : 600 < F 18 0 + 20 → Q (-4) F) (q1 : F 18 0 + 20 ≤ 600 → ∀ G, xPT G → (∀ p i, ¬ p = 19 → ¬ (p = 18 ∧ i = 0) → G p i = F p i) → (∀ i, ¬ (F 18 0 ≤ i ∧ i < F 18 0 + 20) → G 19 i = F 19 i) → G 18 0 = F 18 0 + 20 → (∀ k, 0 ≤ k → k < 20 → G 19 (F 18 0 + k) = gB a b c e g k) → Q (F 18 0 + 20) G) : xMI X d 93 [.ref 0, vi a, vi b, vi c, vi e, vi g] F Q := by
  refine m93 hP ⟨⟨by omega, by omega⟩, fun z => ⟨0, hd, k28 hP (by omega) fun G1 h1 f1 e1 o1 b1 => ⟨0, hd, k28 h1 (by omega) fun G2 h2 f2 e2 o2 b2 => ⟨0, hd, k28 h2 (by omega) fun G3 h3 f3 e3 o3 b3 => ⟨0, hd, k28 h3 (by omega) fun G4 h4' f4 e4 o4 b4 => ⟨0, hd, k28 h4' (by omega) fun G5 h5 f5 e5 o5 b5 _ => ?_⟩⟩⟩⟩⟩, fun z _ => q0 (by omega)⟩
  rw [show G5 18 0 = F 18 0 + 20 by omega]
  refine q1 (by omega) G5 h5 (fun p i y1 y2 => ?_) (fun i y => ?_) (by omega) (fun k y1 y2 => ?_)
  · rw [f5 p i y1 y2, f4 p i y1 y2, f3 p i y1 y2, f2 p i y1 y2, f1 p i y1 y2]
  · rw [o5 i (by omega), o4 i (by omega), o3 i (by omega), o2 i (by omega), o1 i (by omega)]
  · unfold gB
    by_cases q4 : k < 4
    · rw [if_pos q4, o5 _ (by omega), o4 _ (by omega), o3 _ (by omega), o2 _ (by omega), b1 k y1 q4, show k % 4 = k by omega]
    rw [if_neg q4]
    by_cases q8 : k < 8
    · rw [if_pos q8, o5 _ (by omega), o4 _ (by omega), o3 _ (by omega), show F 18 0 + k = G1 18 0 + (k - 4) by omega, b2 (k - 4) (by omega) (by omega), show k % 4 = k - 4 by omega]
    rw [if_neg q8]
    by_cases q12 : k < 12
    · rw [if_pos q12, o5 _ (by omega), o4 _ (by omega), show F 18 0 + k = G2 18 0 + (k - 8) by omega, b3 (k - 8) (by omega) (by omega), show k % 4 = k - 8 by omega]
    rw [if_neg q12]
    by_cases q16 : k < 16
    · rw [if_pos q16, o5 _ (by omega), show F 18 0 + k = G3 18 0 + (k - 12) by omega, b4 (k - 12) (by omega) (by omega), show k % 4 = k - 12 by omega]
    · rw [if_neg q16, show F 18 0 + k = G4 18 0 + (k - 16) by omega, b5 (k - 16) (by omega) (by omega), show k % 4 = k - 16 by omega]
end CL37
