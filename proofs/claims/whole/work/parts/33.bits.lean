section BITS
/-! ===== Int32 by its bits: bt x i ===== -/
def bt (x : Int32) (i : Nat) : Bool := x.toBitVec.getLsbD i
theorem b_ext {x y : Int32} (h : ∀ i, i < 32 → bt x i = bt y i) : x = y := Int32.toBitVec_inj.mp (BitVec.eq_of_getLsbD_eq (fun i hi => h i hi))
theorem b_or (x y : Int32) (i : Nat) : bt (x ||| y) i = (bt x i || bt y i) := by unfold bt; rw [Int32.toBitVec_or, BitVec.getLsbD_or]
theorem b_and (x y : Int32) (i : Nat) : bt (x &&& y) i = (bt x i && bt y i) := by unfold bt; rw [Int32.toBitVec_and, BitVec.getLsbD_and]
theorem b_xor (x y : Int32) (i : Nat) : bt (x ^^^ y) i = (bt x i ^^ bt y i) := by unfold bt; rw [Int32.toBitVec_xor, BitVec.getLsbD_xor]
theorem b_big {x : Int32} {i : Nat} (h : 32 ≤ i) : bt x i = false := BitVec.getLsbD_of_ge _ _ h
theorem b_255 (i : Nat) : bt 255 i = decide (i < 8) := by
  rcases Nat.lt_or_ge i 32 with h | h
  · exact (by decide +kernel : ∀ i, i < 32 → bt 255 i = decide (i < 8)) i h
  · rw [b_big h, decide_eq_false (by omega)]
theorem b_65535 (i : Nat) : bt 65535 i = decide (i < 16) := by
  rcases Nat.lt_or_ge i 32 with h | h
  · exact (by decide +kernel : ∀ i, i < 32 → bt 65535 i = decide (i < 16)) i h
  · rw [b_big h, decide_eq_false (by omega)]
theorem b_m1 : ∀ i, i < 32 → bt (-1) i = true := by decide +kernel
theorem b_0 (i : Nat) : bt 0 i = false := BitVec.getLsbD_zero
theorem s_l : ∀ n, n < 32 → ((nI n &&& 31).toBitVec.smod 32).toNat = n := by decide +kernel
theorem s_u : ∀ n, n < 32 → (((nI n).toUInt32 &&& Int32.toUInt32 31).toBitVec % 32).toNat = n := by decide +kernel
theorem b_shl (n : Nat) (hn : n < 32) (x : Int32) {i : Nat} (hi : i < 32) : bt (x <<< (nI n &&& 31)) i = (decide (n ≤ i) && bt x (i - n)) := by
  unfold bt
  rw [Int32.toBitVec_shiftLeft]
  show (x.toBitVec <<< ((nI n &&& 31).toBitVec.smod 32).toNat).getLsbD i = _
  rw [s_l n hn, BitVec.getLsbD_shiftLeft]
  rcases Nat.lt_or_ge i n with h | h
  · simp [h, Nat.not_le.mpr h]
  · simp [hi, h, Nat.not_lt.mpr h]
theorem b_ushr (n : Nat) (hn : n < 32) (x : Int32) (i : Nat) : bt ((x.toUInt32 >>> ((nI n).toUInt32 &&& Int32.toUInt32 31)).toInt32) i = bt x (n + i) := by
  show (x.toUInt32 >>> ((nI n).toUInt32 &&& Int32.toUInt32 31)).toBitVec.getLsbD i = x.toUInt32.toBitVec.getLsbD (n + i)
  rw [UInt32.toBitVec_shiftRight]
  show (x.toUInt32.toBitVec >>> (((nI n).toUInt32 &&& Int32.toUInt32 31).toBitVec % 32).toNat).getLsbD i = _
  rw [s_u n hn, BitVec.getLsbD_ushiftRight]
theorem b_sshr (n : Nat) (hn : n < 32) (x : Int32) {i : Nat} (hi : i < 32) : bt (x >>> (nI n &&& 31)) i = if n + i < 32 then bt x (n + i) else bt x 31 := by
  unfold bt
  rw [Int32.toBitVec_shiftRight]
  show (x.toBitVec.sshiftRight ((nI n &&& 31).toBitVec.smod 32).toNat).getLsbD i = _
  rw [s_l n hn, BitVec.getLsbD_sshiftRight, BitVec.msb_eq_getLsbD_last]
  simp [hi]
theorem b_shl8 (x : Int32) {i : Nat} (hi : i < 32) : bt (x <<< ((8 : Int32) &&& 31)) i = (decide (8 ≤ i) && bt x (i - 8)) := b_shl 8 (by omega) x hi
theorem b_shl16 (x : Int32) {i : Nat} (hi : i < 32) : bt (x <<< ((16 : Int32) &&& 31)) i = (decide (16 ≤ i) && bt x (i - 16)) := b_shl 16 (by omega) x hi
theorem b_shl24 (x : Int32) {i : Nat} (hi : i < 32) : bt (x <<< ((24 : Int32) &&& 31)) i = (decide (24 ≤ i) && bt x (i - 24)) := b_shl 24 (by omega) x hi
theorem b_sshr8 (x : Int32) {i : Nat} (hi : i < 32) : bt (x >>> ((8 : Int32) &&& 31)) i = if 8 + i < 32 then bt x (8 + i) else bt x 31 := b_sshr 8 (by omega) x hi
/-- the i-th bit of a number -/
def mbit (v : Int) (i : Nat) : Bool := bt (Int32.ofInt v) i
theorem mbit_or {u v : Int} {i : Nat} : mbit (xior u v) i = (mbit u i || mbit v i) := by
  unfold mbit xior
  rw [Int32.ofInt_toInt, b_or]
theorem mbit_and {u v : Int} {i : Nat} : mbit (xand u v) i = (mbit u i && mbit v i) := by
  unfold mbit xand
  rw [Int32.ofInt_toInt, b_and]
theorem mbit_xor {u v : Int} {i : Nat} : mbit (xxor u v) i = (mbit u i ^^ mbit v i) := by
  unfold mbit xxor
  rw [Int32.ofInt_toInt, b_xor]
theorem mbit_0 {i : Nat} : mbit 0 i = false := b_0 i
theorem mbit_m1 {i : Nat} (h : i < 32) : mbit (-1) i = true := b_m1 i h
theorem mbit_shl {k i : Nat} (hk : k < 32) (hi : i < 32) : mbit (xshl 1 (k : Int)) i = decide (i = k) := by
  have h1 : ∀ j, j < 32 → bt (Int32.ofInt 1) j = decide (j = 0) := by decide +kernel
  unfold mbit xshl
  rw [Int32.ofInt_toInt, show Int32.ofInt (k : Int) = nI k from rfl, b_shl k hk _ hi, h1 (i - k) (by omega)]
  by_cases h : i = k
  · subst h; simp
  · by_cases h2 : k ≤ i
    · have : ¬ i - k = 0 := by omega
      simp [h, this]
    · simp [h, h2]
theorem mbit_shr {v : Int} {k i : Nat} (hk : k < 32) (hi : k + i < 32) : mbit (xshr v (k : Int)) i = mbit v (k + i) := by
  unfold mbit xshr
  rw [Int32.ofInt_toInt, show Int32.ofInt (k : Int) = nI k from rfl, b_sshr k hk _ (by omega), if_pos hi]
theorem xand1 {v : Int} : xand v 1 = if mbit v 0 then 1 else 0 := by
  have h1 : ∀ j, j < 32 → bt (Int32.ofInt 1) j = decide (j = 0) := by decide +kernel
  have key : (Int32.ofInt v &&& Int32.ofInt 1) = if mbit v 0 then Int32.ofInt 1 else Int32.ofInt 0 := by
    apply b_ext
    intro i hi
    rw [b_and, h1 i hi]
    by_cases h0 : i = 0
    · subst h0
      unfold mbit
      cases bt (Int32.ofInt v) 0 <;> simp <;> decide +kernel
    · simp only [h0, decide_false, Bool.and_false]
      split
      · rw [h1 i hi]; simp [h0]
      · exact (b_0 i).symm
  unfold xand
  rw [key]
  split <;> rfl
/-- the k-th bit, as it is asked -/
theorem xbit {v : Int} {k : Nat} (hk : k < 32) : xand (xshr v (k : Int)) 1 = if mbit v k then 1 else 0 := by
  rw [xand1, mbit_shr hk (by omega)]
  rfl
theorem xbit' {v k : Int} (h0 : 0 ≤ k) (h : k < 32) : xand (xshr v k) 1 = if mbit v k.toNat then 1 else 0 := by
  have := xbit (v := v) (k := k.toNat) (by omega)
  rw [Int.toNat_of_nonneg h0] at this
  exact this
theorem mbit_shl' {k : Int} {i : Nat} (h0 : 0 ≤ k) (h : k < 32) (hi : i < 32) : mbit (xshl 1 k) i = decide ((i : Int) = k) := by
  have := mbit_shl (k := k.toNat) (i := i) (by omega) hi
  rw [Int.toNat_of_nonneg h0] at this
  rw [this]
  congr 1
  apply propext
  omega
theorem xand_r {u v : Int} : inR (xand u v) := ⟨Int32.le_toInt _, Int32.toInt_le _⟩
theorem xior_r {u v : Int} : inR (xior u v) := ⟨Int32.le_toInt _, Int32.toInt_le _⟩
theorem xxor_r {u v : Int} : inR (xxor u v) := ⟨Int32.le_toInt _, Int32.toInt_le _⟩
theorem xshl_r {u v : Int} : inR (xshl u v) := ⟨Int32.le_toInt _, Int32.toInt_le _⟩
theorem xshr_r {u v : Int} : inR (xshr u v) := ⟨Int32.le_toInt _, Int32.toInt_le _⟩
end BITS
