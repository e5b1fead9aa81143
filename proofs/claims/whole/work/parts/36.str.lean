section STR
variable {X : List Int32} {d z pc a b w : Nat} {v : Int} {ls st : List Value} {F F' : XF} {r : Option Value}
def strL (k : Nat) : Nat := (xbyt.getD k []).length
def strB (k : Nat) (i : Int) : Int := ((xbyt.getD k []).getD i.toNat 0).toInt
theorem xr_sg0 {i k : Nat} (hk : xlook z pc = some (pc, .getfield i, 3, 100, 0, v, w)) (h : k < 19) {n : Nat} (hn : pc + 3 = n) (e : xE X d z n ls (.ref (xSB + 2 * k + 1) :: st) F r F') : xE X d z pc ls (.ref (xSB + 2 * k) :: st) F r F' := by
  subst hn
  refine xE_step hk rfl (fun _ => rfl) ?_ e
  simp only [xstep]
  rw [if_pos trivial, if_pos (xsb_ok h), if_pos trivial]
theorem xr_sg1 {i k : Nat} (hk : xlook z pc = some (pc, .getfield i, 3, 100, 1, v, w)) (h : k < 19) {n : Nat} (hn : pc + 3 = n) (e : xE X d z n ls (vi 0 :: st) F r F') : xE X d z pc ls (.ref (xSB + 2 * k) :: st) F r F' := by
  subst hn
  refine xE_step hk rfl (fun _ => rfl) ?_ e
  simp only [xstep]
  rw [if_pos trivial, if_pos (xsb_ok h), if_neg (by decide)]
  rfl
theorem xr_gst0 {i : Nat} (hk : xlook z pc = some (pc, .getstatic i, 3, 0, b, v, w)) {n : Nat} (hn : pc + 3 = n) (e : xE X d z n ls (vi 1 :: st) F r F') : xE X d z pc ls st F r F' := by
  subst hn
  refine xE_step hk rfl (fun _ => rfl) ?_ e
  simp only [xstep]
  rw [if_pos trivial]
  rfl
theorem xr_gst1 {i : Nat} (hk : xlook z pc = some (pc, .getstatic i, 3, 1, b, v, w)) {n : Nat} (hn : pc + 3 = n) (e : xE X d z n ls (.retAddr 7 :: st) F r F') : xE X d z pc ls st F r F' := by
  subst hn
  refine xE_step hk rfl (fun _ => rfl) ?_ e
  simp only [xstep]
  rw [if_neg (by decide), if_pos trivial]
theorem xsb1 {k : Nat} (h : k < 19) : ¬ xSB + 2 * k + 1 = xSC ∧ xSB ≤ xSB + 2 * k + 1 ∧ xSB + 2 * k + 1 < xSB + 38 ∧ (xSB + 2 * k + 1) % 2 = 1 ∧ (xSB + 2 * k + 1 - xSB) / 2 = k := by
  unfold xSB xSC
  omega
theorem xr_slb {k : Nat} (hk : xlook z pc = some (pc, .arraylength, 1, a, b, v, w)) (h : k < 19) {n : Nat} (hn : pc + 1 = n) (e : xE X d z n ls (vi (strL k : Int) :: st) F r F') : xE X d z pc ls (.ref (xSB + 2 * k + 1) :: st) F r F' := by
  subst hn
  refine xE_step hk rfl (fun _ => rfl) ?_ e
  have g := xsb1 h
  simp only [xstep]
  rw [if_neg g.1, if_pos g.2.1, if_pos ⟨g.2.2.1, g.2.2.2.1⟩, g.2.2.2.2]
  rfl
theorem strL_b : ∀ k, k < 19 → strL k < 2147483648 := by decide +kernel
theorem xr_sbl {k : Nat} {i : Int} (hk : xlook z pc = some (pc, .baload, 1, a, b, v, w)) (h : k < 19) (hi : 0 ≤ i ∧ i < (strL k : Int)) {n : Nat} (hn : pc + 1 = n) (e : xE X d z n ls (vi (strB k i) :: st) F r F') : xE X d z pc ls (vi i :: .ref (xSB + 2 * k + 1) :: st) F r F' := by
  subst hn
  refine xE_step hk rfl (fun _ => rfl) ?_ e
  have g := xsb1 h
  obtain ⟨h1, h2, h3, h4⟩ := xidx (o := 0) (strL_b k h) hi
  simp only [xstep]
  rw [if_pos g.2.1, g.2.2.2.2, if_pos ⟨g.2.2.1, g.2.2.2.1, h1⟩, h2]
  unfold vi strB
  rw [Int32.ofInt_toInt]
theorem q223 {k : Nat} (h : k < 19) : xM X d 223 [.ref (xSB + 2 * k)] F (some (vi 0)) F := by
  show xE X d 223 0 [.ref (xSB + 2 * k)] [] F _ F
  refine xr_gst0 (n := 3) (show xlook 223 0 = some (0, .getstatic 38, 3, 0, 0, 0, 249) from xlk (by decide +kernel)) rfl ?_
  refine xr_if_eq (n := 6) (m := 13) (show xlook 223 3 = some (3, .ifCond .eq 10, 3, 13, 0, 0, 0) from xlk (by decide +kernel)) rfl rfl ⟨by decide, by decide⟩ ⟨fun c => absurd c (by decide), fun _ => ?_⟩
  refine xr_aload_n (n := 7) (show xlook 223 6 = some (6, .aload_n 0, 1, 0, 0, 0, 0) from xlk (by decide +kernel)) rfl rfl ?_
  refine xr_sg1 (n := 10) (show xlook 223 7 = some (7, .getfield 15, 3, 100, 1, 0, 250) from xlk (by decide +kernel)) h rfl ?_
  refine xr_goto (m := 14) (show xlook 223 10 = some (10, .goto 4, 3, 14, 0, 0, 0) from xlk (by decide +kernel)) rfl ?_
  refine xE_ret (show xlook 223 14 = some (14, .ireturn, 1, 0, 0, 0, 0) from xlk (by decide +kernel)) rfl ?_
  decide +kernel
theorem q224 {k : Nat} (h : k < 19) : xM X d 224 [.ref (xSB + 2 * k)] F (some (vi 1)) F := by
  show xE X d 224 0 [.ref (xSB + 2 * k)] [] F _ F
  refine xr_gst0 (n := 3) (show xlook 224 0 = some (0, .getstatic 38, 3, 0, 0, 0, 249) from xlk (by decide +kernel)) rfl ?_
  refine xr_if_eq (n := 6) (m := 17) (show xlook 224 3 = some (3, .ifCond .eq 14, 3, 17, 0, 0, 0) from xlk (by decide +kernel)) rfl rfl ⟨by decide, by decide⟩ ⟨fun c => absurd c (by decide), fun _ => ?_⟩
  refine xr_aload_n (n := 7) (show xlook 224 6 = some (6, .aload_n 0, 1, 0, 0, 0, 0) from xlk (by decide +kernel)) rfl rfl ?_
  refine xr_sg1 (n := 10) (show xlook 224 7 = some (7, .getfield 15, 3, 100, 1, 0, 250) from xlk (by decide +kernel)) h rfl ?_
  refine xr_if_ne (n := 13) (m := 17) (show xlook 224 10 = some (10, .ifCond .ne 7, 3, 17, 0, 0, 0) from xlk (by decide +kernel)) rfl rfl ⟨by decide, by decide⟩ ⟨fun c => absurd rfl c, fun _ => ?_⟩
  refine xr_iconst (n := 14) (show xlook 224 13 = some (13, .iconst 1, 1, 0, 0, 0, 0) from xlk (by decide +kernel)) rfl ?_
  refine xr_goto (m := 18) (show xlook 224 14 = some (14, .goto 4, 3, 18, 0, 0, 0) from xlk (by decide +kernel)) rfl ?_
  exact xr_zreturn (show xlook 224 18 = some (18, .ireturn, 1, 0, 0, 0, 0) from xlk (by decide +kernel)) rfl (Or.inr rfl)
theorem q227 {i n : Int} (hi : 0 ≤ i ∧ i < n) (hn : n ≤ 100000) : xM X d 227 [vi i, vi n, .retAddr 7] F (some (vi i)) F := by
  show xE X d 227 0 [vi i, vi n, .retAddr 7] [] F _ F
  refine xr_iload_n (n := 1) (show xlook 227 0 = some (0, .iload_n 0, 1, 0, 0, 0, 0) from xlk (by decide +kernel)) rfl rfl ?_
  refine xr_if_lt (n := 4) (m := 9) (show xlook 227 1 = some (1, .ifCond .lt 8, 3, 9, 0, 0, 0) from xlk (by decide +kernel)) rfl rfl ⟨by omega, by omega⟩ ⟨fun c => absurd c (by omega), fun _ => ?_⟩
  refine xr_iload_n (n := 5) (show xlook 227 4 = some (4, .iload_n 0, 1, 0, 0, 0, 0) from xlk (by decide +kernel)) rfl rfl ?_
  refine xr_iload_n (n := 6) (show xlook 227 5 = some (5, .iload_n 1, 1, 0, 0, 0, 0) from xlk (by decide +kernel)) rfl rfl ?_
  refine xr_icmp_lt (n := 9) (m := 16) (show xlook 227 6 = some (6, .if_icmp .lt 10, 3, 16, 0, 0, 0) from xlk (by decide +kernel)) rfl rfl ⟨by omega, by omega⟩ ⟨by omega, by omega⟩ ⟨fun _ => ?_, fun c => absurd hi.2 c⟩
  refine xr_iload_n (n := 17) (show xlook 227 16 = some (16, .iload_n 0, 1, 0, 0, 0, 0) from xlk (by decide +kernel)) rfl rfl ?_
  exact xr_ireturn (show xlook 227 17 = some (17, .ireturn, 1, 0, 0, 0, 0) from xlk (by decide +kernel)) rfl
theorem q225 {i n : Int} (hd : 0 < d) (hi : 0 ≤ i ∧ i < n) (hn : n ≤ 100000) : xM X d 225 [vi i, vi n] F none F := by
  show xE X d 225 0 [vi i, vi n] [] F _ F
  refine xr_iload_n (n := 1) (show xlook 225 0 = some (0, .iload_n 0, 1, 0, 0, 0, 0) from xlk (by decide +kernel)) rfl rfl ?_
  refine xr_iload_n (n := 2) (show xlook 225 1 = some (1, .iload_n 1, 1, 0, 0, 0, 0) from xlk (by decide +kernel)) rfl rfl ?_
  refine xr_gst1 (n := 5) (show xlook 225 2 = some (2, .getstatic 1053, 3, 1, 0, 0, 251) from xlk (by decide +kernel)) rfl ?_
  refine xr_calls (dk := 0) (as := [vi i, vi n, .retAddr 7]) (show xlook 225 5 = some (5, .invokestatic 1059, 3, 227, 3, 0, 209) from xlk (by decide +kernel)) (by decide) hd ⟨Nat.le_of_ble_eq_true rfl, Nat.le_of_ble_eq_true rfl, Nat.le_of_ble_eq_true rfl, by decide +kernel⟩ rfl (q227 hi hn) (n := 8) rfl ?_
  refine xr_pop (x := i) (n := 9) (show xlook 225 8 = some (8, .pop, 1, 0, 0, 0, 0) from xlk (by decide +kernel)) rfl ?_
  exact xr_return (show xlook 225 9 = some (9, .return_, 1, 0, 0, 0, 0) from xlk (by decide +kernel)) rfl
theorem strB_b : ∀ k, k < 19 → ∀ i, i < strL k → 0 ≤ strB k i ∧ strB k i ≤ 127 ∧ xchr (xand (strB k i) 255) = strB k i := by decide +kernel
theorem strL_c : ∀ k, k < 19 → strL k ≤ 100 := by decide +kernel
theorem q226 {k : Nat} {i : Int} (h : k < 19) (hd : 1 < d) (hi : 0 ≤ i ∧ i < (strL k : Int)) : xM X d 226 [.ref (xSB + 2 * k + 1), vi i] F (some (vi (strB k i))) F := by
  have hl := strL_c k h
  have hb := strB_b k h i.toNat (by omega)
  rw [Int.toNat_of_nonneg hi.1] at hb
  show xE X d 226 0 [.ref (xSB + 2 * k + 1), vi i] [] F _ F
  refine xr_iload_n (n := 1) (show xlook 226 0 = some (0, .iload_n 1, 1, 0, 0, 0, 0) from xlk (by decide +kernel)) rfl rfl ?_
  refine xr_aload_n (n := 2) (show xlook 226 1 = some (1, .aload_n 0, 1, 0, 0, 0, 0) from xlk (by decide +kernel)) rfl rfl ?_
  refine xr_slb (n := 3) (show xlook 226 2 = some (2, .arraylength, 1, 0, 0, 0, 0) from xlk (by decide +kernel)) h rfl ?_
  have hk3 : xlook 226 3 = some (3, .invokestatic 9, 3, 225, 2, 0, 210) := xlk (by decide +kernel)
  refine xE_call (dk := 1) (a := 225) (b := 2) (as := [vi i, vi (strL k : Int)]) hk3 (by decide) rfl rfl hd ⟨by decide, Nat.le_of_ble_eq_true rfl, Nat.le_of_ble_eq_true rfl, Nat.le_of_ble_eq_true rfl, rfl⟩ rfl (q225 (by omega) hi (by omega)) ?_
  show xE X d 226 6 [.ref (xSB + 2 * k + 1), vi i] [] F _ F
  refine xr_aload_n (n := 7) (show xlook 226 6 = some (6, .aload_n 0, 1, 0, 0, 0, 0) from xlk (by decide +kernel)) rfl rfl ?_
  refine xr_iload_n (n := 8) (show xlook 226 7 = some (7, .iload_n 1, 1, 0, 0, 0, 0) from xlk (by decide +kernel)) rfl rfl ?_
  refine xr_sbl (n := 9) (show xlook 226 8 = some (8, .baload, 1, 0, 0, 0, 0) from xlk (by decide +kernel)) h hi rfl ?_
  refine xr_sipush (n := 12) (show xlook 226 9 = some (9, .sipush 255, 3, 0, 0, 0, 0) from xlk (by decide +kernel)) rfl (by decide) ?_
  refine xr_iand (n := 13) (show xlook 226 12 = some (12, .iand, 1, 0, 0, 0, 0) from xlk (by decide +kernel)) rfl ?_
  refine xr_i2c (n := 14) (show xlook 226 13 = some (13, .i2c, 1, 0, 0, 0, 0) from xlk (by decide +kernel)) rfl ?_
  rw [hb.2.2]
  have nr : ∀ x : Nat, x < 128 → xret (14, .ireturn, 1, 0, 0, 0, 0) (xrt 226) [vi (x : Int)] = some (some (some (vi (x : Int)))) := by decide +kernel
  refine xE_ret (show xlook 226 14 = some (14, .ireturn, 1, 0, 0, 0, 0) from xlk (by decide +kernel)) rfl ?_
  have := nr (strB k i).toNat (by omega)
  rw [Int.toNat_of_nonneg hb.1] at this
  exact this
theorem q222 {k : Nat} {i : Int} (h : k < 19) (hd : 2 < d) (hi : 0 ≤ i ∧ i < (strL k : Int)) : xM X d 222 [.ref (xSB + 2 * k), vi i] F (some (vi (strB k i))) F := by
  have hb := strB_b k h i.toNat (by omega)
  rw [Int.toNat_of_nonneg hi.1] at hb
  show xE X d 222 0 [.ref (xSB + 2 * k), vi i] [] F _ F
  refine xr_aload_n (n := 1) (show xlook 222 0 = some (0, .aload_n 0, 1, 0, 0, 0, 0) from xlk (by decide +kernel)) rfl rfl ?_
  refine xr_callt (dk := 2) (k := k) (as := []) (show xlook 222 1 = some (1, .invokevirtual 492, 3, 224, 1, 0, 207) from xlk (by decide +kernel)) (by decide) hd ⟨Nat.le_of_ble_eq_true rfl, Nat.le_of_ble_eq_true rfl, Nat.le_of_ble_eq_true rfl⟩ ⟨by decide +kernel, h⟩ rfl (q224 h) (n := 4) rfl ?_
  show xE X d 222 4 [.ref (xSB + 2 * k), vi i] [vi 1] F _ F
  refine xr_if_eq (n := 7) (m := 16) (show xlook 222 4 = some (4, .ifCond .eq 12, 3, 16, 0, 0, 0) from xlk (by decide +kernel)) rfl rfl ⟨by decide, by decide⟩ ⟨fun c => absurd c (by decide), fun _ => ?_⟩
  refine xr_aload_n (n := 8) (show xlook 222 7 = some (7, .aload_n 0, 1, 0, 0, 0, 0) from xlk (by decide +kernel)) rfl rfl ?_
  refine xr_sg0 (n := 11) (show xlook 222 8 = some (8, .getfield 9, 3, 100, 0, 0, 248) from xlk (by decide +kernel)) h rfl ?_
  refine xr_iload_n (n := 12) (show xlook 222 11 = some (11, .iload_n 1, 1, 0, 0, 0, 0) from xlk (by decide +kernel)) rfl rfl ?_
  refine xr_calls (dk := 2) (as := [.ref (xSB + 2 * k + 1), vi i]) (show xlook 222 12 = some (12, .invokestatic 495, 3, 226, 2, 0, 208) from xlk (by decide +kernel)) (by decide) hd ⟨Nat.le_of_ble_eq_true rfl, Nat.le_of_ble_eq_true rfl, Nat.le_of_ble_eq_true rfl, by decide +kernel⟩ rfl (q226 h (by omega) hi) (n := 15) rfl ?_
  show xE X d 222 15 [.ref (xSB + 2 * k), vi i] [vi (strB k i)] F _ F
  have nr : ∀ x : Nat, x < 128 → xret (15, .ireturn, 1, 0, 0, 0, 0) (xrt 222) [vi (x : Int)] = some (some (some (vi (x : Int)))) := by decide +kernel
  refine xE_ret (show xlook 222 15 = some (15, .ireturn, 1, 0, 0, 0, 0) from xlk (by decide +kernel)) rfl ?_
  have := nr (strB k i).toNat (by omega)
  rw [Int.toNat_of_nonneg hb.1] at this
  exact this
theorem xshr0 : ∀ x : Nat, x < 128 → xshr (x : Int) 0 = (x : Int) := by decide +kernel
theorem q221 {k : Nat} (h : k < 19) (hd : 0 < d) : xM X d 221 [.ref (xSB + 2 * k)] F (some (vi (strL k : Int))) F := by
  have hl := strL_c k h
  show xE X d 221 0 [.ref (xSB + 2 * k)] [] F _ F
  refine xr_aload_n (n := 1) (show xlook 221 0 = some (0, .aload_n 0, 1, 0, 0, 0, 0) from xlk (by decide +kernel)) rfl rfl ?_
  refine xr_sg0 (n := 4) (show xlook 221 1 = some (1, .getfield 9, 3, 100, 0, 0, 248) from xlk (by decide +kernel)) h rfl ?_
  refine xr_slb (n := 5) (show xlook 221 4 = some (4, .arraylength, 1, 0, 0, 0, 0) from xlk (by decide +kernel)) h rfl ?_
  refine xr_aload_n (n := 6) (show xlook 221 5 = some (5, .aload_n 0, 1, 0, 0, 0, 0) from xlk (by decide +kernel)) rfl rfl ?_
  refine xr_callt (dk := 0) (k := k) (as := []) (show xlook 221 6 = some (6, .invokevirtual 335, 3, 223, 1, 0, 206) from xlk (by decide +kernel)) (by decide) hd ⟨Nat.le_of_ble_eq_true rfl, Nat.le_of_ble_eq_true rfl, Nat.le_of_ble_eq_true rfl⟩ ⟨by decide +kernel, h⟩ rfl (q223 h) (n := 9) rfl ?_
  show xE X d 221 9 [.ref (xSB + 2 * k)] [vi 0, vi (strL k : Int)] F _ F
  refine xr_ishr (n := 10) (show xlook 221 9 = some (9, .ishr, 1, 0, 0, 0, 0) from xlk (by decide +kernel)) rfl ?_
  rw [xshr0 (strL k) (by omega)]
  exact xr_ireturn (show xlook 221 10 = some (10, .ireturn, 1, 0, 0, 0, 0) from xlk (by decide +kernel)) rfl
theorem p221 {k : Nat} {Q : Int → XF → Prop} (hP : xPT F) (h : k < 19) (hd : 0 < d) (q : Q (strL k) F) : xMI X d 221 [.ref (xSB + 2 * k)] F Q := ⟨_, _, q221 h hd, hP, _, rfl, q⟩
theorem p222 {k : Nat} {i : Int} {Q : Int → XF → Prop} (hP : xPT F) (h : k < 19) (hd : 2 < d) (hi : 0 ≤ i ∧ i < (strL k : Int)) (q : Q (strB k i) F) : xMI X d 222 [.ref (xSB + 2 * k), vi i] F Q := ⟨_, _, q222 h hd hi, hP, _, rfl, q⟩
end STR
