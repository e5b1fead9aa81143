set_option maxHeartbeats 4000000
set_option maxRecDepth 100000
theorem s97_0 {X : List Int32} {d : Nat} {F : XF} {Q : Int → XF → Prop} {x1 : Int} (hPT : xPT F)  (t : inR (x1) ∧ ((((x1) < (0)) → (xPT (F) → Q ((-2)) (F))) ∧ (¬ ((x1) < (0)) → (∃ t1 : Nat, (F) (0) 0 = (t1 : Int) ∧ xob 9 t1 ∧ (inR (x1) ∧ inR (((F) (t1) 6) - (1)) ∧ ((((x1) < (((F) (t1) 6) - (1))) → (∃ t2 : Nat, (F) (0) 0 = (t2 : Int) ∧ xob 9 t2 ∧ (∃ (j3 : Nat), j3 < d ∧ xMV X j3 2 [.ref (37), vi (0), vi (x1), vi (0), vi (0)] (xup (F) (t2) 8 (xxor ((F) (t2) 8) (xshl (1) (x1)))) (fun (G3 : XF) => (∃ (j4 : Nat), j4 < d ∧ xMV X j4 96 [.ref (0)] (G3) (fun (G4 : XF) => (xPT (G4) → Q ((G4) (43) 0) (G4)))))))) ∧ (¬ ((x1) < (((F) (t1) 6) - (1))) → (xPT (F) → Q ((-2)) (F))))))))) : xW X d 97 0 [.ref (0), vi (x1)] [] F (xqi Q) := by
  refine xw_iload_n (n := 1) (show xlook 97 0 = some (0, .iload_n 1, 1, 0, 0, 0, 0) from xlk (by decide +kernel)) rfl rfl ?_
  obtain ⟨q0, t⟩ := t
  refine xw_if_lt (n := 4) (m := 17) (show xlook 97 1 = some (1, .ifCond .lt 16, 3, 17, 0, 0, 0) from xlk (by decide +kernel)) rfl rfl q0 ⟨fun c => ?_, fun c => ?_⟩
  · replace t := t.1 c
    refine xw_bipush (n := 19) (show xlook 97 17 = some (17, .bipush (-2), 2, 0, 0, 0, 0) from xlk (by decide +kernel)) rfl (by decide) ?_
    exact xw_ireturn hPT (show xlook 97 19 = some (19, .ireturn, 1, 0, 0, 0, 0) from xlk (by decide +kernel)) rfl (t hPT)
  · replace t := t.2 c
    refine xw_iload_n (n := 5) (show xlook 97 4 = some (4, .iload_n 1, 1, 0, 0, 0, 0) from xlk (by decide +kernel)) rfl rfl ?_
    refine xw_aload_n (n := 6) (show xlook 97 5 = some (5, .aload_n 0, 1, 0, 0, 0, 0) from xlk (by decide +kernel)) rfl rfl ?_
    obtain ⟨t1, q1, ht1, t⟩ := t
    refine xw_getr (q := t1) (show xlook 97 6 = some (6, .getfield 10, 3, 11, 0, 0, 159) from xlk (by decide +kernel)) (by decide) (xobf xob_11 (by decide) (by decide)) rfl q1 (by have := ht1.1; omega) (n := 9) rfl ?_
    refine xw_geti (show xlook 97 9 = some (9, .getfield 99, 3, 9, 6, 0, 171) from xlk (by decide +kernel)) (by decide) (xobf ht1 (by decide) (by decide)) rfl (n := 12) rfl ?_
    refine xw_iconst (n := 13) (show xlook 97 12 = some (12, .iconst 1, 1, 0, 0, 0, 0) from xlk (by decide +kernel)) rfl ?_
    refine xw_isub (n := 14) (show xlook 97 13 = some (13, .isub, 1, 0, 0, 0, 0) from xlk (by decide +kernel)) rfl ?_
    obtain ⟨q0, q1, t⟩ := t
    refine xw_icmp_lt (n := 17) (m := 20) (show xlook 97 14 = some (14, .if_icmp .lt 6, 3, 20, 0, 0, 0) from xlk (by decide +kernel)) rfl rfl q0 q1 ⟨fun c => ?_, fun c => ?_⟩
    · replace t := t.1 c
      refine xw_aload_n (n := 21) (show xlook 97 20 = some (20, .aload_n 0, 1, 0, 0, 0, 0) from xlk (by decide +kernel)) rfl rfl ?_
      obtain ⟨t2, q1, ht2, t⟩ := t
      refine xw_getr (q := t2) (show xlook 97 21 = some (21, .getfield 10, 3, 11, 0, 0, 159) from xlk (by decide +kernel)) (by decide) (xobf xob_11 (by decide) (by decide)) rfl q1 (by have := ht2.1; omega) (n := 24) rfl ?_
      refine xw_dupr (n := 25) (show xlook 97 24 = some (24, .dup, 1, 0, 0, 0, 0) from xlk (by decide +kernel)) rfl ?_
      refine xw_geti (show xlook 97 25 = some (25, .getfield 102, 3, 9, 8, 0, 172) from xlk (by decide +kernel)) (by decide) (xobf ht2 (by decide) (by decide)) rfl (n := 28) rfl ?_
      refine xw_iconst (n := 29) (show xlook 97 28 = some (28, .iconst 1, 1, 0, 0, 0, 0) from xlk (by decide +kernel)) rfl ?_
      refine xw_iload_n (n := 30) (show xlook 97 29 = some (29, .iload_n 1, 1, 0, 0, 0, 0) from xlk (by decide +kernel)) rfl rfl ?_
      refine xw_ishl (n := 31) (show xlook 97 30 = some (30, .ishl, 1, 0, 0, 0, 0) from xlk (by decide +kernel)) rfl ?_
      refine xw_ixor (n := 32) (show xlook 97 31 = some (31, .ixor, 1, 0, 0, 0, 0) from xlk (by decide +kernel)) rfl ?_
      refine xw_puti (show xlook 97 32 = some (32, .putfield 102, 3, 9, 8, 0, 172) from xlk (by decide +kernel)) (xobf ht2 (by decide) (by decide)) rfl (n := 35) rfl ?_
      refine xw_aload_n (n := 36) (show xlook 97 35 = some (35, .aload_n 0, 1, 0, 0, 0, 0) from xlk (by decide +kernel)) rfl rfl ?_
      refine xw_getr (q := 37) (show xlook 97 36 = some (36, .getfield 26, 3, 11, 2, 0, 161) from xlk (by decide +kernel)) (by decide) (xobf xob_11 (by decide) (by decide)) rfl (xPT_get (k := 2) (f := 37) (xPT_fld (k := 8) hPT ht2 (by decide) (by decide)) xob_11 (by decide)) (by have := (xtg_11_2 _ xob_11.1 xob_11.2).1; omega) (n := 39) rfl ?_
      refine xw_iconst (n := 40) (show xlook 97 39 = some (39, .iconst 0, 1, 0, 0, 0, 0) from xlk (by decide +kernel)) rfl ?_
      refine xw_iload_n (n := 41) (show xlook 97 40 = some (40, .iload_n 1, 1, 0, 0, 0, 0) from xlk (by decide +kernel)) rfl rfl ?_
      refine xw_iconst (n := 42) (show xlook 97 41 = some (41, .iconst 0, 1, 0, 0, 0, 0) from xlk (by decide +kernel)) rfl ?_
      refine xw_iconst (n := 43) (show xlook 97 42 = some (42, .iconst 0, 1, 0, 0, 0, 0) from xlk (by decide +kernel)) rfl ?_
      obtain ⟨j3, hj3, rr3, G3, hm3, hG3, t⟩ := t
      obtain ⟨rfl, t⟩ := t
      refine xw_callv (dk := j3) (o := 37) (as := [vi (0), vi (x1), vi (0), vi (0)]) (show xlook 97 43 = some (43, .invokevirtual 105, 3, 2, 5, 0, 121) from xlk (by decide +kernel)) (by decide) hj3 ⟨Nat.le_of_ble_eq_true rfl, Nat.le_of_ble_eq_true rfl, Nat.le_of_ble_eq_true rfl⟩ ⟨(xtg_11_2 _ xob_11.1 xob_11.2).1, (xtg_11_2 _ xob_11.1 xob_11.2).2, by decide⟩ rfl hm3 (n := 46) rfl ?_
      show xW X d 97 46 [.ref (0), vi (x1)] [] G3 (xqi Q)
      refine xw_aload_n (n := 47) (show xlook 97 46 = some (46, .aload_n 0, 1, 0, 0, 0, 0) from xlk (by decide +kernel)) rfl rfl ?_
      obtain ⟨j4, hj4, rr4, G4, hm4, hG4, t⟩ := t
      obtain ⟨rfl, t⟩ := t
      refine xw_callv (dk := j4) (o := 0) (as := []) (show xlook 97 47 = some (47, .invokevirtual 88, 3, 96, 1, 0, 118) from xlk (by decide +kernel)) (by decide) hj4 ⟨Nat.le_of_ble_eq_true rfl, Nat.le_of_ble_eq_true rfl, Nat.le_of_ble_eq_true rfl⟩ ⟨xob_11.1, xob_11.2, by decide⟩ rfl hm4 (n := 50) rfl ?_
      show xW X d 97 50 [.ref (0), vi (x1)] [] G4 (xqi Q)
      refine xw_aload_n (n := 51) (show xlook 97 50 = some (50, .aload_n 0, 1, 0, 0, 0, 0) from xlk (by decide +kernel)) rfl rfl ?_
      refine xw_getr (q := 42) (show xlook 97 51 = some (51, .getfield 35, 3, 11, 3, 0, 162) from xlk (by decide +kernel)) (by decide) (xobf xob_11 (by decide) (by decide)) rfl (xPT_get (k := 3) (f := 42) hG4 xob_11 (by decide)) (by have := (xtg_11_3 _ xob_11.1 xob_11.2).1; omega) (n := 54) rfl ?_
      refine xw_getr (q := 43) (show xlook 97 54 = some (54, .getfield 109, 3, 6, 1, 0, 173) from xlk (by decide +kernel)) (by decide) (xobf (xtg_11_3 _ xob_11.1 xob_11.2) (by decide) (by decide)) rfl (xPT_get (k := 1) (f := 1) hG4 (xtg_11_3 _ xob_11.1 xob_11.2) (by decide)) (by have := (xtg_6_1 _ (xtg_11_3 _ xob_11.1 xob_11.2).1 (xtg_11_3 _ xob_11.1 xob_11.2).2).1; omega) (n := 57) rfl ?_
      refine xw_geti (show xlook 97 57 = some (57, .getfield 113, 3, 7, 0, 0, 174) from xlk (by decide +kernel)) (by decide) (xobf (xtg_6_1 _ (xtg_11_3 _ xob_11.1 xob_11.2).1 (xtg_11_3 _ xob_11.1 xob_11.2).2) (by decide) (by decide)) rfl (n := 60) rfl ?_
      exact xw_ireturn hG4 (show xlook 97 60 = some (60, .ireturn, 1, 0, 0, 0, 0) from xlk (by decide +kernel)) rfl (t hG4)
    · replace t := t.2 c
      refine xw_bipush (n := 19) (show xlook 97 17 = some (17, .bipush (-2), 2, 0, 0, 0, 0) from xlk (by decide +kernel)) rfl (by decide) ?_
      exact xw_ireturn hPT (show xlook 97 19 = some (19, .ireturn, 1, 0, 0, 0, 0) from xlk (by decide +kernel)) rfl (t hPT)
theorem m97 {X : List Int32} {d : Nat} {F : XF} {Q : Int → XF → Prop} {x1 : Int} (hPT : xPT F)  (t : inR (x1) ∧ ((((x1) < (0)) → (xPT (F) → Q ((-2)) (F))) ∧ (¬ ((x1) < (0)) → (∃ t1 : Nat, (F) (0) 0 = (t1 : Int) ∧ xob 9 t1 ∧ (inR (x1) ∧ inR (((F) (t1) 6) - (1)) ∧ ((((x1) < (((F) (t1) 6) - (1))) → (∃ t2 : Nat, (F) (0) 0 = (t2 : Int) ∧ xob 9 t2 ∧ (∃ (j3 : Nat), j3 < d ∧ xMV X j3 2 [.ref (37), vi (0), vi (x1), vi (0), vi (0)] (xup (F) (t2) 8 (xxor ((F) (t2) 8) (xshl (1) (x1)))) (fun (G3 : XF) => (∃ (j4 : Nat), j4 < d ∧ xMV X j4 96 [.ref (0)] (G3) (fun (G4 : XF) => (xPT (G4) → Q ((G4) (43) 0) (G4)))))))) ∧ (¬ ((x1) < (((F) (t1) 6) - (1))) → (xPT (F) → Q ((-2)) (F))))))))) : xMI X d 97 [.ref (0), vi (x1)] F Q := by
  show xW X d 97 0 [.ref (0), vi (x1)] [] F (xqi Q)
  exact s97_0 hPT  t

theorem s98_0 {X : List Int32} {d : Nat} {F : XF} {Q : Int → XF → Prop} {x1 : Int} {w2 : Value} (hPT : xPT F)  (t : inR (x1) ∧ ((((x1) < (0)) → (xPT (F) → Q ((-3)) (F))) ∧ (¬ ((x1) < (0)) → (inR (x1) ∧ ((((x1) ≤ (999)) → (∃ t1 : Nat, (F) (0) 0 = (t1 : Int) ∧ xob 9 t1 ∧ (∃ t2 : Nat, (F) (0) 0 = (t2 : Int) ∧ xob 9 t2 ∧ (∃ (j3 : Nat), j3 < d ∧ xMV X j3 2 [.ref (37), vi (1), vi ((F) (t1) 3), vi (0), vi (0)] (xup (F) (t2) 3 (x1)) (fun (G3 : XF) => (∃ (j4 : Nat), j4 < d ∧ xMV X j4 96 [.ref (0)] (G3) (fun (G4 : XF) => (xPT (G4) → Q ((F) (t1) 3) (G4))))))))) ∧ (¬ ((x1) ≤ (999)) → (xPT (F) → Q ((-3)) (F)))))))) : xW X d 98 0 [.ref (0), vi (x1), w2] [] F (xqi Q) := by
  refine xw_iload_n (n := 1) (show xlook 98 0 = some (0, .iload_n 1, 1, 0, 0, 0, 0) from xlk (by decide +kernel)) rfl rfl ?_
  obtain ⟨q0, t⟩ := t
  refine xw_if_lt (n := 4) (m := 11) (show xlook 98 1 = some (1, .ifCond .lt 10, 3, 11, 0, 0, 0) from xlk (by decide +kernel)) rfl rfl q0 ⟨fun c => ?_, fun c => ?_⟩
  · replace t := t.1 c
    refine xw_bipush (n := 13) (show xlook 98 11 = some (11, .bipush (-3), 2, 0, 0, 0, 0) from xlk (by decide +kernel)) rfl (by decide) ?_
    exact xw_ireturn hPT (show xlook 98 13 = some (13, .ireturn, 1, 0, 0, 0, 0) from xlk (by decide +kernel)) rfl (t hPT)
  · replace t := t.2 c
    refine xw_iload_n (n := 5) (show xlook 98 4 = some (4, .iload_n 1, 1, 0, 0, 0, 0) from xlk (by decide +kernel)) rfl rfl ?_
    refine xw_sipush (n := 8) (show xlook 98 5 = some (5, .sipush 999, 3, 0, 0, 0, 0) from xlk (by decide +kernel)) rfl (by decide) ?_
    obtain ⟨q0, t⟩ := t
    refine xw_icmp_le (n := 11) (m := 14) (show xlook 98 8 = some (8, .if_icmp .le 6, 3, 14, 0, 0, 0) from xlk (by decide +kernel)) rfl rfl q0 ⟨by decide, by decide⟩ ⟨fun c => ?_, fun c => ?_⟩
    · replace t := t.1 c
      refine xw_aload_n (n := 15) (show xlook 98 14 = some (14, .aload_n 0, 1, 0, 0, 0, 0) from xlk (by decide +kernel)) rfl rfl ?_
      obtain ⟨t1, q1, ht1, t⟩ := t
      refine xw_getr (q := t1) (show xlook 98 15 = some (15, .getfield 10, 3, 11, 0, 0, 159) from xlk (by decide +kernel)) (by decide) (xobf xob_11 (by decide) (by decide)) rfl q1 (by have := ht1.1; omega) (n := 18) rfl ?_
      refine xw_geti (show xlook 98 18 = some (18, .getfield 118, 3, 9, 3, 0, 175) from xlk (by decide +kernel)) (by decide) (xobf ht1 (by decide) (by decide)) rfl (n := 21) rfl ?_
      refine xw_istore_n (n := 22) (show xlook 98 21 = some (21, .istore_n 2, 1, 0, 0, 0, 0) from xlk (by decide +kernel)) rfl (ls' := [.ref (0), vi (x1), vi ((F) (t1) 3)]) (Nat.le_of_ble_eq_true rfl) rfl ?_
      refine xw_aload_n (n := 23) (show xlook 98 22 = some (22, .aload_n 0, 1, 0, 0, 0, 0) from xlk (by decide +kernel)) rfl rfl ?_
      obtain ⟨t2, q1, ht2, t⟩ := t
      refine xw_getr (q := t2) (show xlook 98 23 = some (23, .getfield 10, 3, 11, 0, 0, 159) from xlk (by decide +kernel)) (by decide) (xobf xob_11 (by decide) (by decide)) rfl q1 (by have := ht2.1; omega) (n := 26) rfl ?_
      refine xw_iload_n (n := 27) (show xlook 98 26 = some (26, .iload_n 1, 1, 0, 0, 0, 0) from xlk (by decide +kernel)) rfl rfl ?_
      refine xw_puti (show xlook 98 27 = some (27, .putfield 118, 3, 9, 3, 0, 175) from xlk (by decide +kernel)) (xobf ht2 (by decide) (by decide)) rfl (n := 30) rfl ?_
      refine xw_aload_n (n := 31) (show xlook 98 30 = some (30, .aload_n 0, 1, 0, 0, 0, 0) from xlk (by decide +kernel)) rfl rfl ?_
      refine xw_getr (q := 37) (show xlook 98 31 = some (31, .getfield 26, 3, 11, 2, 0, 161) from xlk (by decide +kernel)) (by decide) (xobf xob_11 (by decide) (by decide)) rfl (xPT_get (k := 2) (f := 37) (xPT_fld (k := 3) hPT ht2 (by decide) (by decide)) xob_11 (by decide)) (by have := (xtg_11_2 _ xob_11.1 xob_11.2).1; omega) (n := 34) rfl ?_
      refine xw_iconst (n := 35) (show xlook 98 34 = some (34, .iconst 1, 1, 0, 0, 0, 0) from xlk (by decide +kernel)) rfl ?_
      refine xw_iload_n (n := 36) (show xlook 98 35 = some (35, .iload_n 2, 1, 0, 0, 0, 0) from xlk (by decide +kernel)) rfl rfl ?_
      refine xw_iconst (n := 37) (show xlook 98 36 = some (36, .iconst 0, 1, 0, 0, 0, 0) from xlk (by decide +kernel)) rfl ?_
      refine xw_iconst (n := 38) (show xlook 98 37 = some (37, .iconst 0, 1, 0, 0, 0, 0) from xlk (by decide +kernel)) rfl ?_
      obtain ⟨j3, hj3, rr3, G3, hm3, hG3, t⟩ := t
      obtain ⟨rfl, t⟩ := t
      refine xw_callv (dk := j3) (o := 37) (as := [vi (1), vi ((F) (t1) 3), vi (0), vi (0)]) (show xlook 98 38 = some (38, .invokevirtual 105, 3, 2, 5, 0, 121) from xlk (by decide +kernel)) (by decide) hj3 ⟨Nat.le_of_ble_eq_true rfl, Nat.le_of_ble_eq_true rfl, Nat.le_of_ble_eq_true rfl⟩ ⟨(xtg_11_2 _ xob_11.1 xob_11.2).1, (xtg_11_2 _ xob_11.1 xob_11.2).2, by decide⟩ rfl hm3 (n := 41) rfl ?_
      show xW X d 98 41 [.ref (0), vi (x1), vi ((F) (t1) 3)] [] G3 (xqi Q)
      refine xw_aload_n (n := 42) (show xlook 98 41 = some (41, .aload_n 0, 1, 0, 0, 0, 0) from xlk (by decide +kernel)) rfl rfl ?_
      obtain ⟨j4, hj4, rr4, G4, hm4, hG4, t⟩ := t
      obtain ⟨rfl, t⟩ := t
      refine xw_callv (dk := j4) (o := 0) (as := []) (show xlook 98 42 = some (42, .invokevirtual 88, 3, 96, 1, 0, 118) from xlk (by decide +kernel)) (by decide) hj4 ⟨Nat.le_of_ble_eq_true rfl, Nat.le_of_ble_eq_true rfl, Nat.le_of_ble_eq_true rfl⟩ ⟨xob_11.1, xob_11.2, by decide⟩ rfl hm4 (n := 45) rfl ?_
      show xW X d 98 45 [.ref (0), vi (x1), vi ((F) (t1) 3)] [] G4 (xqi Q)
      refine xw_iload_n (n := 46) (show xlook 98 45 = some (45, .iload_n 2, 1, 0, 0, 0, 0) from xlk (by decide +kernel)) rfl rfl ?_
      exact xw_ireturn hG4 (show xlook 98 46 = some (46, .ireturn, 1, 0, 0, 0, 0) from xlk (by decide +kernel)) rfl (t hG4)
    · replace t := t.2 c
      refine xw_bipush (n := 13) (show xlook 98 11 = some (11, .bipush (-3), 2, 0, 0, 0, 0) from xlk (by decide +kernel)) rfl (by decide) ?_
      exact xw_ireturn hPT (show xlook 98 13 = some (13, .ireturn, 1, 0, 0, 0, 0) from xlk (by decide +kernel)) rfl (t hPT)
theorem m98 {X : List Int32} {d : Nat} {F : XF} {Q : Int → XF → Prop} {x1 : Int} (hPT : xPT F)  (t : inR (x1) ∧ ((((x1) < (0)) → (xPT (F) → Q ((-3)) (F))) ∧ (¬ ((x1) < (0)) → (inR (x1) ∧ ((((x1) ≤ (999)) → (∃ t1 : Nat, (F) (0) 0 = (t1 : Int) ∧ xob 9 t1 ∧ (∃ t2 : Nat, (F) (0) 0 = (t2 : Int) ∧ xob 9 t2 ∧ (∃ (j3 : Nat), j3 < d ∧ xMV X j3 2 [.ref (37), vi (1), vi ((F) (t1) 3), vi (0), vi (0)] (xup (F) (t2) 3 (x1)) (fun (G3 : XF) => (∃ (j4 : Nat), j4 < d ∧ xMV X j4 96 [.ref (0)] (G3) (fun (G4 : XF) => (xPT (G4) → Q ((F) (t1) 3) (G4))))))))) ∧ (¬ ((x1) ≤ (999)) → (xPT (F) → Q ((-3)) (F)))))))) : xMI X d 98 [.ref (0), vi (x1)] F Q := by
  show xW X d 98 0 [.ref (0), vi (x1), xU0] [] F (xqi Q)
  exact s98_0 hPT  t

theorem s99_0 {X : List Int32} {d : Nat} {F : XF} {Q : Int → XF → Prop} {x1 : Int} {x2 : Int} {x3 : Int} (hPT : xPT F)  (t : ∃ (j1 : Nat), j1 < d ∧ xMI X j1 128 [.ref (0), vi (x1)] (F) (fun (y1 : Int) (G1 : XF) => (inR (y1) ∧ (((¬ (y1) = (0)) → (∃ (j2 : Nat), j2 < d ∧ xMI X j2 131 [vi (x2)] (G1) (fun (y2 : Int) (G2 : XF) => (inR (y2) ∧ ((((y2) = (0)) → (xPT (G2) → Q ((-3)) (G2))) ∧ (¬ ((y2) = (0)) → (inR (x3) ∧ ((((x3) < (1)) → (xPT (G2) → Q ((-3)) (G2))) ∧ (¬ ((x3) < (1)) → (inR (x3) ∧ ((((x3) ≤ (500)) → (∃ t3 : Nat, (G2) (0) 0 = (t3 : Int) ∧ xob 9 t3 ∧ (inR ((G2) (t3) 11) ∧ (((((G2) (t3) 11) < (6)) → (∃ t4 : Nat, (G2) (0) 0 = (t4 : Int) ∧ xob 9 t4 ∧ (∃ (j5 : Nat), j5 < d ∧ xMV X j5 74 [.ref (t4), vi (x1), vi (x2), vi (x3)] (G2) (fun (G5 : XF) => (∃ (j6 : Nat), j6 < d ∧ xMV X j6 2 [.ref (37), vi (2), vi (0), vi (0), vi (0)] (G5) (fun (G6 : XF) => (∃ (j7 : Nat), j7 < d ∧ xMV X j7 96 [.ref (0)] (G6) (fun (G7 : XF) => (∃ t8 : Nat, (G7) (0) 0 = (t8 : Int) ∧ xob 9 t8 ∧ (xPT (G7) → Q ((G7) (t8) 11) (G7))))))))))) ∧ (¬ (((G2) (t3) 11) < (6)) → (xPT (G2) → Q ((-4)) (G2))))))) ∧ (¬ ((x3) ≤ (500)) → (xPT (G2) → Q ((-3)) (G2)))))))))))))) ∧ (¬ (¬ (y1) = (0)) → (xPT (G1) → Q ((-2)) (G1))))))) : xW X d 99 0 [.ref (0), vi (x1), vi (x2), vi (x3)] [] F (xqi Q) := by
  refine xw_aload_n (n := 1) (show xlook 99 0 = some (0, .aload_n 0, 1, 0, 0, 0, 0) from xlk (by decide +kernel)) rfl rfl ?_
  refine xw_iload_n (n := 2) (show xlook 99 1 = some (1, .iload_n 1, 1, 0, 0, 0, 0) from xlk (by decide +kernel)) rfl rfl ?_
  obtain ⟨j1, hj1, rr1, G1, hm1, hG1, t⟩ := t
  obtain ⟨y1, rfl, t⟩ := t
  refine xw_callv (dk := j1) (o := 0) (as := [vi (x1)]) (show xlook 99 2 = some (2, .invokevirtual 121, 3, 128, 2, 0, 122) from xlk (by decide +kernel)) (by decide) hj1 ⟨Nat.le_of_ble_eq_true rfl, Nat.le_of_ble_eq_true rfl, Nat.le_of_ble_eq_true rfl⟩ ⟨xob_11.1, xob_11.2, by decide⟩ rfl hm1 (n := 5) rfl ?_
  show xW X d 99 5 [.ref (0), vi (x1), vi (x2), vi (x3)] [vi (y1)] G1 (xqi Q)
  obtain ⟨q0, t⟩ := t
  refine xw_if_ne (n := 8) (m := 11) (show xlook 99 5 = some (5, .ifCond .ne 6, 3, 11, 0, 0, 0) from xlk (by decide +kernel)) rfl rfl q0 ⟨fun c => ?_, fun c => ?_⟩
  · replace t := t.1 c
    refine xw_iload_n (n := 12) (show xlook 99 11 = some (11, .iload_n 2, 1, 0, 0, 0, 0) from xlk (by decide +kernel)) rfl rfl ?_
    obtain ⟨j2, hj2, rr2, G2, hm2, hG2, t⟩ := t
    obtain ⟨y2, rfl, t⟩ := t
    refine xw_calls (dk := j2) (as := [vi (x2)]) (show xlook 99 12 = some (12, .invokestatic 125, 3, 131, 1, 0, 123) from xlk (by decide +kernel)) (by decide) hj2 ⟨Nat.le_of_ble_eq_true rfl, Nat.le_of_ble_eq_true rfl, Nat.le_of_ble_eq_true rfl, by decide⟩ rfl hm2 (n := 15) rfl ?_
    show xW X d 99 15 [.ref (0), vi (x1), vi (x2), vi (x3)] [vi (y2)] G2 (xqi Q)
    obtain ⟨q0, t⟩ := t
    refine xw_if_eq (n := 18) (m := 30) (show xlook 99 15 = some (15, .ifCond .eq 15, 3, 30, 0, 0, 0) from xlk (by decide +kernel)) rfl rfl q0 ⟨fun c => ?_, fun c => ?_⟩
    · replace t := t.1 c
      refine xw_bipush (n := 32) (show xlook 99 30 = some (30, .bipush (-3), 2, 0, 0, 0, 0) from xlk (by decide +kernel)) rfl (by decide) ?_
      exact xw_ireturn hG2 (show xlook 99 32 = some (32, .ireturn, 1, 0, 0, 0, 0) from xlk (by decide +kernel)) rfl (t hG2)
    · replace t := t.2 c
      refine xw_iload_n (n := 19) (show xlook 99 18 = some (18, .iload_n 3, 1, 0, 0, 0, 0) from xlk (by decide +kernel)) rfl rfl ?_
      refine xw_iconst (n := 20) (show xlook 99 19 = some (19, .iconst 1, 1, 0, 0, 0, 0) from xlk (by decide +kernel)) rfl ?_
      obtain ⟨q0, t⟩ := t
      refine xw_icmp_lt (n := 23) (m := 30) (show xlook 99 20 = some (20, .if_icmp .lt 10, 3, 30, 0, 0, 0) from xlk (by decide +kernel)) rfl rfl q0 ⟨by decide, by decide⟩ ⟨fun c => ?_, fun c => ?_⟩
      · replace t := t.1 c
        refine xw_bipush (n := 32) (show xlook 99 30 = some (30, .bipush (-3), 2, 0, 0, 0, 0) from xlk (by decide +kernel)) rfl (by decide) ?_
        exact xw_ireturn hG2 (show xlook 99 32 = some (32, .ireturn, 1, 0, 0, 0, 0) from xlk (by decide +kernel)) rfl (t hG2)
      · replace t := t.2 c
        refine xw_iload_n (n := 24) (show xlook 99 23 = some (23, .iload_n 3, 1, 0, 0, 0, 0) from xlk (by decide +kernel)) rfl rfl ?_
        refine xw_sipush (n := 27) (show xlook 99 24 = some (24, .sipush 500, 3, 0, 0, 0, 0) from xlk (by decide +kernel)) rfl (by decide) ?_
        obtain ⟨q0, t⟩ := t
        refine xw_icmp_le (n := 30) (m := 33) (show xlook 99 27 = some (27, .if_icmp .le 6, 3, 33, 0, 0, 0) from xlk (by decide +kernel)) rfl rfl q0 ⟨by decide, by decide⟩ ⟨fun c => ?_, fun c => ?_⟩
        · replace t := t.1 c
          refine xw_aload_n (n := 34) (show xlook 99 33 = some (33, .aload_n 0, 1, 0, 0, 0, 0) from xlk (by decide +kernel)) rfl rfl ?_
          obtain ⟨t3, q1, ht3, t⟩ := t
          refine xw_getr (q := t3) (show xlook 99 34 = some (34, .getfield 10, 3, 11, 0, 0, 159) from xlk (by decide +kernel)) (by decide) (xobf xob_11 (by decide) (by decide)) rfl q1 (by have := ht3.1; omega) (n := 37) rfl ?_
          refine xw_geti (show xlook 99 37 = some (37, .getfield 128, 3, 9, 11, 0, 176) from xlk (by decide +kernel)) (by decide) (xobf ht3 (by decide) (by decide)) rfl (n := 40) rfl ?_
          refine xw_bipush (n := 42) (show xlook 99 40 = some (40, .bipush 6, 2, 0, 0, 0, 0) from xlk (by decide +kernel)) rfl (by decide) ?_
          obtain ⟨q0, t⟩ := t
          refine xw_icmp_lt (n := 45) (m := 48) (show xlook 99 42 = some (42, .if_icmp .lt 6, 3, 48, 0, 0, 0) from xlk (by decide +kernel)) rfl rfl q0 ⟨by decide, by decide⟩ ⟨fun c => ?_, fun c => ?_⟩
          · replace t := t.1 c
            refine xw_aload_n (n := 49) (show xlook 99 48 = some (48, .aload_n 0, 1, 0, 0, 0, 0) from xlk (by decide +kernel)) rfl rfl ?_
            obtain ⟨t4, q1, ht4, t⟩ := t
            refine xw_getr (q := t4) (show xlook 99 49 = some (49, .getfield 10, 3, 11, 0, 0, 159) from xlk (by decide +kernel)) (by decide) (xobf xob_11 (by decide) (by decide)) rfl q1 (by have := ht4.1; omega) (n := 52) rfl ?_
            refine xw_iload_n (n := 53) (show xlook 99 52 = some (52, .iload_n 1, 1, 0, 0, 0, 0) from xlk (by decide +kernel)) rfl rfl ?_
            refine xw_iload_n (n := 54) (show xlook 99 53 = some (53, .iload_n 2, 1, 0, 0, 0, 0) from xlk (by decide +kernel)) rfl rfl ?_
            refine xw_iload_n (n := 55) (show xlook 99 54 = some (54, .iload_n 3, 1, 0, 0, 0, 0) from xlk (by decide +kernel)) rfl rfl ?_
            obtain ⟨j5, hj5, rr5, G5, hm5, hG5, t⟩ := t
            obtain ⟨rfl, t⟩ := t
            refine xw_callv (dk := j5) (o := t4) (as := [vi (x1), vi (x2), vi (x3)]) (show xlook 99 55 = some (55, .invokevirtual 131, 3, 74, 4, 0, 124) from xlk (by decide +kernel)) (by decide) hj5 ⟨Nat.le_of_ble_eq_true rfl, Nat.le_of_ble_eq_true rfl, Nat.le_of_ble_eq_true rfl⟩ ⟨ht4.1, ht4.2, by decide⟩ rfl hm5 (n := 58) rfl ?_
            show xW X d 99 58 [.ref (0), vi (x1), vi (x2), vi (x3)] [] G5 (xqi Q)
            refine xw_aload_n (n := 59) (show xlook 99 58 = some (58, .aload_n 0, 1, 0, 0, 0, 0) from xlk (by decide +kernel)) rfl rfl ?_
            refine xw_getr (q := 37) (show xlook 99 59 = some (59, .getfield 26, 3, 11, 2, 0, 161) from xlk (by decide +kernel)) (by decide) (xobf xob_11 (by decide) (by decide)) rfl (xPT_get (k := 2) (f := 37) hG5 xob_11 (by decide)) (by have := (xtg_11_2 _ xob_11.1 xob_11.2).1; omega) (n := 62) rfl ?_
            refine xw_iconst (n := 63) (show xlook 99 62 = some (62, .iconst 2, 1, 0, 0, 0, 0) from xlk (by decide +kernel)) rfl ?_
            refine xw_iconst (n := 64) (show xlook 99 63 = some (63, .iconst 0, 1, 0, 0, 0, 0) from xlk (by decide +kernel)) rfl ?_
            refine xw_iconst (n := 65) (show xlook 99 64 = some (64, .iconst 0, 1, 0, 0, 0, 0) from xlk (by decide +kernel)) rfl ?_
            refine xw_iconst (n := 66) (show xlook 99 65 = some (65, .iconst 0, 1, 0, 0, 0, 0) from xlk (by decide +kernel)) rfl ?_
            obtain ⟨j6, hj6, rr6, G6, hm6, hG6, t⟩ := t
            obtain ⟨rfl, t⟩ := t
            refine xw_callv (dk := j6) (o := 37) (as := [vi (2), vi (0), vi (0), vi (0)]) (show xlook 99 66 = some (66, .invokevirtual 105, 3, 2, 5, 0, 121) from xlk (by decide +kernel)) (by decide) hj6 ⟨Nat.le_of_ble_eq_true rfl, Nat.le_of_ble_eq_true rfl, Nat.le_of_ble_eq_true rfl⟩ ⟨(xtg_11_2 _ xob_11.1 xob_11.2).1, (xtg_11_2 _ xob_11.1 xob_11.2).2, by decide⟩ rfl hm6 (n := 69) rfl ?_
            show xW X d 99 69 [.ref (0), vi (x1), vi (x2), vi (x3)] [] G6 (xqi Q)
            refine xw_aload_n (n := 70) (show xlook 99 69 = some (69, .aload_n 0, 1, 0, 0, 0, 0) from xlk (by decide +kernel)) rfl rfl ?_
            obtain ⟨j7, hj7, rr7, G7, hm7, hG7, t⟩ := t
            obtain ⟨rfl, t⟩ := t
            refine xw_callv (dk := j7) (o := 0) (as := []) (show xlook 99 70 = some (70, .invokevirtual 88, 3, 96, 1, 0, 118) from xlk (by decide +kernel)) (by decide) hj7 ⟨Nat.le_of_ble_eq_true rfl, Nat.le_of_ble_eq_true rfl, Nat.le_of_ble_eq_true rfl⟩ ⟨xob_11.1, xob_11.2, by decide⟩ rfl hm7 (n := 73) rfl ?_
            show xW X d 99 73 [.ref (0), vi (x1), vi (x2), vi (x3)] [] G7 (xqi Q)
            refine xw_aload_n (n := 74) (show xlook 99 73 = some (73, .aload_n 0, 1, 0, 0, 0, 0) from xlk (by decide +kernel)) rfl rfl ?_
            obtain ⟨t8, q1, ht8, t⟩ := t
            refine xw_getr (q := t8) (show xlook 99 74 = some (74, .getfield 10, 3, 11, 0, 0, 159) from xlk (by decide +kernel)) (by decide) (xobf xob_11 (by decide) (by decide)) rfl q1 (by have := ht8.1; omega) (n := 77) rfl ?_
            refine xw_geti (show xlook 99 77 = some (77, .getfield 128, 3, 9, 11, 0, 176) from xlk (by decide +kernel)) (by decide) (xobf ht8 (by decide) (by decide)) rfl (n := 80) rfl ?_
            exact xw_ireturn hG7 (show xlook 99 80 = some (80, .ireturn, 1, 0, 0, 0, 0) from xlk (by decide +kernel)) rfl (t hG7)
          · replace t := t.2 c
            refine xw_bipush (n := 47) (show xlook 99 45 = some (45, .bipush (-4), 2, 0, 0, 0, 0) from xlk (by decide +kernel)) rfl (by decide) ?_
            exact xw_ireturn hG2 (show xlook 99 47 = some (47, .ireturn, 1, 0, 0, 0, 0) from xlk (by decide +kernel)) rfl (t hG2)
        · replace t := t.2 c
          refine xw_bipush (n := 32) (show xlook 99 30 = some (30, .bipush (-3), 2, 0, 0, 0, 0) from xlk (by decide +kernel)) rfl (by decide) ?_
          exact xw_ireturn hG2 (show xlook 99 32 = some (32, .ireturn, 1, 0, 0, 0, 0) from xlk (by decide +kernel)) rfl (t hG2)
  · replace t := t.2 c
    refine xw_bipush (n := 10) (show xlook 99 8 = some (8, .bipush (-2), 2, 0, 0, 0, 0) from xlk (by decide +kernel)) rfl (by decide) ?_
    exact xw_ireturn hG1 (show xlook 99 10 = some (10, .ireturn, 1, 0, 0, 0, 0) from xlk (by decide +kernel)) rfl (t hG1)
theorem m99 {X : List Int32} {d : Nat} {F : XF} {Q : Int → XF → Prop} {x1 : Int} {x2 : Int} {x3 : Int} (hPT : xPT F)  (t : ∃ (j1 : Nat), j1 < d ∧ xMI X j1 128 [.ref (0), vi (x1)] (F) (fun (y1 : Int) (G1 : XF) => (inR (y1) ∧ (((¬ (y1) = (0)) → (∃ (j2 : Nat), j2 < d ∧ xMI X j2 131 [vi (x2)] (G1) (fun (y2 : Int) (G2 : XF) => (inR (y2) ∧ ((((y2) = (0)) → (xPT (G2) → Q ((-3)) (G2))) ∧ (¬ ((y2) = (0)) → (inR (x3) ∧ ((((x3) < (1)) → (xPT (G2) → Q ((-3)) (G2))) ∧ (¬ ((x3) < (1)) → (inR (x3) ∧ ((((x3) ≤ (500)) → (∃ t3 : Nat, (G2) (0) 0 = (t3 : Int) ∧ xob 9 t3 ∧ (inR ((G2) (t3) 11) ∧ (((((G2) (t3) 11) < (6)) → (∃ t4 : Nat, (G2) (0) 0 = (t4 : Int) ∧ xob 9 t4 ∧ (∃ (j5 : Nat), j5 < d ∧ xMV X j5 74 [.ref (t4), vi (x1), vi (x2), vi (x3)] (G2) (fun (G5 : XF) => (∃ (j6 : Nat), j6 < d ∧ xMV X j6 2 [.ref (37), vi (2), vi (0), vi (0), vi (0)] (G5) (fun (G6 : XF) => (∃ (j7 : Nat), j7 < d ∧ xMV X j7 96 [.ref (0)] (G6) (fun (G7 : XF) => (∃ t8 : Nat, (G7) (0) 0 = (t8 : Int) ∧ xob 9 t8 ∧ (xPT (G7) → Q ((G7) (t8) 11) (G7))))))))))) ∧ (¬ (((G2) (t3) 11) < (6)) → (xPT (G2) → Q ((-4)) (G2))))))) ∧ (¬ ((x3) ≤ (500)) → (xPT (G2) → Q ((-3)) (G2)))))))))))))) ∧ (¬ (¬ (y1) = (0)) → (xPT (G1) → Q ((-2)) (G1))))))) : xMI X d 99 [.ref (0), vi (x1), vi (x2), vi (x3)] F Q := by
  show xW X d 99 0 [.ref (0), vi (x1), vi (x2), vi (x3)] [] F (xqi Q)
  exact s99_0 hPT  t

theorem s100_0 {X : List Int32} {d : Nat} {F : XF} {Q : Int → XF → Prop} {w1 : Value} (hPT : xPT F)  (t : ∃ t1 : Nat, (F) (0) 0 = (t1 : Int) ∧ xob 9 t1 ∧ (inR ((F) (t1) 11) ∧ ((((1) ≤ ((F) (t1) 11)) → (∃ t2 : Nat, (F) (0) 0 = (t2 : Int) ∧ xob 9 t2 ∧ (∃ t3 : Nat, (xup (F) (t2) 11 (((F) (t2) 11) - (1))) (0) 0 = (t3 : Int) ∧ xob 9 t3 ∧ (∃ t4 : Nat, (xup (F) (t2) 11 (((F) (t2) 11) - (1))) (0) 0 = (t4 : Int) ∧ xob 9 t4 ∧ ((0 ≤ ((xup (F) (t2) 11 (((F) (t2) 11) - (1))) (t3) 11) ∧ ((xup (F) (t2) 11 (((F) (t2) 11) - (1))) (t3) 11) < 7) ∧ (∃ t5 : Nat, (xup (F) (t2) 11 (((F) (t2) 11) - (1))) (0) 0 = (t5 : Int) ∧ xob 9 t5 ∧ ((0 ≤ ((xup (F) (t2) 11 (((F) (t2) 11) - (1))) (t3) 11) ∧ ((xup (F) (t2) 11 (((F) (t2) 11) - (1))) (t3) 11) < 7) ∧ (∃ t6 : Nat, (xup (F) (t2) 11 (((F) (t2) 11) - (1))) (0) 0 = (t6 : Int) ∧ xob 9 t6 ∧ ((0 ≤ ((xup (F) (t2) 11 (((F) (t2) 11) - (1))) (t3) 11) ∧ ((xup (F) (t2) 11 (((F) (t2) 11) - (1))) (t3) 11) < 7) ∧ (∃ (j7 : Nat), j7 < d ∧ xMV X j7 2 [.ref (37), vi (3), vi ((xup (F) (t2) 11 (((F) (t2) 11) - (1))) (t4 + 4) ((xup (F) (t2) 11 (((F) (t2) 11) - (1))) (t3) 11)), vi ((xup (F) (t2) 11 (((F) (t2) 11) - (1))) (t5 + 5) ((xup (F) (t2) 11 (((F) (t2) 11) - (1))) (t3) 11)), vi ((xup (F) (t2) 11 (((F) (t2) 11) - (1))) (t6 + 6) ((xup (F) (t2) 11 (((F) (t2) 11) - (1))) (t3) 11))] (xup (F) (t2) 11 (((F) (t2) 11) - (1))) (fun (G7 : XF) => (∃ (j8 : Nat), j8 < d ∧ xMV X j8 96 [.ref (0)] (G7) (fun (G8 : XF) => (∃ t9 : Nat, (G8) (0) 0 = (t9 : Int) ∧ xob 9 t9 ∧ (xPT (G8) → Q ((G8) (t9) 11) (G8)))))))))))))))) ∧ (¬ ((1) ≤ ((F) (t1) 11)) → (xPT (F) → Q ((-5)) (F)))))) : xW X d 100 0 [.ref (0), w1] [] F (xqi Q) := by
  refine xw_aload_n (n := 1) (show xlook 100 0 = some (0, .aload_n 0, 1, 0, 0, 0, 0) from xlk (by decide +kernel)) rfl rfl ?_
  obtain ⟨t1, q1, ht1, t⟩ := t
  refine xw_getr (q := t1) (show xlook 100 1 = some (1, .getfield 10, 3, 11, 0, 0, 159) from xlk (by decide +kernel)) (by decide) (xobf xob_11 (by decide) (by decide)) rfl q1 (by have := ht1.1; omega) (n := 4) rfl ?_
  refine xw_geti (show xlook 100 4 = some (4, .getfield 128, 3, 9, 11, 0, 176) from xlk (by decide +kernel)) (by decide) (xobf ht1 (by decide) (by decide)) rfl (n := 7) rfl ?_
  refine xw_iconst (n := 8) (show xlook 100 7 = some (7, .iconst 1, 1, 0, 0, 0, 0) from xlk (by decide +kernel)) rfl ?_
  obtain ⟨q0, t⟩ := t
  refine xw_icmp_ge (n := 11) (m := 14) (show xlook 100 8 = some (8, .if_icmp .ge 6, 3, 14, 0, 0, 0) from xlk (by decide +kernel)) rfl rfl q0 ⟨by decide, by decide⟩ ⟨fun c => ?_, fun c => ?_⟩
  · replace t := t.1 c
    refine xw_aload_n (n := 15) (show xlook 100 14 = some (14, .aload_n 0, 1, 0, 0, 0, 0) from xlk (by decide +kernel)) rfl rfl ?_
    obtain ⟨t2, q1, ht2, t⟩ := t
    refine xw_getr (q := t2) (show xlook 100 15 = some (15, .getfield 10, 3, 11, 0, 0, 159) from xlk (by decide +kernel)) (by decide) (xobf xob_11 (by decide) (by decide)) rfl q1 (by have := ht2.1; omega) (n := 18) rfl ?_
    refine xw_dupr (n := 19) (show xlook 100 18 = some (18, .dup, 1, 0, 0, 0, 0) from xlk (by decide +kernel)) rfl ?_
    refine xw_geti (show xlook 100 19 = some (19, .getfield 128, 3, 9, 11, 0, 176) from xlk (by decide +kernel)) (by decide) (xobf ht2 (by decide) (by decide)) rfl (n := 22) rfl ?_
    refine xw_iconst (n := 23) (show xlook 100 22 = some (22, .iconst 1, 1, 0, 0, 0, 0) from xlk (by decide +kernel)) rfl ?_
    refine xw_isub (n := 24) (show xlook 100 23 = some (23, .isub, 1, 0, 0, 0, 0) from xlk (by decide +kernel)) rfl ?_
    refine xw_puti (show xlook 100 24 = some (24, .putfield 128, 3, 9, 11, 0, 176) from xlk (by decide +kernel)) (xobf ht2 (by decide) (by decide)) rfl (n := 27) rfl ?_
    refine xw_aload_n (n := 28) (show xlook 100 27 = some (27, .aload_n 0, 1, 0, 0, 0, 0) from xlk (by decide +kernel)) rfl rfl ?_
    obtain ⟨t3, q1, ht3, t⟩ := t
    refine xw_getr (q := t3) (show xlook 100 28 = some (28, .getfield 10, 3, 11, 0, 0, 159) from xlk (by decide +kernel)) (by decide) (xobf xob_11 (by decide) (by decide)) rfl q1 (by have := ht3.1; omega) (n := 31) rfl ?_
    refine xw_geti (show xlook 100 31 = some (31, .getfield 128, 3, 9, 11, 0, 176) from xlk (by decide +kernel)) (by decide) (xobf ht3 (by decide) (by decide)) rfl (n := 34) rfl ?_
    refine xw_istore_n (n := 35) (show xlook 100 34 = some (34, .istore_n 1, 1, 0, 0, 0, 0) from xlk (by decide +kernel)) rfl (ls' := [.ref (0), vi ((xup (F) (t2) 11 (((F) (t2) 11) - (1))) (t3) 11)]) (Nat.le_of_ble_eq_true rfl) rfl ?_
    refine xw_aload_n (n := 36) (show xlook 100 35 = some (35, .aload_n 0, 1, 0, 0, 0, 0) from xlk (by decide +kernel)) rfl rfl ?_
    refine xw_getr (q := 37) (show xlook 100 36 = some (36, .getfield 26, 3, 11, 2, 0, 161) from xlk (by decide +kernel)) (by decide) (xobf xob_11 (by decide) (by decide)) rfl (xPT_get (k := 2) (f := 37) (xPT_fld (k := 11) hPT ht2 (by decide) (by decide)) xob_11 (by decide)) (by have := (xtg_11_2 _ xob_11.1 xob_11.2).1; omega) (n := 39) rfl ?_
    refine xw_iconst (n := 40) (show xlook 100 39 = some (39, .iconst 3, 1, 0, 0, 0, 0) from xlk (by decide +kernel)) rfl ?_
    refine xw_aload_n (n := 41) (show xlook 100 40 = some (40, .aload_n 0, 1, 0, 0, 0, 0) from xlk (by decide +kernel)) rfl rfl ?_
    obtain ⟨t4, q1, ht4, t⟩ := t
    refine xw_getr (q := t4) (show xlook 100 41 = some (41, .getfield 10, 3, 11, 0, 0, 159) from xlk (by decide +kernel)) (by decide) (xobf xob_11 (by decide) (by decide)) rfl q1 (by have := ht4.1; omega) (n := 44) rfl ?_
    refine xw_getr (q := t4 + 4) (show xlook 100 44 = some (44, .getfield 135, 3, 9, 12, 0, 177) from xlk (by decide +kernel)) (by decide) (xobf ht4 (by decide) (by decide)) rfl (xPT_get (k := 12) (f := 4) (xPT_fld (k := 11) hPT ht2 (by decide) (by decide)) ht4 (by decide)) (by have := (xtg_9_12 _ ht4.1 ht4.2).1.1; omega) (n := 47) rfl ?_
    refine xw_iload_n (n := 48) (show xlook 100 47 = some (47, .iload_n 1, 1, 0, 0, 0, 0) from xlk (by decide +kernel)) rfl rfl ?_
    obtain ⟨q1, t⟩ := t
    refine xw_iald (show xlook 100 48 = some (48, .iaload, 1, 0, 0, 0, 0) from xlk (by decide +kernel)) (xtg_9_12 _ ht4.1 ht4.2).1 (by rw [(xtg_9_12 _ ht4.1 ht4.2).2]; exact q1) (n := 49) rfl ?_
    refine xw_aload_n (n := 50) (show xlook 100 49 = some (49, .aload_n 0, 1, 0, 0, 0, 0) from xlk (by decide +kernel)) rfl rfl ?_
    obtain ⟨t5, q1, ht5, t⟩ := t
    refine xw_getr (q := t5) (show xlook 100 50 = some (50, .getfield 10, 3, 11, 0, 0, 159) from xlk (by decide +kernel)) (by decide) (xobf xob_11 (by decide) (by decide)) rfl q1 (by have := ht5.1; omega) (n := 53) rfl ?_
    refine xw_getr (q := t5 + 5) (show xlook 100 53 = some (53, .getfield 139, 3, 9, 13, 0, 178) from xlk (by decide +kernel)) (by decide) (xobf ht5 (by decide) (by decide)) rfl (xPT_get (k := 13) (f := 5) (xPT_fld (k := 11) hPT ht2 (by decide) (by decide)) ht5 (by decide)) (by have := (xtg_9_13 _ ht5.1 ht5.2).1.1; omega) (n := 56) rfl ?_
    refine xw_iload_n (n := 57) (show xlook 100 56 = some (56, .iload_n 1, 1, 0, 0, 0, 0) from xlk (by decide +kernel)) rfl rfl ?_
    obtain ⟨q1, t⟩ := t
    refine xw_iald (show xlook 100 57 = some (57, .iaload, 1, 0, 0, 0, 0) from xlk (by decide +kernel)) (xtg_9_13 _ ht5.1 ht5.2).1 (by rw [(xtg_9_13 _ ht5.1 ht5.2).2]; exact q1) (n := 58) rfl ?_
    refine xw_aload_n (n := 59) (show xlook 100 58 = some (58, .aload_n 0, 1, 0, 0, 0, 0) from xlk (by decide +kernel)) rfl rfl ?_
    obtain ⟨t6, q1, ht6, t⟩ := t
    refine xw_getr (q := t6) (show xlook 100 59 = some (59, .getfield 10, 3, 11, 0, 0, 159) from xlk (by decide +kernel)) (by decide) (xobf xob_11 (by decide) (by decide)) rfl q1 (by have := ht6.1; omega) (n := 62) rfl ?_
    refine xw_getr (q := t6 + 6) (show xlook 100 62 = some (62, .getfield 142, 3, 9, 14, 0, 179) from xlk (by decide +kernel)) (by decide) (xobf ht6 (by decide) (by decide)) rfl (xPT_get (k := 14) (f := 6) (xPT_fld (k := 11) hPT ht2 (by decide) (by decide)) ht6 (by decide)) (by have := (xtg_9_14 _ ht6.1 ht6.2).1.1; omega) (n := 65) rfl ?_
    refine xw_iload_n (n := 66) (show xlook 100 65 = some (65, .iload_n 1, 1, 0, 0, 0, 0) from xlk (by decide +kernel)) rfl rfl ?_
    obtain ⟨q1, t⟩ := t
    refine xw_iald (show xlook 100 66 = some (66, .iaload, 1, 0, 0, 0, 0) from xlk (by decide +kernel)) (xtg_9_14 _ ht6.1 ht6.2).1 (by rw [(xtg_9_14 _ ht6.1 ht6.2).2]; exact q1) (n := 67) rfl ?_
    obtain ⟨j7, hj7, rr7, G7, hm7, hG7, t⟩ := t
    obtain ⟨rfl, t⟩ := t
    refine xw_callv (dk := j7) (o := 37) (as := [vi (3), vi ((xup (F) (t2) 11 (((F) (t2) 11) - (1))) (t4 + 4) ((xup (F) (t2) 11 (((F) (t2) 11) - (1))) (t3) 11)), vi ((xup (F) (t2) 11 (((F) (t2) 11) - (1))) (t5 + 5) ((xup (F) (t2) 11 (((F) (t2) 11) - (1))) (t3) 11)), vi ((xup (F) (t2) 11 (((F) (t2) 11) - (1))) (t6 + 6) ((xup (F) (t2) 11 (((F) (t2) 11) - (1))) (t3) 11))]) (show xlook 100 67 = some (67, .invokevirtual 105, 3, 2, 5, 0, 121) from xlk (by decide +kernel)) (by decide) hj7 ⟨Nat.le_of_ble_eq_true rfl, Nat.le_of_ble_eq_true rfl, Nat.le_of_ble_eq_true rfl⟩ ⟨(xtg_11_2 _ xob_11.1 xob_11.2).1, (xtg_11_2 _ xob_11.1 xob_11.2).2, by decide⟩ rfl hm7 (n := 70) rfl ?_
    show xW X d 100 70 [.ref (0), vi ((xup (F) (t2) 11 (((F) (t2) 11) - (1))) (t3) 11)] [] G7 (xqi Q)
    refine xw_aload_n (n := 71) (show xlook 100 70 = some (70, .aload_n 0, 1, 0, 0, 0, 0) from xlk (by decide +kernel)) rfl rfl ?_
    obtain ⟨j8, hj8, rr8, G8, hm8, hG8, t⟩ := t
    obtain ⟨rfl, t⟩ := t
    refine xw_callv (dk := j8) (o := 0) (as := []) (show xlook 100 71 = some (71, .invokevirtual 88, 3, 96, 1, 0, 118) from xlk (by decide +kernel)) (by decide) hj8 ⟨Nat.le_of_ble_eq_true rfl, Nat.le_of_ble_eq_true rfl, Nat.le_of_ble_eq_true rfl⟩ ⟨xob_11.1, xob_11.2, by decide⟩ rfl hm8 (n := 74) rfl ?_
    show xW X d 100 74 [.ref (0), vi ((xup (F) (t2) 11 (((F) (t2) 11) - (1))) (t3) 11)] [] G8 (xqi Q)
    refine xw_aload_n (n := 75) (show xlook 100 74 = some (74, .aload_n 0, 1, 0, 0, 0, 0) from xlk (by decide +kernel)) rfl rfl ?_
    obtain ⟨t9, q1, ht9, t⟩ := t
    refine xw_getr (q := t9) (show xlook 100 75 = some (75, .getfield 10, 3, 11, 0, 0, 159) from xlk (by decide +kernel)) (by decide) (xobf xob_11 (by decide) (by decide)) rfl q1 (by have := ht9.1; omega) (n := 78) rfl ?_
    refine xw_geti (show xlook 100 78 = some (78, .getfield 128, 3, 9, 11, 0, 176) from xlk (by decide +kernel)) (by decide) (xobf ht9 (by decide) (by decide)) rfl (n := 81) rfl ?_
    exact xw_ireturn hG8 (show xlook 100 81 = some (81, .ireturn, 1, 0, 0, 0, 0) from xlk (by decide +kernel)) rfl (t hG8)
  · replace t := t.2 c
    refine xw_bipush (n := 13) (show xlook 100 11 = some (11, .bipush (-5), 2, 0, 0, 0, 0) from xlk (by decide +kernel)) rfl (by decide) ?_
    exact xw_ireturn hPT (show xlook 100 13 = some (13, .ireturn, 1, 0, 0, 0, 0) from xlk (by decide +kernel)) rfl (t hPT)
theorem m100 {X : List Int32} {d : Nat} {F : XF} {Q : Int → XF → Prop}  (hPT : xPT F)  (t : ∃ t1 : Nat, (F) (0) 0 = (t1 : Int) ∧ xob 9 t1 ∧ (inR ((F) (t1) 11) ∧ ((((1) ≤ ((F) (t1) 11)) → (∃ t2 : Nat, (F) (0) 0 = (t2 : Int) ∧ xob 9 t2 ∧ (∃ t3 : Nat, (xup (F) (t2) 11 (((F) (t2) 11) - (1))) (0) 0 = (t3 : Int) ∧ xob 9 t3 ∧ (∃ t4 : Nat, (xup (F) (t2) 11 (((F) (t2) 11) - (1))) (0) 0 = (t4 : Int) ∧ xob 9 t4 ∧ ((0 ≤ ((xup (F) (t2) 11 (((F) (t2) 11) - (1))) (t3) 11) ∧ ((xup (F) (t2) 11 (((F) (t2) 11) - (1))) (t3) 11) < 7) ∧ (∃ t5 : Nat, (xup (F) (t2) 11 (((F) (t2) 11) - (1))) (0) 0 = (t5 : Int) ∧ xob 9 t5 ∧ ((0 ≤ ((xup (F) (t2) 11 (((F) (t2) 11) - (1))) (t3) 11) ∧ ((xup (F) (t2) 11 (((F) (t2) 11) - (1))) (t3) 11) < 7) ∧ (∃ t6 : Nat, (xup (F) (t2) 11 (((F) (t2) 11) - (1))) (0) 0 = (t6 : Int) ∧ xob 9 t6 ∧ ((0 ≤ ((xup (F) (t2) 11 (((F) (t2) 11) - (1))) (t3) 11) ∧ ((xup (F) (t2) 11 (((F) (t2) 11) - (1))) (t3) 11) < 7) ∧ (∃ (j7 : Nat), j7 < d ∧ xMV X j7 2 [.ref (37), vi (3), vi ((xup (F) (t2) 11 (((F) (t2) 11) - (1))) (t4 + 4) ((xup (F) (t2) 11 (((F) (t2) 11) - (1))) (t3) 11)), vi ((xup (F) (t2) 11 (((F) (t2) 11) - (1))) (t5 + 5) ((xup (F) (t2) 11 (((F) (t2) 11) - (1))) (t3) 11)), vi ((xup (F) (t2) 11 (((F) (t2) 11) - (1))) (t6 + 6) ((xup (F) (t2) 11 (((F) (t2) 11) - (1))) (t3) 11))] (xup (F) (t2) 11 (((F) (t2) 11) - (1))) (fun (G7 : XF) => (∃ (j8 : Nat), j8 < d ∧ xMV X j8 96 [.ref (0)] (G7) (fun (G8 : XF) => (∃ t9 : Nat, (G8) (0) 0 = (t9 : Int) ∧ xob 9 t9 ∧ (xPT (G8) → Q ((G8) (t9) 11) (G8)))))))))))))))) ∧ (¬ ((1) ≤ ((F) (t1) 11)) → (xPT (F) → Q ((-5)) (F)))))) : xMI X d 100 [.ref (0)] F Q := by
  show xW X d 100 0 [.ref (0), xU0] [] F (xqi Q)
  exact s100_0 hPT  t

theorem s101_0 {X : List Int32} {d : Nat} {F : XF} {Q : Int → XF → Prop}  (hPT : xPT F)  (t : inR ((F) (37) 0) ∧ ((((1) ≤ ((F) (37) 0)) → (∃ t1 : Nat, (F) (0) 0 = (t1 : Int) ∧ xob 9 t1 ∧ (∃ (j2 : Nat), j2 < d ∧ xMV X j2 4 [.ref (37), .ref (t1)] (F) (fun (G2 : XF) => (∃ (j3 : Nat), j3 < d ∧ xMV X j3 96 [.ref (0)] (G2) (fun (G3 : XF) => (xPT (G3) → Q ((G3) (37) 0) (G3)))))))) ∧ (¬ ((1) ≤ ((F) (37) 0)) → (xPT (F) → Q ((-5)) (F))))) : xW X d 101 0 [.ref (0)] [] F (xqi Q) := by
  refine xw_aload_n (n := 1) (show xlook 101 0 = some (0, .aload_n 0, 1, 0, 0, 0, 0) from xlk (by decide +kernel)) rfl rfl ?_
  refine xw_getr (q := 37) (show xlook 101 1 = some (1, .getfield 26, 3, 11, 2, 0, 161) from xlk (by decide +kernel)) (by decide) (xobf xob_11 (by decide) (by decide)) rfl (xPT_get (k := 2) (f := 37) hPT xob_11 (by decide)) (by have := (xtg_11_2 _ xob_11.1 xob_11.2).1; omega) (n := 4) rfl ?_
  refine xw_geti (show xlook 101 4 = some (4, .getfield 145, 3, 0, 0, 0, 180) from xlk (by decide +kernel)) (by decide) (xobf (xtg_11_2 _ xob_11.1 xob_11.2) (by decide) (by decide)) rfl (n := 7) rfl ?_
  refine xw_iconst (n := 8) (show xlook 101 7 = some (7, .iconst 1, 1, 0, 0, 0, 0) from xlk (by decide +kernel)) rfl ?_
  obtain ⟨q0, t⟩ := t
  refine xw_icmp_ge (n := 11) (m := 14) (show xlook 101 8 = some (8, .if_icmp .ge 6, 3, 14, 0, 0, 0) from xlk (by decide +kernel)) rfl rfl q0 ⟨by decide, by decide⟩ ⟨fun c => ?_, fun c => ?_⟩
  · replace t := t.1 c
    refine xw_aload_n (n := 15) (show xlook 101 14 = some (14, .aload_n 0, 1, 0, 0, 0, 0) from xlk (by decide +kernel)) rfl rfl ?_
    refine xw_getr (q := 37) (show xlook 101 15 = some (15, .getfield 26, 3, 11, 2, 0, 161) from xlk (by decide +kernel)) (by decide) (xobf xob_11 (by decide) (by decide)) rfl (xPT_get (k := 2) (f := 37) hPT xob_11 (by decide)) (by have := (xtg_11_2 _ xob_11.1 xob_11.2).1; omega) (n := 18) rfl ?_
    refine xw_aload_n (n := 19) (show xlook 101 18 = some (18, .aload_n 0, 1, 0, 0, 0, 0) from xlk (by decide +kernel)) rfl rfl ?_
    obtain ⟨t1, q1, ht1, t⟩ := t
    refine xw_getr (q := t1) (show xlook 101 19 = some (19, .getfield 10, 3, 11, 0, 0, 159) from xlk (by decide +kernel)) (by decide) (xobf xob_11 (by decide) (by decide)) rfl q1 (by have := ht1.1; omega) (n := 22) rfl ?_
    obtain ⟨j2, hj2, rr2, G2, hm2, hG2, t⟩ := t
    obtain ⟨rfl, t⟩ := t
    refine xw_callv (dk := j2) (o := 37) (as := [.ref (t1)]) (show xlook 101 22 = some (22, .invokevirtual 146, 3, 4, 2, 0, 125) from xlk (by decide +kernel)) (by decide) hj2 ⟨Nat.le_of_ble_eq_true rfl, Nat.le_of_ble_eq_true rfl, Nat.le_of_ble_eq_true rfl⟩ ⟨(xtg_11_2 _ xob_11.1 xob_11.2).1, (xtg_11_2 _ xob_11.1 xob_11.2).2, by decide⟩ rfl hm2 (n := 25) rfl ?_
    show xW X d 101 25 [.ref (0)] [] G2 (xqi Q)
    refine xw_aload_n (n := 26) (show xlook 101 25 = some (25, .aload_n 0, 1, 0, 0, 0, 0) from xlk (by decide +kernel)) rfl rfl ?_
    obtain ⟨j3, hj3, rr3, G3, hm3, hG3, t⟩ := t
    obtain ⟨rfl, t⟩ := t
    refine xw_callv (dk := j3) (o := 0) (as := []) (show xlook 101 26 = some (26, .invokevirtual 88, 3, 96, 1, 0, 118) from xlk (by decide +kernel)) (by decide) hj3 ⟨Nat.le_of_ble_eq_true rfl, Nat.le_of_ble_eq_true rfl, Nat.le_of_ble_eq_true rfl⟩ ⟨xob_11.1, xob_11.2, by decide⟩ rfl hm3 (n := 29) rfl ?_
    show xW X d 101 29 [.ref (0)] [] G3 (xqi Q)
    refine xw_aload_n (n := 30) (show xlook 101 29 = some (29, .aload_n 0, 1, 0, 0, 0, 0) from xlk (by decide +kernel)) rfl rfl ?_
    refine xw_getr (q := 37) (show xlook 101 30 = some (30, .getfield 26, 3, 11, 2, 0, 161) from xlk (by decide +kernel)) (by decide) (xobf xob_11 (by decide) (by decide)) rfl (xPT_get (k := 2) (f := 37) hG3 xob_11 (by decide)) (by have := (xtg_11_2 _ xob_11.1 xob_11.2).1; omega) (n := 33) rfl ?_
    refine xw_geti (show xlook 101 33 = some (33, .getfield 145, 3, 0, 0, 0, 180) from xlk (by decide +kernel)) (by decide) (xobf (xtg_11_2 _ xob_11.1 xob_11.2) (by decide) (by decide)) rfl (n := 36) rfl ?_
    exact xw_ireturn hG3 (show xlook 101 36 = some (36, .ireturn, 1, 0, 0, 0, 0) from xlk (by decide +kernel)) rfl (t hG3)
  · replace t := t.2 c
    refine xw_bipush (n := 13) (show xlook 101 11 = some (11, .bipush (-5), 2, 0, 0, 0, 0) from xlk (by decide +kernel)) rfl (by decide) ?_
    exact xw_ireturn hPT (show xlook 101 13 = some (13, .ireturn, 1, 0, 0, 0, 0) from xlk (by decide +kernel)) rfl (t hPT)
theorem m101 {X : List Int32} {d : Nat} {F : XF} {Q : Int → XF → Prop}  (hPT : xPT F)  (t : inR ((F) (37) 0) ∧ ((((1) ≤ ((F) (37) 0)) → (∃ t1 : Nat, (F) (0) 0 = (t1 : Int) ∧ xob 9 t1 ∧ (∃ (j2 : Nat), j2 < d ∧ xMV X j2 4 [.ref (37), .ref (t1)] (F) (fun (G2 : XF) => (∃ (j3 : Nat), j3 < d ∧ xMV X j3 96 [.ref (0)] (G2) (fun (G3 : XF) => (xPT (G3) → Q ((G3) (37) 0) (G3)))))))) ∧ (¬ ((1) ≤ ((F) (37) 0)) → (xPT (F) → Q ((-5)) (F))))) : xMI X d 101 [.ref (0)] F Q := by
  show xW X d 101 0 [.ref (0)] [] F (xqi Q)
  exact s101_0 hPT  t

theorem s102_0 {X : List Int32} {d : Nat} {F : XF} {Q : Int → XF → Prop} {x1 : Int} {w2 : Value} (hPT : xPT F)  (t : inR (x1) ∧ ((((x1) < (0)) → (xPT (F) → Q ((-3)) (F))) ∧ (¬ ((x1) < (0)) → (inR (x1) ∧ ((((x1) ≤ (2000)) → (xPT (F) → xW X d 102 16 [.ref (0), vi (x1), vi (0)] [] (F) (xqi Q))) ∧ (¬ ((x1) ≤ (2000)) → (xPT (F) → Q ((-3)) (F)))))))) : xW X d 102 0 [.ref (0), vi (x1), w2] [] F (xqi Q) := by
  refine xw_iload_n (n := 1) (show xlook 102 0 = some (0, .iload_n 1, 1, 0, 0, 0, 0) from xlk (by decide +kernel)) rfl rfl ?_
  obtain ⟨q0, t⟩ := t
  refine xw_if_lt (n := 4) (m := 11) (show xlook 102 1 = some (1, .ifCond .lt 10, 3, 11, 0, 0, 0) from xlk (by decide +kernel)) rfl rfl q0 ⟨fun c => ?_, fun c => ?_⟩
  · replace t := t.1 c
    refine xw_bipush (n := 13) (show xlook 102 11 = some (11, .bipush (-3), 2, 0, 0, 0, 0) from xlk (by decide +kernel)) rfl (by decide) ?_
    exact xw_ireturn hPT (show xlook 102 13 = some (13, .ireturn, 1, 0, 0, 0, 0) from xlk (by decide +kernel)) rfl (t hPT)
  · replace t := t.2 c
    refine xw_iload_n (n := 5) (show xlook 102 4 = some (4, .iload_n 1, 1, 0, 0, 0, 0) from xlk (by decide +kernel)) rfl rfl ?_
    refine xw_sipush (n := 8) (show xlook 102 5 = some (5, .sipush 2000, 3, 0, 0, 0, 0) from xlk (by decide +kernel)) rfl (by decide) ?_
    obtain ⟨q0, t⟩ := t
    refine xw_icmp_le (n := 11) (m := 14) (show xlook 102 8 = some (8, .if_icmp .le 6, 3, 14, 0, 0, 0) from xlk (by decide +kernel)) rfl rfl q0 ⟨by decide, by decide⟩ ⟨fun c => ?_, fun c => ?_⟩
    · replace t := t.1 c
      refine xw_iconst (n := 15) (show xlook 102 14 = some (14, .iconst 0, 1, 0, 0, 0, 0) from xlk (by decide +kernel)) rfl ?_
      refine xw_istore_n (n := 16) (show xlook 102 15 = some (15, .istore_n 2, 1, 0, 0, 0, 0) from xlk (by decide +kernel)) rfl (ls' := [.ref (0), vi (x1), vi (0)]) (Nat.le_of_ble_eq_true rfl) rfl ?_
      exact t hPT
    · replace t := t.2 c
      refine xw_bipush (n := 13) (show xlook 102 11 = some (11, .bipush (-3), 2, 0, 0, 0, 0) from xlk (by decide +kernel)) rfl (by decide) ?_
      exact xw_ireturn hPT (show xlook 102 13 = some (13, .ireturn, 1, 0, 0, 0, 0) from xlk (by decide +kernel)) rfl (t hPT)
theorem m102 {X : List Int32} {d : Nat} {F : XF} {Q : Int → XF → Prop} {x1 : Int} (hPT : xPT F)  (t : inR (x1) ∧ ((((x1) < (0)) → (xPT (F) → Q ((-3)) (F))) ∧ (¬ ((x1) < (0)) → (inR (x1) ∧ ((((x1) ≤ (2000)) → (xPT (F) → xW X d 102 16 [.ref (0), vi (x1), vi (0)] [] (F) (xqi Q))) ∧ (¬ ((x1) ≤ (2000)) → (xPT (F) → Q ((-3)) (F)))))))) : xMI X d 102 [.ref (0), vi (x1)] F Q := by
  show xW X d 102 0 [.ref (0), vi (x1), xU0] [] F (xqi Q)
  exact s102_0 hPT  t

theorem s102_16 {X : List Int32} {d : Nat} {F : XF} {Q : Int → XF → Prop} {x1 : Int} {x2 : Int} (hPT : xPT F)  (t : inR (x2) ∧ inR (x1) ∧ ((((x1) ≤ (x2)) → (xPT (F) → Q ((F) (42) 2) (F))) ∧ (¬ ((x1) ≤ (x2)) → (inR ((F) (42) 2) ∧ ((((2000) ≤ ((F) (42) 2)) → (xPT (F) → Q ((F) (42) 2) (F))) ∧ (¬ ((2000) ≤ ((F) (42) 2)) → (∃ (j1 : Nat), j1 < d ∧ xMV X j1 53 [.ref (42)] (F) (fun (G1 : XF) => (xPT (G1) → xW X d 102 16 [.ref (0), vi (x1), vi (x2 + 1)] [] (G1) (xqi Q)))))))))) : xW X d 102 16 [.ref (0), vi (x1), vi (x2)] [] F (xqi Q) := by
  refine xw_iload_n (n := 17) (show xlook 102 16 = some (16, .iload_n 2, 1, 0, 0, 0, 0) from xlk (by decide +kernel)) rfl rfl ?_
  refine xw_iload_n (n := 18) (show xlook 102 17 = some (17, .iload_n 1, 1, 0, 0, 0, 0) from xlk (by decide +kernel)) rfl rfl ?_
  obtain ⟨q0, q1, t⟩ := t
  refine xw_icmp_ge (n := 21) (m := 47) (show xlook 102 18 = some (18, .if_icmp .ge 29, 3, 47, 0, 0, 0) from xlk (by decide +kernel)) rfl rfl q0 q1 ⟨fun c => ?_, fun c => ?_⟩
  · replace t := t.1 c
    refine xw_aload_n (n := 48) (show xlook 102 47 = some (47, .aload_n 0, 1, 0, 0, 0, 0) from xlk (by decide +kernel)) rfl rfl ?_
    refine xw_getr (q := 42) (show xlook 102 48 = some (48, .getfield 35, 3, 11, 3, 0, 162) from xlk (by decide +kernel)) (by decide) (xobf xob_11 (by decide) (by decide)) rfl (xPT_get (k := 3) (f := 42) hPT xob_11 (by decide)) (by have := (xtg_11_3 _ xob_11.1 xob_11.2).1; omega) (n := 51) rfl ?_
    refine xw_geti (show xlook 102 51 = some (51, .getfield 149, 3, 6, 2, 0, 181) from xlk (by decide +kernel)) (by decide) (xobf (xtg_11_3 _ xob_11.1 xob_11.2) (by decide) (by decide)) rfl (n := 54) rfl ?_
    exact xw_ireturn hPT (show xlook 102 54 = some (54, .ireturn, 1, 0, 0, 0, 0) from xlk (by decide +kernel)) rfl (t hPT)
  · replace t := t.2 c
    refine xw_aload_n (n := 22) (show xlook 102 21 = some (21, .aload_n 0, 1, 0, 0, 0, 0) from xlk (by decide +kernel)) rfl rfl ?_
    refine xw_getr (q := 42) (show xlook 102 22 = some (22, .getfield 35, 3, 11, 3, 0, 162) from xlk (by decide +kernel)) (by decide) (xobf xob_11 (by decide) (by decide)) rfl (xPT_get (k := 3) (f := 42) hPT xob_11 (by decide)) (by have := (xtg_11_3 _ xob_11.1 xob_11.2).1; omega) (n := 25) rfl ?_
    refine xw_geti (show xlook 102 25 = some (25, .getfield 149, 3, 6, 2, 0, 181) from xlk (by decide +kernel)) (by decide) (xobf (xtg_11_3 _ xob_11.1 xob_11.2) (by decide) (by decide)) rfl (n := 28) rfl ?_
    refine xw_sipush (n := 31) (show xlook 102 28 = some (28, .sipush 2000, 3, 0, 0, 0, 0) from xlk (by decide +kernel)) rfl (by decide) ?_
    obtain ⟨q0, t⟩ := t
    refine xw_icmp_ge (n := 34) (m := 47) (show xlook 102 31 = some (31, .if_icmp .ge 16, 3, 47, 0, 0, 0) from xlk (by decide +kernel)) rfl rfl q0 ⟨by decide, by decide⟩ ⟨fun c => ?_, fun c => ?_⟩
    · replace t := t.1 c
      refine xw_aload_n (n := 48) (show xlook 102 47 = some (47, .aload_n 0, 1, 0, 0, 0, 0) from xlk (by decide +kernel)) rfl rfl ?_
      refine xw_getr (q := 42) (show xlook 102 48 = some (48, .getfield 35, 3, 11, 3, 0, 162) from xlk (by decide +kernel)) (by decide) (xobf xob_11 (by decide) (by decide)) rfl (xPT_get (k := 3) (f := 42) hPT xob_11 (by decide)) (by have := (xtg_11_3 _ xob_11.1 xob_11.2).1; omega) (n := 51) rfl ?_
      refine xw_geti (show xlook 102 51 = some (51, .getfield 149, 3, 6, 2, 0, 181) from xlk (by decide +kernel)) (by decide) (xobf (xtg_11_3 _ xob_11.1 xob_11.2) (by decide) (by decide)) rfl (n := 54) rfl ?_
      exact xw_ireturn hPT (show xlook 102 54 = some (54, .ireturn, 1, 0, 0, 0, 0) from xlk (by decide +kernel)) rfl (t hPT)
    · replace t := t.2 c
      refine xw_aload_n (n := 35) (show xlook 102 34 = some (34, .aload_n 0, 1, 0, 0, 0, 0) from xlk (by decide +kernel)) rfl rfl ?_
      refine xw_getr (q := 42) (show xlook 102 35 = some (35, .getfield 35, 3, 11, 3, 0, 162) from xlk (by decide +kernel)) (by decide) (xobf xob_11 (by decide) (by decide)) rfl (xPT_get (k := 3) (f := 42) hPT xob_11 (by decide)) (by have := (xtg_11_3 _ xob_11.1 xob_11.2).1; omega) (n := 38) rfl ?_
      obtain ⟨j1, hj1, rr1, G1, hm1, hG1, t⟩ := t
      obtain ⟨rfl, t⟩ := t
      refine xw_callv (dk := j1) (o := 42) (as := []) (show xlook 102 38 = some (38, .invokevirtual 152, 3, 53, 1, 0, 126) from xlk (by decide +kernel)) (by decide) hj1 ⟨Nat.le_of_ble_eq_true rfl, Nat.le_of_ble_eq_true rfl, Nat.le_of_ble_eq_true rfl⟩ ⟨(xtg_11_3 _ xob_11.1 xob_11.2).1, (xtg_11_3 _ xob_11.1 xob_11.2).2, by decide⟩ rfl hm1 (n := 41) rfl ?_
      show xW X d 102 41 [.ref (0), vi (x1), vi (x2)] [] G1 (xqi Q)
      refine xw_iinc (n := 44) (show xlook 102 41 = some (41, .iinc 2 1, 3, 0, 0, 0, 0) from xlk (by decide +kernel)) rfl (ls' := [.ref (0), vi (x1), vi (x2 + 1)]) rfl rfl ?_
      refine xw_goto (m := 16) (show xlook 102 44 = some (44, .goto (-28), 3, 16, 0, 0, 0) from xlk (by decide +kernel)) rfl ?_
      exact t hG1

theorem s103_0 {X : List Int32} {d : Nat} {F : XF} {Q : Int → XF → Prop} {w1 : Value} (hPT : xPT F)  (t : ∃ t1 : Nat, (F) (0) 0 = (t1 : Int) ∧ xob 9 t1 ∧ (∃ (j2 : Nat), j2 < d ∧ xMV X j2 48 [.ref (42), .ref (t1)] (F) (fun (G2 : XF) => (xPT (G2) → Q ((F) (42) 2) (G2))))) : xW X d 103 0 [.ref (0), w1] [] F (xqi Q) := by
  refine xw_aload_n (n := 1) (show xlook 103 0 = some (0, .aload_n 0, 1, 0, 0, 0, 0) from xlk (by decide +kernel)) rfl rfl ?_
  refine xw_getr (q := 42) (show xlook 103 1 = some (1, .getfield 35, 3, 11, 3, 0, 162) from xlk (by decide +kernel)) (by decide) (xobf xob_11 (by decide) (by decide)) rfl (xPT_get (k := 3) (f := 42) hPT xob_11 (by decide)) (by have := (xtg_11_3 _ xob_11.1 xob_11.2).1; omega) (n := 4) rfl ?_
  refine xw_geti (show xlook 103 4 = some (4, .getfield 149, 3, 6, 2, 0, 181) from xlk (by decide +kernel)) (by decide) (xobf (xtg_11_3 _ xob_11.1 xob_11.2) (by decide) (by decide)) rfl (n := 7) rfl ?_
  refine xw_istore_n (n := 8) (show xlook 103 7 = some (7, .istore_n 1, 1, 0, 0, 0, 0) from xlk (by decide +kernel)) rfl (ls' := [.ref (0), vi ((F) (42) 2)]) (Nat.le_of_ble_eq_true rfl) rfl ?_
  refine xw_aload_n (n := 9) (show xlook 103 8 = some (8, .aload_n 0, 1, 0, 0, 0, 0) from xlk (by decide +kernel)) rfl rfl ?_
  refine xw_getr (q := 42) (show xlook 103 9 = some (9, .getfield 35, 3, 11, 3, 0, 162) from xlk (by decide +kernel)) (by decide) (xobf xob_11 (by decide) (by decide)) rfl (xPT_get (k := 3) (f := 42) hPT xob_11 (by decide)) (by have := (xtg_11_3 _ xob_11.1 xob_11.2).1; omega) (n := 12) rfl ?_
  refine xw_aload_n (n := 13) (show xlook 103 12 = some (12, .aload_n 0, 1, 0, 0, 0, 0) from xlk (by decide +kernel)) rfl rfl ?_
  obtain ⟨t1, q1, ht1, t⟩ := t
  refine xw_getr (q := t1) (show xlook 103 13 = some (13, .getfield 10, 3, 11, 0, 0, 159) from xlk (by decide +kernel)) (by decide) (xobf xob_11 (by decide) (by decide)) rfl q1 (by have := ht1.1; omega) (n := 16) rfl ?_
  obtain ⟨j2, hj2, rr2, G2, hm2, hG2, t⟩ := t
  obtain ⟨rfl, t⟩ := t
  refine xw_callv (dk := j2) (o := 42) (as := [.ref (t1)]) (show xlook 103 16 = some (16, .invokevirtual 63, 3, 48, 2, 0, 113) from xlk (by decide +kernel)) (by decide) hj2 ⟨Nat.le_of_ble_eq_true rfl, Nat.le_of_ble_eq_true rfl, Nat.le_of_ble_eq_true rfl⟩ ⟨(xtg_11_3 _ xob_11.1 xob_11.2).1, (xtg_11_3 _ xob_11.1 xob_11.2).2, by decide⟩ rfl hm2 (n := 19) rfl ?_
  show xW X d 103 19 [.ref (0), vi ((F) (42) 2)] [] G2 (xqi Q)
  refine xw_iload_n (n := 20) (show xlook 103 19 = some (19, .iload_n 1, 1, 0, 0, 0, 0) from xlk (by decide +kernel)) rfl rfl ?_
  exact xw_ireturn hG2 (show xlook 103 20 = some (20, .ireturn, 1, 0, 0, 0, 0) from xlk (by decide +kernel)) rfl (t hG2)
theorem m103 {X : List Int32} {d : Nat} {F : XF} {Q : Int → XF → Prop}  (hPT : xPT F)  (t : ∃ t1 : Nat, (F) (0) 0 = (t1 : Int) ∧ xob 9 t1 ∧ (∃ (j2 : Nat), j2 < d ∧ xMV X j2 48 [.ref (42), .ref (t1)] (F) (fun (G2 : XF) => (xPT (G2) → Q ((F) (42) 2) (G2))))) : xMI X d 103 [.ref (0)] F Q := by
  show xW X d 103 0 [.ref (0), xU0] [] F (xqi Q)
  exact s103_0 hPT  t

theorem s104_0 {X : List Int32} {d : Nat} {F : XF} {Q : Int → XF → Prop} {x1 : Int} {x2 : Int} (hPT : xPT F)  (t : ∃ (j1 : Nat), j1 < d ∧ xMI X j1 128 [.ref (0), vi (x1)] (F) (fun (y1 : Int) (G1 : XF) => (inR (y1) ∧ (((¬ (y1) = (0)) → (inR (x2) ∧ ((x2 < 0 ∨ 5 < x2) → (xPT (G1) → Q ((-2)) (G1))) ∧ (((x2) = 0) → ((0 ≤ (x1) ∧ (x1) < 30) ∧ (xPT (G1) → Q (((G1) (49) (x1)) + (100000)) (G1)))) ∧ (((x2) = 1) → (∃ (j2 : Nat), j2 < d ∧ xMI X j2 49 [.ref (42), vi (x1)] (G1) (fun (y2 : Int) (G2 : XF) => (xPT (G2) → Q ((y2) + (100000)) (G2))))) ∧ (((x2) = 2) → (∃ t3 : Nat, (G1) (0) 0 = (t3 : Int) ∧ xob 9 t3 ∧ ((0 ≤ (x1) ∧ (x1) < 30) ∧ (xPT (G1) → Q ((G1) (t3 + 2) (x1)) (G1))))) ∧ (((x2) = 3) → ((0 ≤ (x1) ∧ (x1) < 30) ∧ (xPT (G1) → Q ((G1) (50) (x1)) (G1)))) ∧ (((x2) = 4) → ((0 ≤ (x1) ∧ (x1) < 30) ∧ (xPT (G1) → Q ((G1) (47) (x1)) (G1)))) ∧ (((x2) = 5) → (inR (x1) ∧ inR ((G1) (42) 3) ∧ (((((G1) (42) 3) ≤ (x1)) → (xPT (G1) → Q (0) (G1))) ∧ (¬ (((G1) (42) 3) ≤ (x1)) → (xPT (G1) → Q (1) (G1)))))))) ∧ (¬ (¬ (y1) = (0)) → (xPT (G1) → Q ((-2)) (G1))))))) : xW X d 104 0 [.ref (0), vi (x1), vi (x2)] [] F (xqi Q) := by
  refine xw_aload_n (n := 1) (show xlook 104 0 = some (0, .aload_n 0, 1, 0, 0, 0, 0) from xlk (by decide +kernel)) rfl rfl ?_
  refine xw_iload_n (n := 2) (show xlook 104 1 = some (1, .iload_n 1, 1, 0, 0, 0, 0) from xlk (by decide +kernel)) rfl rfl ?_
  obtain ⟨j1, hj1, rr1, G1, hm1, hG1, t⟩ := t
  obtain ⟨y1, rfl, t⟩ := t
  refine xw_callv (dk := j1) (o := 0) (as := [vi (x1)]) (show xlook 104 2 = some (2, .invokevirtual 121, 3, 128, 2, 0, 122) from xlk (by decide +kernel)) (by decide) hj1 ⟨Nat.le_of_ble_eq_true rfl, Nat.le_of_ble_eq_true rfl, Nat.le_of_ble_eq_true rfl⟩ ⟨xob_11.1, xob_11.2, by decide⟩ rfl hm1 (n := 5) rfl ?_
  show xW X d 104 5 [.ref (0), vi (x1), vi (x2)] [vi (y1)] G1 (xqi Q)
  obtain ⟨q0, t⟩ := t
  refine xw_if_ne (n := 8) (m := 11) (show xlook 104 5 = some (5, .ifCond .ne 6, 3, 11, 0, 0, 0) from xlk (by decide +kernel)) rfl rfl q0 ⟨fun c => ?_, fun c => ?_⟩
  · replace t := t.1 c
    refine xw_iload_n (n := 12) (show xlook 104 11 = some (11, .iload_n 2, 1, 0, 0, 0, 0) from xlk (by decide +kernel)) rfl rfl ?_
    obtain ⟨q1, td, u0, u1, u2, u3, u4, u5⟩ := t
    by_cases hq : (x2 < 0 ∨ 5 < x2)
    · replace t := td hq
      refine xw_tabOut (t := 127) (show xlook 104 12 = some (12, .tableswitch 115 0 5 #[40, 53, 65, 75, 85, 98], 40, 0, 0, 0, 0) from xlk (by decide +kernel)) q1 hq rfl ?_
      refine xw_bipush (n := 129) (show xlook 104 127 = some (127, .bipush (-2), 2, 0, 0, 0, 0) from xlk (by decide +kernel)) rfl (by decide) ?_
      exact xw_ireturn hG1 (show xlook 104 129 = some (129, .ireturn, 1, 0, 0, 0, 0) from xlk (by decide +kernel)) rfl (t hG1)
    rcases (show (x2) = 0 ∨ (x2) = 1 ∨ (x2) = 2 ∨ (x2) = 3 ∨ (x2) = 4 ∨ (x2) = 5 by omega) with e | e | e | e | e | e
    · replace t := u0 e
      refine xw_tabIn (off := 40) (t := 52) (show xlook 104 12 = some (12, .tableswitch 115 0 5 #[40, 53, 65, 75, 85, 98], 40, 0, 0, 0, 0) from xlk (by decide +kernel)) q1 hq (by show (#[40, 53, 65, 75, 85, 98] : Array Int)[((x2 : Int) - (0)).toNat]? = some (40); rw [e]; rfl) rfl ?_
      refine xw_aload_n (n := 53) (show xlook 104 52 = some (52, .aload_n 0, 1, 0, 0, 0, 0) from xlk (by decide +kernel)) rfl rfl ?_
      refine xw_getr (q := 42) (show xlook 104 53 = some (53, .getfield 35, 3, 11, 3, 0, 162) from xlk (by decide +kernel)) (by decide) (xobf xob_11 (by decide) (by decide)) rfl (xPT_get (k := 3) (f := 42) hG1 xob_11 (by decide)) (by have := (xtg_11_3 _ xob_11.1 xob_11.2).1; omega) (n := 56) rfl ?_
      refine xw_getr (q := 49) (show xlook 104 56 = some (56, .getfield 155, 3, 6, 6, 0, 182) from xlk (by decide +kernel)) (by decide) (xobf (xtg_11_3 _ xob_11.1 xob_11.2) (by decide) (by decide)) rfl (xPT_get (k := 6) (f := 7) hG1 (xtg_11_3 _ xob_11.1 xob_11.2) (by decide)) (by have := (xtg_6_6 _ (xtg_11_3 _ xob_11.1 xob_11.2).1 (xtg_11_3 _ xob_11.1 xob_11.2).2).1.1; omega) (n := 59) rfl ?_
      refine xw_iload_n (n := 60) (show xlook 104 59 = some (59, .iload_n 1, 1, 0, 0, 0, 0) from xlk (by decide +kernel)) rfl rfl ?_
      obtain ⟨q1, t⟩ := t
      refine xw_iald (show xlook 104 60 = some (60, .iaload, 1, 0, 0, 0, 0) from xlk (by decide +kernel)) (xtg_6_6 _ (xtg_11_3 _ xob_11.1 xob_11.2).1 (xtg_11_3 _ xob_11.1 xob_11.2).2).1 (by rw [(xtg_6_6 _ (xtg_11_3 _ xob_11.1 xob_11.2).1 (xtg_11_3 _ xob_11.1 xob_11.2).2).2]; exact q1) (n := 61) rfl ?_
      refine xw_ldc (n := 63) (show xlook 104 61 = some (61, .ldc 158, 2, 0, 0, 100000, 0) from xlk (by decide +kernel)) rfl rfl ?_
      refine xw_iadd (n := 64) (show xlook 104 63 = some (63, .iadd, 1, 0, 0, 0, 0) from xlk (by decide +kernel)) rfl ?_
      exact xw_ireturn hG1 (show xlook 104 64 = some (64, .ireturn, 1, 0, 0, 0, 0) from xlk (by decide +kernel)) rfl (t hG1)
    · replace t := u1 e
      refine xw_tabIn (off := 53) (t := 65) (show xlook 104 12 = some (12, .tableswitch 115 0 5 #[40, 53, 65, 75, 85, 98], 40, 0, 0, 0, 0) from xlk (by decide +kernel)) q1 hq (by show (#[40, 53, 65, 75, 85, 98] : Array Int)[((x2 : Int) - (0)).toNat]? = some (53); rw [e]; rfl) rfl ?_
      refine xw_aload_n (n := 66) (show xlook 104 65 = some (65, .aload_n 0, 1, 0, 0, 0, 0) from xlk (by decide +kernel)) rfl rfl ?_
      refine xw_getr (q := 42) (show xlook 104 66 = some (66, .getfield 35, 3, 11, 3, 0, 162) from xlk (by decide +kernel)) (by decide) (xobf xob_11 (by decide) (by decide)) rfl (xPT_get (k := 3) (f := 42) hG1 xob_11 (by decide)) (by have := (xtg_11_3 _ xob_11.1 xob_11.2).1; omega) (n := 69) rfl ?_
      refine xw_iload_n (n := 70) (show xlook 104 69 = some (69, .iload_n 1, 1, 0, 0, 0, 0) from xlk (by decide +kernel)) rfl rfl ?_
      obtain ⟨j2, hj2, rr2, G2, hm2, hG2, t⟩ := t
      obtain ⟨y2, rfl, t⟩ := t
      refine xw_callv (dk := j2) (o := 42) (as := [vi (x1)]) (show xlook 104 70 = some (70, .invokevirtual 159, 3, 49, 2, 0, 127) from xlk (by decide +kernel)) (by decide) hj2 ⟨Nat.le_of_ble_eq_true rfl, Nat.le_of_ble_eq_true rfl, Nat.le_of_ble_eq_true rfl⟩ ⟨(xtg_11_3 _ xob_11.1 xob_11.2).1, (xtg_11_3 _ xob_11.1 xob_11.2).2, by decide⟩ rfl hm2 (n := 73) rfl ?_
      show xW X d 104 73 [.ref (0), vi (x1), vi (x2)] [vi (y2)] G2 (xqi Q)
      refine xw_ldc (n := 75) (show xlook 104 73 = some (73, .ldc 158, 2, 0, 0, 100000, 0) from xlk (by decide +kernel)) rfl rfl ?_
      refine xw_iadd (n := 76) (show xlook 104 75 = some (75, .iadd, 1, 0, 0, 0, 0) from xlk (by decide +kernel)) rfl ?_
      exact xw_ireturn hG2 (show xlook 104 76 = some (76, .ireturn, 1, 0, 0, 0, 0) from xlk (by decide +kernel)) rfl (t hG2)
    · replace t := u2 e
      refine xw_tabIn (off := 65) (t := 77) (show xlook 104 12 = some (12, .tableswitch 115 0 5 #[40, 53, 65, 75, 85, 98], 40, 0, 0, 0, 0) from xlk (by decide +kernel)) q1 hq (by show (#[40, 53, 65, 75, 85, 98] : Array Int)[((x2 : Int) - (0)).toNat]? = some (65); rw [e]; rfl) rfl ?_
      refine xw_aload_n (n := 78) (show xlook 104 77 = some (77, .aload_n 0, 1, 0, 0, 0, 0) from xlk (by decide +kernel)) rfl rfl ?_
      obtain ⟨t3, q1, ht3, t⟩ := t
      refine xw_getr (q := t3) (show xlook 104 78 = some (78, .getfield 10, 3, 11, 0, 0, 159) from xlk (by decide +kernel)) (by decide) (xobf xob_11 (by decide) (by decide)) rfl q1 (by have := ht3.1; omega) (n := 81) rfl ?_
      refine xw_getr (q := t3 + 2) (show xlook 104 81 = some (81, .getfield 163, 3, 9, 7, 0, 183) from xlk (by decide +kernel)) (by decide) (xobf ht3 (by decide) (by decide)) rfl (xPT_get (k := 7) (f := 2) hG1 ht3 (by decide)) (by have := (xtg_9_7 _ ht3.1 ht3.2).1.1; omega) (n := 84) rfl ?_
      refine xw_iload_n (n := 85) (show xlook 104 84 = some (84, .iload_n 1, 1, 0, 0, 0, 0) from xlk (by decide +kernel)) rfl rfl ?_
      obtain ⟨q1, t⟩ := t
      refine xw_iald (show xlook 104 85 = some (85, .iaload, 1, 0, 0, 0, 0) from xlk (by decide +kernel)) (xtg_9_7 _ ht3.1 ht3.2).1 (by rw [(xtg_9_7 _ ht3.1 ht3.2).2]; exact q1) (n := 86) rfl ?_
      exact xw_ireturn hG1 (show xlook 104 86 = some (86, .ireturn, 1, 0, 0, 0, 0) from xlk (by decide +kernel)) rfl (t hG1)
    · replace t := u3 e
      refine xw_tabIn (off := 75) (t := 87) (show xlook 104 12 = some (12, .tableswitch 115 0 5 #[40, 53, 65, 75, 85, 98], 40, 0, 0, 0, 0) from xlk (by decide +kernel)) q1 hq (by show (#[40, 53, 65, 75, 85, 98] : Array Int)[((x2 : Int) - (0)).toNat]? = some (75); rw [e]; rfl) rfl ?_
      refine xw_aload_n (n := 88) (show xlook 104 87 = some (87, .aload_n 0, 1, 0, 0, 0, 0) from xlk (by decide +kernel)) rfl rfl ?_
      refine xw_getr (q := 42) (show xlook 104 88 = some (88, .getfield 35, 3, 11, 3, 0, 162) from xlk (by decide +kernel)) (by decide) (xobf xob_11 (by decide) (by decide)) rfl (xPT_get (k := 3) (f := 42) hG1 xob_11 (by decide)) (by have := (xtg_11_3 _ xob_11.1 xob_11.2).1; omega) (n := 91) rfl ?_
      refine xw_getr (q := 50) (show xlook 104 91 = some (91, .getfield 166, 3, 6, 7, 0, 184) from xlk (by decide +kernel)) (by decide) (xobf (xtg_11_3 _ xob_11.1 xob_11.2) (by decide) (by decide)) rfl (xPT_get (k := 7) (f := 8) hG1 (xtg_11_3 _ xob_11.1 xob_11.2) (by decide)) (by have := (xtg_6_7 _ (xtg_11_3 _ xob_11.1 xob_11.2).1 (xtg_11_3 _ xob_11.1 xob_11.2).2).1.1; omega) (n := 94) rfl ?_
      refine xw_iload_n (n := 95) (show xlook 104 94 = some (94, .iload_n 1, 1, 0, 0, 0, 0) from xlk (by decide +kernel)) rfl rfl ?_
      obtain ⟨q1, t⟩ := t
      refine xw_iald (show xlook 104 95 = some (95, .iaload, 1, 0, 0, 0, 0) from xlk (by decide +kernel)) (xtg_6_7 _ (xtg_11_3 _ xob_11.1 xob_11.2).1 (xtg_11_3 _ xob_11.1 xob_11.2).2).1 (by rw [(xtg_6_7 _ (xtg_11_3 _ xob_11.1 xob_11.2).1 (xtg_11_3 _ xob_11.1 xob_11.2).2).2]; exact q1) (n := 96) rfl ?_
      exact xw_ireturn hG1 (show xlook 104 96 = some (96, .ireturn, 1, 0, 0, 0, 0) from xlk (by decide +kernel)) rfl (t hG1)
    · replace t := u4 e
      refine xw_tabIn (off := 85) (t := 97) (show xlook 104 12 = some (12, .tableswitch 115 0 5 #[40, 53, 65, 75, 85, 98], 40, 0, 0, 0, 0) from xlk (by decide +kernel)) q1 hq (by show (#[40, 53, 65, 75, 85, 98] : Array Int)[((x2 : Int) - (0)).toNat]? = some (85); rw [e]; rfl) rfl ?_
      refine xw_aload_n (n := 98) (show xlook 104 97 = some (97, .aload_n 0, 1, 0, 0, 0, 0) from xlk (by decide +kernel)) rfl rfl ?_
      refine xw_getr (q := 42) (show xlook 104 98 = some (98, .getfield 35, 3, 11, 3, 0, 162) from xlk (by decide +kernel)) (by decide) (xobf xob_11 (by decide) (by decide)) rfl (xPT_get (k := 3) (f := 42) hG1 xob_11 (by decide)) (by have := (xtg_11_3 _ xob_11.1 xob_11.2).1; omega) (n := 101) rfl ?_
      refine xw_getr (q := 43) (show xlook 104 101 = some (101, .getfield 109, 3, 6, 1, 0, 173) from xlk (by decide +kernel)) (by decide) (xobf (xtg_11_3 _ xob_11.1 xob_11.2) (by decide) (by decide)) rfl (xPT_get (k := 1) (f := 1) hG1 (xtg_11_3 _ xob_11.1 xob_11.2) (by decide)) (by have := (xtg_6_1 _ (xtg_11_3 _ xob_11.1 xob_11.2).1 (xtg_11_3 _ xob_11.1 xob_11.2).2).1; omega) (n := 104) rfl ?_
      refine xw_getr (q := 47) (show xlook 104 104 = some (104, .getfield 169, 3, 7, 4, 0, 185) from xlk (by decide +kernel)) (by decide) (xobf (xtg_6_1 _ (xtg_11_3 _ xob_11.1 xob_11.2).1 (xtg_11_3 _ xob_11.1 xob_11.2).2) (by decide) (by decide)) rfl (xPT_get (k := 4) (f := 4) hG1 (xtg_6_1 _ (xtg_11_3 _ xob_11.1 xob_11.2).1 (xtg_11_3 _ xob_11.1 xob_11.2).2) (by decide)) (by have := (xtg_7_4 _ (xtg_6_1 _ (xtg_11_3 _ xob_11.1 xob_11.2).1 (xtg_11_3 _ xob_11.1 xob_11.2).2).1 (xtg_6_1 _ (xtg_11_3 _ xob_11.1 xob_11.2).1 (xtg_11_3 _ xob_11.1 xob_11.2).2).2).1.1; omega) (n := 107) rfl ?_
      refine xw_iload_n (n := 108) (show xlook 104 107 = some (107, .iload_n 1, 1, 0, 0, 0, 0) from xlk (by decide +kernel)) rfl rfl ?_
      obtain ⟨q1, t⟩ := t
      refine xw_iald (show xlook 104 108 = some (108, .iaload, 1, 0, 0, 0, 0) from xlk (by decide +kernel)) (xtg_7_4 _ (xtg_6_1 _ (xtg_11_3 _ xob_11.1 xob_11.2).1 (xtg_11_3 _ xob_11.1 xob_11.2).2).1 (xtg_6_1 _ (xtg_11_3 _ xob_11.1 xob_11.2).1 (xtg_11_3 _ xob_11.1 xob_11.2).2).2).1 (by rw [(xtg_7_4 _ (xtg_6_1 _ (xtg_11_3 _ xob_11.1 xob_11.2).1 (xtg_11_3 _ xob_11.1 xob_11.2).2).1 (xtg_6_1 _ (xtg_11_3 _ xob_11.1 xob_11.2).1 (xtg_11_3 _ xob_11.1 xob_11.2).2).2).2]; exact q1) (n := 109) rfl ?_
      exact xw_ireturn hG1 (show xlook 104 109 = some (109, .ireturn, 1, 0, 0, 0, 0) from xlk (by decide +kernel)) rfl (t hG1)
    · replace t := u5 e
      refine xw_tabIn (off := 98) (t := 110) (show xlook 104 12 = some (12, .tableswitch 115 0 5 #[40, 53, 65, 75, 85, 98], 40, 0, 0, 0, 0) from xlk (by decide +kernel)) q1 hq (by show (#[40, 53, 65, 75, 85, 98] : Array Int)[((x2 : Int) - (0)).toNat]? = some (98); rw [e]; rfl) rfl ?_
      refine xw_iload_n (n := 111) (show xlook 104 110 = some (110, .iload_n 1, 1, 0, 0, 0, 0) from xlk (by decide +kernel)) rfl rfl ?_
      refine xw_aload_n (n := 112) (show xlook 104 111 = some (111, .aload_n 0, 1, 0, 0, 0, 0) from xlk (by decide +kernel)) rfl rfl ?_
      refine xw_getr (q := 42) (show xlook 104 112 = some (112, .getfield 35, 3, 11, 3, 0, 162) from xlk (by decide +kernel)) (by decide) (xobf xob_11 (by decide) (by decide)) rfl (xPT_get (k := 3) (f := 42) hG1 xob_11 (by decide)) (by have := (xtg_11_3 _ xob_11.1 xob_11.2).1; omega) (n := 115) rfl ?_
      refine xw_geti (show xlook 104 115 = some (115, .getfield 172, 3, 6, 3, 0, 186) from xlk (by decide +kernel)) (by decide) (xobf (xtg_11_3 _ xob_11.1 xob_11.2) (by decide) (by decide)) rfl (n := 118) rfl ?_
      obtain ⟨q0, q1, t⟩ := t
      refine xw_icmp_ge (n := 121) (m := 125) (show xlook 104 118 = some (118, .if_icmp .ge 7, 3, 125, 0, 0, 0) from xlk (by decide +kernel)) rfl rfl q0 q1 ⟨fun c => ?_, fun c => ?_⟩
      · replace t := t.1 c
        refine xw_iconst (n := 126) (show xlook 104 125 = some (125, .iconst 0, 1, 0, 0, 0, 0) from xlk (by decide +kernel)) rfl ?_
        exact xw_ireturn hG1 (show xlook 104 126 = some (126, .ireturn, 1, 0, 0, 0, 0) from xlk (by decide +kernel)) rfl (t hG1)
      · replace t := t.2 c
        refine xw_iconst (n := 122) (show xlook 104 121 = some (121, .iconst 1, 1, 0, 0, 0, 0) from xlk (by decide +kernel)) rfl ?_
        refine xw_goto (m := 126) (show xlook 104 122 = some (122, .goto 4, 3, 126, 0, 0, 0) from xlk (by decide +kernel)) rfl ?_
        exact xw_ireturn hG1 (show xlook 104 126 = some (126, .ireturn, 1, 0, 0, 0, 0) from xlk (by decide +kernel)) rfl (t hG1)
  · replace t := t.2 c
    refine xw_bipush (n := 10) (show xlook 104 8 = some (8, .bipush (-2), 2, 0, 0, 0, 0) from xlk (by decide +kernel)) rfl (by decide) ?_
    exact xw_ireturn hG1 (show xlook 104 10 = some (10, .ireturn, 1, 0, 0, 0, 0) from xlk (by decide +kernel)) rfl (t hG1)
theorem m104 {X : List Int32} {d : Nat} {F : XF} {Q : Int → XF → Prop} {x1 : Int} {x2 : Int} (hPT : xPT F)  (t : ∃ (j1 : Nat), j1 < d ∧ xMI X j1 128 [.ref (0), vi (x1)] (F) (fun (y1 : Int) (G1 : XF) => (inR (y1) ∧ (((¬ (y1) = (0)) → (inR (x2) ∧ ((x2 < 0 ∨ 5 < x2) → (xPT (G1) → Q ((-2)) (G1))) ∧ (((x2) = 0) → ((0 ≤ (x1) ∧ (x1) < 30) ∧ (xPT (G1) → Q (((G1) (49) (x1)) + (100000)) (G1)))) ∧ (((x2) = 1) → (∃ (j2 : Nat), j2 < d ∧ xMI X j2 49 [.ref (42), vi (x1)] (G1) (fun (y2 : Int) (G2 : XF) => (xPT (G2) → Q ((y2) + (100000)) (G2))))) ∧ (((x2) = 2) → (∃ t3 : Nat, (G1) (0) 0 = (t3 : Int) ∧ xob 9 t3 ∧ ((0 ≤ (x1) ∧ (x1) < 30) ∧ (xPT (G1) → Q ((G1) (t3 + 2) (x1)) (G1))))) ∧ (((x2) = 3) → ((0 ≤ (x1) ∧ (x1) < 30) ∧ (xPT (G1) → Q ((G1) (50) (x1)) (G1)))) ∧ (((x2) = 4) → ((0 ≤ (x1) ∧ (x1) < 30) ∧ (xPT (G1) → Q ((G1) (47) (x1)) (G1)))) ∧ (((x2) = 5) → (inR (x1) ∧ inR ((G1) (42) 3) ∧ (((((G1) (42) 3) ≤ (x1)) → (xPT (G1) → Q (0) (G1))) ∧ (¬ (((G1) (42) 3) ≤ (x1)) → (xPT (G1) → Q (1) (G1)))))))) ∧ (¬ (¬ (y1) = (0)) → (xPT (G1) → Q ((-2)) (G1))))))) : xMI X d 104 [.ref (0), vi (x1), vi (x2)] F Q := by
  show xW X d 104 0 [.ref (0), vi (x1), vi (x2)] [] F (xqi Q)
  exact s104_0 hPT  t

theorem s105_0 {X : List Int32} {d : Nat} {F : XF} {Q : Int → XF → Prop} {x1 : Int} {x2 : Int} {w3 : Value} (hPT : xPT F)  (t : ∃ (j1 : Nat), j1 < d ∧ xMI X j1 129 [.ref (0), vi (x1)] (F) (fun (y1 : Int) (G1 : XF) => (inR (y1) ∧ (((¬ (y1) = (0)) → ((0 ≤ (x1 : Int) ∧ (x1 : Int) < 10) ∧ (inR (x2) ∧ ((x2 < 0 ∨ 7 < x2) → (xPT (G1) → Q ((-2)) (G1))) ∧ (((x2) = 0) → (xPT (G1) → Q ((G1) (54 + 6 + (x1 : Int).toNat) 0) (G1))) ∧ (((x2) = 1) → (xPT (G1) → Q ((G1) (54 + 6 + (x1 : Int).toNat) 1) (G1))) ∧ (((x2) = 2) → (xPT (G1) → Q ((G1) (54 + 6 + (x1 : Int).toNat) 2) (G1))) ∧ (((x2) = 3) → (xPT (G1) → Q ((G1) (54 + 6 + (x1 : Int).toNat) 3) (G1))) ∧ (((x2) = 4) → (∃ (j3 : Nat), j3 < d ∧ xMI X j3 51 [.ref (42), vi (x1)] (G1) (fun (y3 : Int) (G3 : XF) => (xPT (G3) → Q (y3) (G3))))) ∧ (((x2) = 5) → (xPT (G1) → Q ((G1) (54 + 6 + (x1 : Int).toNat) 4) (G1))) ∧ (((x2) = 6) → (xPT (G1) → Q ((G1) (54 + 6 + (x1 : Int).toNat) 5) (G1))) ∧ (((x2) = 7) → (xPT (G1) → Q ((G1) (54 + 6 + (x1 : Int).toNat) 6) (G1)))))) ∧ (¬ (¬ (y1) = (0)) → (xPT (G1) → Q ((-2)) (G1))))))) : xW X d 105 0 [.ref (0), vi (x1), vi (x2), w3] [] F (xqi Q) := by
  refine xw_aload_n (n := 1) (show xlook 105 0 = some (0, .aload_n 0, 1, 0, 0, 0, 0) from xlk (by decide +kernel)) rfl rfl ?_
  refine xw_iload_n (n := 2) (show xlook 105 1 = some (1, .iload_n 1, 1, 0, 0, 0, 0) from xlk (by decide +kernel)) rfl rfl ?_
  obtain ⟨j1, hj1, rr1, G1, hm1, hG1, t⟩ := t
  obtain ⟨y1, rfl, t⟩ := t
  refine xw_callv (dk := j1) (o := 0) (as := [vi (x1)]) (show xlook 105 2 = some (2, .invokevirtual 175, 3, 129, 2, 0, 128) from xlk (by decide +kernel)) (by decide) hj1 ⟨Nat.le_of_ble_eq_true rfl, Nat.le_of_ble_eq_true rfl, Nat.le_of_ble_eq_true rfl⟩ ⟨xob_11.1, xob_11.2, by decide⟩ rfl hm1 (n := 5) rfl ?_
  show xW X d 105 5 [.ref (0), vi (x1), vi (x2), w3] [vi (y1)] G1 (xqi Q)
  obtain ⟨q0, t⟩ := t
  refine xw_if_ne (n := 8) (m := 11) (show xlook 105 5 = some (5, .ifCond .ne 6, 3, 11, 0, 0, 0) from xlk (by decide +kernel)) rfl rfl q0 ⟨fun c => ?_, fun c => ?_⟩
  · replace t := t.1 c
    refine xw_aload_n (n := 12) (show xlook 105 11 = some (11, .aload_n 0, 1, 0, 0, 0, 0) from xlk (by decide +kernel)) rfl rfl ?_
    refine xw_getr (q := 42) (show xlook 105 12 = some (12, .getfield 35, 3, 11, 3, 0, 162) from xlk (by decide +kernel)) (by decide) (xobf xob_11 (by decide) (by decide)) rfl (xPT_get (k := 3) (f := 42) hG1 xob_11 (by decide)) (by have := (xtg_11_3 _ xob_11.1 xob_11.2).1; omega) (n := 15) rfl ?_
    refine xw_getr (q := 54) (show xlook 105 15 = some (15, .getfield 178, 3, 6, 11, 0, 187) from xlk (by decide +kernel)) (by decide) (xobf (xtg_11_3 _ xob_11.1 xob_11.2) (by decide) (by decide)) rfl (xPT_get (k := 11) (f := 12) hG1 (xtg_11_3 _ xob_11.1 xob_11.2) (by decide)) (by have := (xtg_6_11 _ (xtg_11_3 _ xob_11.1 xob_11.2).1 (xtg_11_3 _ xob_11.1 xob_11.2).2).1.1; omega) (n := 18) rfl ?_
    refine xw_iload_n (n := 19) (show xlook 105 18 = some (18, .iload_n 1, 1, 0, 0, 0, 0) from xlk (by decide +kernel)) rfl rfl ?_
    obtain ⟨q1, t⟩ := t
    have hb2 : xob 8 (54 + 6 + (x1 : Int).toNat) := xel16 _ (xtg_6_11 _ (xtg_11_3 _ xob_11.1 xob_11.2).1 (xtg_11_3 _ xob_11.1 xob_11.2).2).1.1 (xtg_6_11 _ (xtg_11_3 _ xob_11.1 xob_11.2).1 (xtg_11_3 _ xob_11.1 xob_11.2).2).1.2 _ (xidx10 q1)
    refine xw_aald (q := 54 + 6 + (x1 : Int).toNat) (show xlook 105 19 = some (19, .aaload, 1, 0, 0, 0, 0) from xlk (by decide +kernel)) ⟨(xtg_6_11 _ (xtg_11_3 _ xob_11.1 xob_11.2).1 (xtg_11_3 _ xob_11.1 xob_11.2).2).1.1, (Or.inr (xtg_6_11 _ (xtg_11_3 _ xob_11.1 xob_11.2).1 (xtg_11_3 _ xob_11.1 xob_11.2).2).1.2)⟩ (by rw [xln15 _ (xtg_6_11 _ (xtg_11_3 _ xob_11.1 xob_11.2).1 (xtg_11_3 _ xob_11.1 xob_11.2).2).1.1 (Or.inr (xtg_6_11 _ (xtg_11_3 _ xob_11.1 xob_11.2).1 (xtg_11_3 _ xob_11.1 xob_11.2).2).1.2)]; exact q1) (xPT_el hG1 (Or.inr (xtg_6_11 _ (xtg_11_3 _ xob_11.1 xob_11.2).1 (xtg_11_3 _ xob_11.1 xob_11.2).2).1) q1.1 q1.2) (by have := hb2.1; omega) (n := 20) rfl ?_
    refine xw_astore_n (n := 21) (show xlook 105 20 = some (20, .astore_n 3, 1, 0, 0, 0, 0) from xlk (by decide +kernel)) rfl (ls' := [.ref (0), vi (x1), vi (x2), .ref (54 + 6 + (x1 : Int).toNat)]) (Nat.le_of_ble_eq_true rfl) rfl ?_
    refine xw_iload_n (n := 22) (show xlook 105 21 = some (21, .iload_n 2, 1, 0, 0, 0, 0) from xlk (by decide +kernel)) rfl rfl ?_
    obtain ⟨q1, td, u0, u1, u2, u3, u4, u5, u6, u7⟩ := t
    by_cases hq : (x2 < 0 ∨ 7 < x2)
    · replace t := td hq
      refine xw_tabOut (t := 112) (show xlook 105 22 = some (22, .tableswitch 90 0 7 #[46, 51, 56, 61, 66, 75, 80, 85], 46, 0, 0, 0, 0) from xlk (by decide +kernel)) q1 hq rfl ?_
      refine xw_bipush (n := 114) (show xlook 105 112 = some (112, .bipush (-2), 2, 0, 0, 0, 0) from xlk (by decide +kernel)) rfl (by decide) ?_
      exact xw_ireturn hG1 (show xlook 105 114 = some (114, .ireturn, 1, 0, 0, 0, 0) from xlk (by decide +kernel)) rfl (t hG1)
    rcases (show (x2) = 0 ∨ (x2) = 1 ∨ (x2) = 2 ∨ (x2) = 3 ∨ (x2) = 4 ∨ (x2) = 5 ∨ (x2) = 6 ∨ (x2) = 7 by omega) with e | e | e | e | e | e | e | e
    · replace t := u0 e
      refine xw_tabIn (off := 46) (t := 68) (show xlook 105 22 = some (22, .tableswitch 90 0 7 #[46, 51, 56, 61, 66, 75, 80, 85], 46, 0, 0, 0, 0) from xlk (by decide +kernel)) q1 hq (by show (#[46, 51, 56, 61, 66, 75, 80, 85] : Array Int)[((x2 : Int) - (0)).toNat]? = some (46); rw [e]; rfl) rfl ?_
      refine xw_aload_n (n := 69) (show xlook 105 68 = some (68, .aload_n 3, 1, 0, 0, 0, 0) from xlk (by decide +kernel)) rfl rfl ?_
      refine xw_geti (show xlook 105 69 = some (69, .getfield 182, 3, 8, 0, 0, 188) from xlk (by decide +kernel)) (by decide) (xobf hb2 (by decide) (by decide)) rfl (n := 72) rfl ?_
      exact xw_ireturn hG1 (show xlook 105 72 = some (72, .ireturn, 1, 0, 0, 0, 0) from xlk (by decide +kernel)) rfl (t hG1)
    · replace t := u1 e
      refine xw_tabIn (off := 51) (t := 73) (show xlook 105 22 = some (22, .tableswitch 90 0 7 #[46, 51, 56, 61, 66, 75, 80, 85], 46, 0, 0, 0, 0) from xlk (by decide +kernel)) q1 hq (by show (#[46, 51, 56, 61, 66, 75, 80, 85] : Array Int)[((x2 : Int) - (0)).toNat]? = some (51); rw [e]; rfl) rfl ?_
      refine xw_aload_n (n := 74) (show xlook 105 73 = some (73, .aload_n 3, 1, 0, 0, 0, 0) from xlk (by decide +kernel)) rfl rfl ?_
      refine xw_geti (show xlook 105 74 = some (74, .getfield 187, 3, 8, 1, 0, 189) from xlk (by decide +kernel)) (by decide) (xobf hb2 (by decide) (by decide)) rfl (n := 77) rfl ?_
      exact xw_ireturn hG1 (show xlook 105 77 = some (77, .ireturn, 1, 0, 0, 0, 0) from xlk (by decide +kernel)) rfl (t hG1)
    · replace t := u2 e
      refine xw_tabIn (off := 56) (t := 78) (show xlook 105 22 = some (22, .tableswitch 90 0 7 #[46, 51, 56, 61, 66, 75, 80, 85], 46, 0, 0, 0, 0) from xlk (by decide +kernel)) q1 hq (by show (#[46, 51, 56, 61, 66, 75, 80, 85] : Array Int)[((x2 : Int) - (0)).toNat]? = some (56); rw [e]; rfl) rfl ?_
      refine xw_aload_n (n := 79) (show xlook 105 78 = some (78, .aload_n 3, 1, 0, 0, 0, 0) from xlk (by decide +kernel)) rfl rfl ?_
      refine xw_geti (show xlook 105 79 = some (79, .getfield 190, 3, 8, 2, 0, 190) from xlk (by decide +kernel)) (by decide) (xobf hb2 (by decide) (by decide)) rfl (n := 82) rfl ?_
      exact xw_ireturn hG1 (show xlook 105 82 = some (82, .ireturn, 1, 0, 0, 0, 0) from xlk (by decide +kernel)) rfl (t hG1)
    · replace t := u3 e
      refine xw_tabIn (off := 61) (t := 83) (show xlook 105 22 = some (22, .tableswitch 90 0 7 #[46, 51, 56, 61, 66, 75, 80, 85], 46, 0, 0, 0, 0) from xlk (by decide +kernel)) q1 hq (by show (#[46, 51, 56, 61, 66, 75, 80, 85] : Array Int)[((x2 : Int) - (0)).toNat]? = some (61); rw [e]; rfl) rfl ?_
      refine xw_aload_n (n := 84) (show xlook 105 83 = some (83, .aload_n 3, 1, 0, 0, 0, 0) from xlk (by decide +kernel)) rfl rfl ?_
      refine xw_geti (show xlook 105 84 = some (84, .getfield 193, 3, 8, 3, 0, 191) from xlk (by decide +kernel)) (by decide) (xobf hb2 (by decide) (by decide)) rfl (n := 87) rfl ?_
      exact xw_ireturn hG1 (show xlook 105 87 = some (87, .ireturn, 1, 0, 0, 0, 0) from xlk (by decide +kernel)) rfl (t hG1)
    · replace t := u4 e
      refine xw_tabIn (off := 66) (t := 88) (show xlook 105 22 = some (22, .tableswitch 90 0 7 #[46, 51, 56, 61, 66, 75, 80, 85], 46, 0, 0, 0, 0) from xlk (by decide +kernel)) q1 hq (by show (#[46, 51, 56, 61, 66, 75, 80, 85] : Array Int)[((x2 : Int) - (0)).toNat]? = some (66); rw [e]; rfl) rfl ?_
      refine xw_aload_n (n := 89) (show xlook 105 88 = some (88, .aload_n 0, 1, 0, 0, 0, 0) from xlk (by decide +kernel)) rfl rfl ?_
      refine xw_getr (q := 42) (show xlook 105 89 = some (89, .getfield 35, 3, 11, 3, 0, 162) from xlk (by decide +kernel)) (by decide) (xobf xob_11 (by decide) (by decide)) rfl (xPT_get (k := 3) (f := 42) hG1 xob_11 (by decide)) (by have := (xtg_11_3 _ xob_11.1 xob_11.2).1; omega) (n := 92) rfl ?_
      refine xw_iload_n (n := 93) (show xlook 105 92 = some (92, .iload_n 1, 1, 0, 0, 0, 0) from xlk (by decide +kernel)) rfl rfl ?_
      obtain ⟨j3, hj3, rr3, G3, hm3, hG3, t⟩ := t
      obtain ⟨y3, rfl, t⟩ := t
      refine xw_callv (dk := j3) (o := 42) (as := [vi (x1)]) (show xlook 105 93 = some (93, .invokevirtual 196, 3, 51, 2, 0, 129) from xlk (by decide +kernel)) (by decide) hj3 ⟨Nat.le_of_ble_eq_true rfl, Nat.le_of_ble_eq_true rfl, Nat.le_of_ble_eq_true rfl⟩ ⟨(xtg_11_3 _ xob_11.1 xob_11.2).1, (xtg_11_3 _ xob_11.1 xob_11.2).2, by decide⟩ rfl hm3 (n := 96) rfl ?_
      show xW X d 105 96 [.ref (0), vi (x1), vi (x2), .ref (54 + 6 + (x1 : Int).toNat)] [vi (y3)] G3 (xqi Q)
      exact xw_ireturn hG3 (show xlook 105 96 = some (96, .ireturn, 1, 0, 0, 0, 0) from xlk (by decide +kernel)) rfl (t hG3)
    · replace t := u5 e
      refine xw_tabIn (off := 75) (t := 97) (show xlook 105 22 = some (22, .tableswitch 90 0 7 #[46, 51, 56, 61, 66, 75, 80, 85], 46, 0, 0, 0, 0) from xlk (by decide +kernel)) q1 hq (by show (#[46, 51, 56, 61, 66, 75, 80, 85] : Array Int)[((x2 : Int) - (0)).toNat]? = some (75); rw [e]; rfl) rfl ?_
      refine xw_aload_n (n := 98) (show xlook 105 97 = some (97, .aload_n 3, 1, 0, 0, 0, 0) from xlk (by decide +kernel)) rfl rfl ?_
      refine xw_geti (show xlook 105 98 = some (98, .getfield 199, 3, 8, 4, 0, 192) from xlk (by decide +kernel)) (by decide) (xobf hb2 (by decide) (by decide)) rfl (n := 101) rfl ?_
      exact xw_ireturn hG1 (show xlook 105 101 = some (101, .ireturn, 1, 0, 0, 0, 0) from xlk (by decide +kernel)) rfl (t hG1)
    · replace t := u6 e
      refine xw_tabIn (off := 80) (t := 102) (show xlook 105 22 = some (22, .tableswitch 90 0 7 #[46, 51, 56, 61, 66, 75, 80, 85], 46, 0, 0, 0, 0) from xlk (by decide +kernel)) q1 hq (by show (#[46, 51, 56, 61, 66, 75, 80, 85] : Array Int)[((x2 : Int) - (0)).toNat]? = some (80); rw [e]; rfl) rfl ?_
      refine xw_aload_n (n := 103) (show xlook 105 102 = some (102, .aload_n 3, 1, 0, 0, 0, 0) from xlk (by decide +kernel)) rfl rfl ?_
      refine xw_geti (show xlook 105 103 = some (103, .getfield 202, 3, 8, 5, 0, 193) from xlk (by decide +kernel)) (by decide) (xobf hb2 (by decide) (by decide)) rfl (n := 106) rfl ?_
      exact xw_ireturn hG1 (show xlook 105 106 = some (106, .ireturn, 1, 0, 0, 0, 0) from xlk (by decide +kernel)) rfl (t hG1)
    · replace t := u7 e
      refine xw_tabIn (off := 85) (t := 107) (show xlook 105 22 = some (22, .tableswitch 90 0 7 #[46, 51, 56, 61, 66, 75, 80, 85], 46, 0, 0, 0, 0) from xlk (by decide +kernel)) q1 hq (by show (#[46, 51, 56, 61, 66, 75, 80, 85] : Array Int)[((x2 : Int) - (0)).toNat]? = some (85); rw [e]; rfl) rfl ?_
      refine xw_aload_n (n := 108) (show xlook 105 107 = some (107, .aload_n 3, 1, 0, 0, 0, 0) from xlk (by decide +kernel)) rfl rfl ?_
      refine xw_geti (show xlook 105 108 = some (108, .getfield 205, 3, 8, 6, 0, 194) from xlk (by decide +kernel)) (by decide) (xobf hb2 (by decide) (by decide)) rfl (n := 111) rfl ?_
      exact xw_ireturn hG1 (show xlook 105 111 = some (111, .ireturn, 1, 0, 0, 0, 0) from xlk (by decide +kernel)) rfl (t hG1)
  · replace t := t.2 c
    refine xw_bipush (n := 10) (show xlook 105 8 = some (8, .bipush (-2), 2, 0, 0, 0, 0) from xlk (by decide +kernel)) rfl (by decide) ?_
    exact xw_ireturn hG1 (show xlook 105 10 = some (10, .ireturn, 1, 0, 0, 0, 0) from xlk (by decide +kernel)) rfl (t hG1)
theorem m105 {X : List Int32} {d : Nat} {F : XF} {Q : Int → XF → Prop} {x1 : Int} {x2 : Int} (hPT : xPT F)  (t : ∃ (j1 : Nat), j1 < d ∧ xMI X j1 129 [.ref (0), vi (x1)] (F) (fun (y1 : Int) (G1 : XF) => (inR (y1) ∧ (((¬ (y1) = (0)) → ((0 ≤ (x1 : Int) ∧ (x1 : Int) < 10) ∧ (inR (x2) ∧ ((x2 < 0 ∨ 7 < x2) → (xPT (G1) → Q ((-2)) (G1))) ∧ (((x2) = 0) → (xPT (G1) → Q ((G1) (54 + 6 + (x1 : Int).toNat) 0) (G1))) ∧ (((x2) = 1) → (xPT (G1) → Q ((G1) (54 + 6 + (x1 : Int).toNat) 1) (G1))) ∧ (((x2) = 2) → (xPT (G1) → Q ((G1) (54 + 6 + (x1 : Int).toNat) 2) (G1))) ∧ (((x2) = 3) → (xPT (G1) → Q ((G1) (54 + 6 + (x1 : Int).toNat) 3) (G1))) ∧ (((x2) = 4) → (∃ (j3 : Nat), j3 < d ∧ xMI X j3 51 [.ref (42), vi (x1)] (G1) (fun (y3 : Int) (G3 : XF) => (xPT (G3) → Q (y3) (G3))))) ∧ (((x2) = 5) → (xPT (G1) → Q ((G1) (54 + 6 + (x1 : Int).toNat) 4) (G1))) ∧ (((x2) = 6) → (xPT (G1) → Q ((G1) (54 + 6 + (x1 : Int).toNat) 5) (G1))) ∧ (((x2) = 7) → (xPT (G1) → Q ((G1) (54 + 6 + (x1 : Int).toNat) 6) (G1)))))) ∧ (¬ (¬ (y1) = (0)) → (xPT (G1) → Q ((-2)) (G1))))))) : xMI X d 105 [.ref (0), vi (x1), vi (x2)] F Q := by
  show xW X d 105 0 [.ref (0), vi (x1), vi (x2), xU0] [] F (xqi Q)
  exact s105_0 hPT  t

theorem s106_0 {X : List Int32} {d : Nat} {F : XF} {Q : Int → XF → Prop} {x1 : Int} {x2 : Int} {w3 : Value} {w4 : Value} (hPT : xPT F)  (t : ∃ (j1 : Nat), j1 < d ∧ xMI X j1 130 [.ref (0), vi (x1)] (F) (fun (y1 : Int) (G1 : XF) => (inR (y1) ∧ (((¬ (y1) = (0)) → ((0 ≤ (x1) ∧ (x1) < 30) ∧ ((0 ≤ (x1) ∧ (x1) < 30) ∧ (inR (x2) ∧ ((x2 < 0 ∨ 3 < x2) → (xPT (G1) → Q ((-2)) (G1))) ∧ (((x2) = 0) → (xPT (G1) → Q ((G1) (44) (x1)) (G1))) ∧ (((x2) = 1) → (xPT (G1) → Q ((G1) (45) (x1)) (G1))) ∧ (((x2) = 2) → ((0 ≤ (x1) ∧ (x1) < 30) ∧ (xPT (G1) → Q ((G1) (46) (x1)) (G1)))) ∧ (((x2) = 3) → ((0 ≤ ((G1) (44) (x1)) ∧ ((G1) (44) (x1)) < 30) ∧ (∃ (j2 : Nat), j2 < d ∧ xMI X j2 49 [.ref (42), vi ((G1) (45) (x1))] (G1) (fun (y2 : Int) (G2 : XF) => (xPT (G2) → Q (((G1) (49) ((G1) (44) (x1))) - (y2)) (G2)))))))))) ∧ (¬ (¬ (y1) = (0)) → (xPT (G1) → Q ((-2)) (G1))))))) : xW X d 106 0 [.ref (0), vi (x1), vi (x2), w3, w4] [] F (xqi Q) := by
  refine xw_aload_n (n := 1) (show xlook 106 0 = some (0, .aload_n 0, 1, 0, 0, 0, 0) from xlk (by decide +kernel)) rfl rfl ?_
  refine xw_iload_n (n := 2) (show xlook 106 1 = some (1, .iload_n 1, 1, 0, 0, 0, 0) from xlk (by decide +kernel)) rfl rfl ?_
  obtain ⟨j1, hj1, rr1, G1, hm1, hG1, t⟩ := t
  obtain ⟨y1, rfl, t⟩ := t
  refine xw_callv (dk := j1) (o := 0) (as := [vi (x1)]) (show xlook 106 2 = some (2, .invokevirtual 208, 3, 130, 2, 0, 130) from xlk (by decide +kernel)) (by decide) hj1 ⟨Nat.le_of_ble_eq_true rfl, Nat.le_of_ble_eq_true rfl, Nat.le_of_ble_eq_true rfl⟩ ⟨xob_11.1, xob_11.2, by decide⟩ rfl hm1 (n := 5) rfl ?_
  show xW X d 106 5 [.ref (0), vi (x1), vi (x2), w3, w4] [vi (y1)] G1 (xqi Q)
  obtain ⟨q0, t⟩ := t
  refine xw_if_ne (n := 8) (m := 11) (show xlook 106 5 = some (5, .ifCond .ne 6, 3, 11, 0, 0, 0) from xlk (by decide +kernel)) rfl rfl q0 ⟨fun c => ?_, fun c => ?_⟩
  · replace t := t.1 c
    refine xw_aload_n (n := 12) (show xlook 106 11 = some (11, .aload_n 0, 1, 0, 0, 0, 0) from xlk (by decide +kernel)) rfl rfl ?_
    refine xw_getr (q := 42) (show xlook 106 12 = some (12, .getfield 35, 3, 11, 3, 0, 162) from xlk (by decide +kernel)) (by decide) (xobf xob_11 (by decide) (by decide)) rfl (xPT_get (k := 3) (f := 42) hG1 xob_11 (by decide)) (by have := (xtg_11_3 _ xob_11.1 xob_11.2).1; omega) (n := 15) rfl ?_
    refine xw_getr (q := 43) (show xlook 106 15 = some (15, .getfield 109, 3, 6, 1, 0, 173) from xlk (by decide +kernel)) (by decide) (xobf (xtg_11_3 _ xob_11.1 xob_11.2) (by decide) (by decide)) rfl (xPT_get (k := 1) (f := 1) hG1 (xtg_11_3 _ xob_11.1 xob_11.2) (by decide)) (by have := (xtg_6_1 _ (xtg_11_3 _ xob_11.1 xob_11.2).1 (xtg_11_3 _ xob_11.1 xob_11.2).2).1; omega) (n := 18) rfl ?_
    refine xw_getr (q := 44) (show xlook 106 18 = some (18, .getfield 211, 3, 7, 1, 0, 195) from xlk (by decide +kernel)) (by decide) (xobf (xtg_6_1 _ (xtg_11_3 _ xob_11.1 xob_11.2).1 (xtg_11_3 _ xob_11.1 xob_11.2).2) (by decide) (by decide)) rfl (xPT_get (k := 1) (f := 1) hG1 (xtg_6_1 _ (xtg_11_3 _ xob_11.1 xob_11.2).1 (xtg_11_3 _ xob_11.1 xob_11.2).2) (by decide)) (by have := (xtg_7_1 _ (xtg_6_1 _ (xtg_11_3 _ xob_11.1 xob_11.2).1 (xtg_11_3 _ xob_11.1 xob_11.2).2).1 (xtg_6_1 _ (xtg_11_3 _ xob_11.1 xob_11.2).1 (xtg_11_3 _ xob_11.1 xob_11.2).2).2).1.1; omega) (n := 21) rfl ?_
    refine xw_iload_n (n := 22) (show xlook 106 21 = some (21, .iload_n 1, 1, 0, 0, 0, 0) from xlk (by decide +kernel)) rfl rfl ?_
    obtain ⟨q1, t⟩ := t
    refine xw_iald (show xlook 106 22 = some (22, .iaload, 1, 0, 0, 0, 0) from xlk (by decide +kernel)) (xtg_7_1 _ (xtg_6_1 _ (xtg_11_3 _ xob_11.1 xob_11.2).1 (xtg_11_3 _ xob_11.1 xob_11.2).2).1 (xtg_6_1 _ (xtg_11_3 _ xob_11.1 xob_11.2).1 (xtg_11_3 _ xob_11.1 xob_11.2).2).2).1 (by rw [(xtg_7_1 _ (xtg_6_1 _ (xtg_11_3 _ xob_11.1 xob_11.2).1 (xtg_11_3 _ xob_11.1 xob_11.2).2).1 (xtg_6_1 _ (xtg_11_3 _ xob_11.1 xob_11.2).1 (xtg_11_3 _ xob_11.1 xob_11.2).2).2).2]; exact q1) (n := 23) rfl ?_
    refine xw_istore_n (n := 24) (show xlook 106 23 = some (23, .istore_n 3, 1, 0, 0, 0, 0) from xlk (by decide +kernel)) rfl (ls' := [.ref (0), vi (x1), vi (x2), vi ((G1) (44) (x1)), w4]) (Nat.le_of_ble_eq_true rfl) rfl ?_
    refine xw_aload_n (n := 25) (show xlook 106 24 = some (24, .aload_n 0, 1, 0, 0, 0, 0) from xlk (by decide +kernel)) rfl rfl ?_
    refine xw_getr (q := 42) (show xlook 106 25 = some (25, .getfield 35, 3, 11, 3, 0, 162) from xlk (by decide +kernel)) (by decide) (xobf xob_11 (by decide) (by decide)) rfl (xPT_get (k := 3) (f := 42) hG1 xob_11 (by decide)) (by have := (xtg_11_3 _ xob_11.1 xob_11.2).1; omega) (n := 28) rfl ?_
    refine xw_getr (q := 43) (show xlook 106 28 = some (28, .getfield 109, 3, 6, 1, 0, 173) from xlk (by decide +kernel)) (by decide) (xobf (xtg_11_3 _ xob_11.1 xob_11.2) (by decide) (by decide)) rfl (xPT_get (k := 1) (f := 1) hG1 (xtg_11_3 _ xob_11.1 xob_11.2) (by decide)) (by have := (xtg_6_1 _ (xtg_11_3 _ xob_11.1 xob_11.2).1 (xtg_11_3 _ xob_11.1 xob_11.2).2).1; omega) (n := 31) rfl ?_
    refine xw_getr (q := 45) (show xlook 106 31 = some (31, .getfield 214, 3, 7, 2, 0, 196) from xlk (by decide +kernel)) (by decide) (xobf (xtg_6_1 _ (xtg_11_3 _ xob_11.1 xob_11.2).1 (xtg_11_3 _ xob_11.1 xob_11.2).2) (by decide) (by decide)) rfl (xPT_get (k := 2) (f := 2) hG1 (xtg_6_1 _ (xtg_11_3 _ xob_11.1 xob_11.2).1 (xtg_11_3 _ xob_11.1 xob_11.2).2) (by decide)) (by have := (xtg_7_2 _ (xtg_6_1 _ (xtg_11_3 _ xob_11.1 xob_11.2).1 (xtg_11_3 _ xob_11.1 xob_11.2).2).1 (xtg_6_1 _ (xtg_11_3 _ xob_11.1 xob_11.2).1 (xtg_11_3 _ xob_11.1 xob_11.2).2).2).1.1; omega) (n := 34) rfl ?_
    refine xw_iload_n (n := 35) (show xlook 106 34 = some (34, .iload_n 1, 1, 0, 0, 0, 0) from xlk (by decide +kernel)) rfl rfl ?_
    obtain ⟨q1, t⟩ := t
    refine xw_iald (show xlook 106 35 = some (35, .iaload, 1, 0, 0, 0, 0) from xlk (by decide +kernel)) (xtg_7_2 _ (xtg_6_1 _ (xtg_11_3 _ xob_11.1 xob_11.2).1 (xtg_11_3 _ xob_11.1 xob_11.2).2).1 (xtg_6_1 _ (xtg_11_3 _ xob_11.1 xob_11.2).1 (xtg_11_3 _ xob_11.1 xob_11.2).2).2).1 (by rw [(xtg_7_2 _ (xtg_6_1 _ (xtg_11_3 _ xob_11.1 xob_11.2).1 (xtg_11_3 _ xob_11.1 xob_11.2).2).1 (xtg_6_1 _ (xtg_11_3 _ xob_11.1 xob_11.2).1 (xtg_11_3 _ xob_11.1 xob_11.2).2).2).2]; exact q1) (n := 36) rfl ?_
    refine xw_istore (n := 38) (show xlook 106 36 = some (36, .istore 4, 2, 0, 0, 0, 0) from xlk (by decide +kernel)) rfl (ls' := [.ref (0), vi (x1), vi (x2), vi ((G1) (44) (x1)), vi ((G1) (45) (x1))]) (Nat.le_of_ble_eq_true rfl) rfl ?_
    refine xw_iload_n (n := 39) (show xlook 106 38 = some (38, .iload_n 2, 1, 0, 0, 0, 0) from xlk (by decide +kernel)) rfl rfl ?_
    obtain ⟨q1, td, u0, u1, u2, u3⟩ := t
    by_cases hq : (x2 < 0 ∨ 3 < x2)
    · replace t := td hq
      refine xw_tabOut (t := 106) (show xlook 106 39 = some (39, .tableswitch 67 0 3 #[29, 31, 34, 47], 29, 0, 0, 0, 0) from xlk (by decide +kernel)) q1 hq rfl ?_
      refine xw_bipush (n := 108) (show xlook 106 106 = some (106, .bipush (-2), 2, 0, 0, 0, 0) from xlk (by decide +kernel)) rfl (by decide) ?_
      exact xw_ireturn hG1 (show xlook 106 108 = some (108, .ireturn, 1, 0, 0, 0, 0) from xlk (by decide +kernel)) rfl (t hG1)
    rcases (show (x2) = 0 ∨ (x2) = 1 ∨ (x2) = 2 ∨ (x2) = 3 by omega) with e | e | e | e
    · replace t := u0 e
      refine xw_tabIn (off := 29) (t := 68) (show xlook 106 39 = some (39, .tableswitch 67 0 3 #[29, 31, 34, 47], 29, 0, 0, 0, 0) from xlk (by decide +kernel)) q1 hq (by show (#[29, 31, 34, 47] : Array Int)[((x2 : Int) - (0)).toNat]? = some (29); rw [e]; rfl) rfl ?_
      refine xw_iload_n (n := 69) (show xlook 106 68 = some (68, .iload_n 3, 1, 0, 0, 0, 0) from xlk (by decide +kernel)) rfl rfl ?_
      exact xw_ireturn hG1 (show xlook 106 69 = some (69, .ireturn, 1, 0, 0, 0, 0) from xlk (by decide +kernel)) rfl (t hG1)
    · replace t := u1 e
      refine xw_tabIn (off := 31) (t := 70) (show xlook 106 39 = some (39, .tableswitch 67 0 3 #[29, 31, 34, 47], 29, 0, 0, 0, 0) from xlk (by decide +kernel)) q1 hq (by show (#[29, 31, 34, 47] : Array Int)[((x2 : Int) - (0)).toNat]? = some (31); rw [e]; rfl) rfl ?_
      refine xw_iload (n := 72) (show xlook 106 70 = some (70, .iload 4, 2, 0, 0, 0, 0) from xlk (by decide +kernel)) rfl rfl ?_
      exact xw_ireturn hG1 (show xlook 106 72 = some (72, .ireturn, 1, 0, 0, 0, 0) from xlk (by decide +kernel)) rfl (t hG1)
    · replace t := u2 e
      refine xw_tabIn (off := 34) (t := 73) (show xlook 106 39 = some (39, .tableswitch 67 0 3 #[29, 31, 34, 47], 29, 0, 0, 0, 0) from xlk (by decide +kernel)) q1 hq (by show (#[29, 31, 34, 47] : Array Int)[((x2 : Int) - (0)).toNat]? = some (34); rw [e]; rfl) rfl ?_
      refine xw_aload_n (n := 74) (show xlook 106 73 = some (73, .aload_n 0, 1, 0, 0, 0, 0) from xlk (by decide +kernel)) rfl rfl ?_
      refine xw_getr (q := 42) (show xlook 106 74 = some (74, .getfield 35, 3, 11, 3, 0, 162) from xlk (by decide +kernel)) (by decide) (xobf xob_11 (by decide) (by decide)) rfl (xPT_get (k := 3) (f := 42) hG1 xob_11 (by decide)) (by have := (xtg_11_3 _ xob_11.1 xob_11.2).1; omega) (n := 77) rfl ?_
      refine xw_getr (q := 43) (show xlook 106 77 = some (77, .getfield 109, 3, 6, 1, 0, 173) from xlk (by decide +kernel)) (by decide) (xobf (xtg_11_3 _ xob_11.1 xob_11.2) (by decide) (by decide)) rfl (xPT_get (k := 1) (f := 1) hG1 (xtg_11_3 _ xob_11.1 xob_11.2) (by decide)) (by have := (xtg_6_1 _ (xtg_11_3 _ xob_11.1 xob_11.2).1 (xtg_11_3 _ xob_11.1 xob_11.2).2).1; omega) (n := 80) rfl ?_
      refine xw_getr (q := 46) (show xlook 106 80 = some (80, .getfield 217, 3, 7, 3, 0, 197) from xlk (by decide +kernel)) (by decide) (xobf (xtg_6_1 _ (xtg_11_3 _ xob_11.1 xob_11.2).1 (xtg_11_3 _ xob_11.1 xob_11.2).2) (by decide) (by decide)) rfl (xPT_get (k := 3) (f := 3) hG1 (xtg_6_1 _ (xtg_11_3 _ xob_11.1 xob_11.2).1 (xtg_11_3 _ xob_11.1 xob_11.2).2) (by decide)) (by have := (xtg_7_3 _ (xtg_6_1 _ (xtg_11_3 _ xob_11.1 xob_11.2).1 (xtg_11_3 _ xob_11.1 xob_11.2).2).1 (xtg_6_1 _ (xtg_11_3 _ xob_11.1 xob_11.2).1 (xtg_11_3 _ xob_11.1 xob_11.2).2).2).1.1; omega) (n := 83) rfl ?_
      refine xw_iload_n (n := 84) (show xlook 106 83 = some (83, .iload_n 1, 1, 0, 0, 0, 0) from xlk (by decide +kernel)) rfl rfl ?_
      obtain ⟨q1, t⟩ := t
      refine xw_iald (show xlook 106 84 = some (84, .iaload, 1, 0, 0, 0, 0) from xlk (by decide +kernel)) (xtg_7_3 _ (xtg_6_1 _ (xtg_11_3 _ xob_11.1 xob_11.2).1 (xtg_11_3 _ xob_11.1 xob_11.2).2).1 (xtg_6_1 _ (xtg_11_3 _ xob_11.1 xob_11.2).1 (xtg_11_3 _ xob_11.1 xob_11.2).2).2).1 (by rw [(xtg_7_3 _ (xtg_6_1 _ (xtg_11_3 _ xob_11.1 xob_11.2).1 (xtg_11_3 _ xob_11.1 xob_11.2).2).1 (xtg_6_1 _ (xtg_11_3 _ xob_11.1 xob_11.2).1 (xtg_11_3 _ xob_11.1 xob_11.2).2).2).2]; exact q1) (n := 85) rfl ?_
      exact xw_ireturn hG1 (show xlook 106 85 = some (85, .ireturn, 1, 0, 0, 0, 0) from xlk (by decide +kernel)) rfl (t hG1)
    · replace t := u3 e
      refine xw_tabIn (off := 47) (t := 86) (show xlook 106 39 = some (39, .tableswitch 67 0 3 #[29, 31, 34, 47], 29, 0, 0, 0, 0) from xlk (by decide +kernel)) q1 hq (by show (#[29, 31, 34, 47] : Array Int)[((x2 : Int) - (0)).toNat]? = some (47); rw [e]; rfl) rfl ?_
      refine xw_aload_n (n := 87) (show xlook 106 86 = some (86, .aload_n 0, 1, 0, 0, 0, 0) from xlk (by decide +kernel)) rfl rfl ?_
      refine xw_getr (q := 42) (show xlook 106 87 = some (87, .getfield 35, 3, 11, 3, 0, 162) from xlk (by decide +kernel)) (by decide) (xobf xob_11 (by decide) (by decide)) rfl (xPT_get (k := 3) (f := 42) hG1 xob_11 (by decide)) (by have := (xtg_11_3 _ xob_11.1 xob_11.2).1; omega) (n := 90) rfl ?_
      refine xw_getr (q := 49) (show xlook 106 90 = some (90, .getfield 155, 3, 6, 6, 0, 182) from xlk (by decide +kernel)) (by decide) (xobf (xtg_11_3 _ xob_11.1 xob_11.2) (by decide) (by decide)) rfl (xPT_get (k := 6) (f := 7) hG1 (xtg_11_3 _ xob_11.1 xob_11.2) (by decide)) (by have := (xtg_6_6 _ (xtg_11_3 _ xob_11.1 xob_11.2).1 (xtg_11_3 _ xob_11.1 xob_11.2).2).1.1; omega) (n := 93) rfl ?_
      refine xw_iload_n (n := 94) (show xlook 106 93 = some (93, .iload_n 3, 1, 0, 0, 0, 0) from xlk (by decide +kernel)) rfl rfl ?_
      obtain ⟨q1, t⟩ := t
      refine xw_iald (show xlook 106 94 = some (94, .iaload, 1, 0, 0, 0, 0) from xlk (by decide +kernel)) (xtg_6_6 _ (xtg_11_3 _ xob_11.1 xob_11.2).1 (xtg_11_3 _ xob_11.1 xob_11.2).2).1 (by rw [(xtg_6_6 _ (xtg_11_3 _ xob_11.1 xob_11.2).1 (xtg_11_3 _ xob_11.1 xob_11.2).2).2]; exact q1) (n := 95) rfl ?_
      refine xw_aload_n (n := 96) (show xlook 106 95 = some (95, .aload_n 0, 1, 0, 0, 0, 0) from xlk (by decide +kernel)) rfl rfl ?_
      refine xw_getr (q := 42) (show xlook 106 96 = some (96, .getfield 35, 3, 11, 3, 0, 162) from xlk (by decide +kernel)) (by decide) (xobf xob_11 (by decide) (by decide)) rfl (xPT_get (k := 3) (f := 42) hG1 xob_11 (by decide)) (by have := (xtg_11_3 _ xob_11.1 xob_11.2).1; omega) (n := 99) rfl ?_
      refine xw_iload (n := 101) (show xlook 106 99 = some (99, .iload 4, 2, 0, 0, 0, 0) from xlk (by decide +kernel)) rfl rfl ?_
      obtain ⟨j2, hj2, rr2, G2, hm2, hG2, t⟩ := t
      obtain ⟨y2, rfl, t⟩ := t
      refine xw_callv (dk := j2) (o := 42) (as := [vi ((G1) (45) (x1))]) (show xlook 106 101 = some (101, .invokevirtual 159, 3, 49, 2, 0, 127) from xlk (by decide +kernel)) (by decide) hj2 ⟨Nat.le_of_ble_eq_true rfl, Nat.le_of_ble_eq_true rfl, Nat.le_of_ble_eq_true rfl⟩ ⟨(xtg_11_3 _ xob_11.1 xob_11.2).1, (xtg_11_3 _ xob_11.1 xob_11.2).2, by decide⟩ rfl hm2 (n := 104) rfl ?_
      show xW X d 106 104 [.ref (0), vi (x1), vi (x2), vi ((G1) (44) (x1)), vi ((G1) (45) (x1))] [vi (y2), vi ((G1) (49) ((G1) (44) (x1)))] G2 (xqi Q)
      refine xw_isub (n := 105) (show xlook 106 104 = some (104, .isub, 1, 0, 0, 0, 0) from xlk (by decide +kernel)) rfl ?_
      exact xw_ireturn hG2 (show xlook 106 105 = some (105, .ireturn, 1, 0, 0, 0, 0) from xlk (by decide +kernel)) rfl (t hG2)
  · replace t := t.2 c
    refine xw_bipush (n := 10) (show xlook 106 8 = some (8, .bipush (-2), 2, 0, 0, 0, 0) from xlk (by decide +kernel)) rfl (by decide) ?_
    exact xw_ireturn hG1 (show xlook 106 10 = some (10, .ireturn, 1, 0, 0, 0, 0) from xlk (by decide +kernel)) rfl (t hG1)
theorem m106 {X : List Int32} {d : Nat} {F : XF} {Q : Int → XF → Prop} {x1 : Int} {x2 : Int} (hPT : xPT F)  (t : ∃ (j1 : Nat), j1 < d ∧ xMI X j1 130 [.ref (0), vi (x1)] (F) (fun (y1 : Int) (G1 : XF) => (inR (y1) ∧ (((¬ (y1) = (0)) → ((0 ≤ (x1) ∧ (x1) < 30) ∧ ((0 ≤ (x1) ∧ (x1) < 30) ∧ (inR (x2) ∧ ((x2 < 0 ∨ 3 < x2) → (xPT (G1) → Q ((-2)) (G1))) ∧ (((x2) = 0) → (xPT (G1) → Q ((G1) (44) (x1)) (G1))) ∧ (((x2) = 1) → (xPT (G1) → Q ((G1) (45) (x1)) (G1))) ∧ (((x2) = 2) → ((0 ≤ (x1) ∧ (x1) < 30) ∧ (xPT (G1) → Q ((G1) (46) (x1)) (G1)))) ∧ (((x2) = 3) → ((0 ≤ ((G1) (44) (x1)) ∧ ((G1) (44) (x1)) < 30) ∧ (∃ (j2 : Nat), j2 < d ∧ xMI X j2 49 [.ref (42), vi ((G1) (45) (x1))] (G1) (fun (y2 : Int) (G2 : XF) => (xPT (G2) → Q (((G1) (49) ((G1) (44) (x1))) - (y2)) (G2)))))))))) ∧ (¬ (¬ (y1) = (0)) → (xPT (G1) → Q ((-2)) (G1))))))) : xMI X d 106 [.ref (0), vi (x1), vi (x2)] F Q := by
  show xW X d 106 0 [.ref (0), vi (x1), vi (x2), xU0, xU0] [] F (xqi Q)
  exact s106_0 hPT  t

theorem s107_0 {X : List Int32} {d : Nat} {F : XF} {Q : Int → XF → Prop} {x1 : Int} {x2 : Int} {w3 : Value} (hPT : xPT F)  (t : inR (x1) ∧ ((((x1) < (0)) → (xPT (F) → Q ((-2)) (F))) ∧ (¬ ((x1) < (0)) → (inR (x1) ∧ inR ((F) (55) 0) ∧ ((((x1) < ((F) (55) 0)) → (inR (x2) ∧ ((x2 < 0 ∨ 3 < x2) → (xPT (F) → Q ((-2)) (F))) ∧ (((x2) = 0) → ((0 ≤ (x1) ∧ (x1) < (xln0 (56) : Int)) ∧ (xPT (F) → Q ((F) (56) (x1)) (F)))) ∧ (((x2) = 1) → ((0 ≤ (x1) ∧ (x1) < (xln0 (57) : Int)) ∧ (xPT (F) → Q ((F) (57) (x1)) (F)))) ∧ (((x2) = 2) → ((0 ≤ (x1) ∧ (x1) < (xln0 (58) : Int)) ∧ (xPT (F) → Q ((F) (58) (x1)) (F)))) ∧ (((x2) = 3) → ((0 ≤ (x1) ∧ (x1) < (xln0 (59) : Int)) ∧ (xPT (F) → Q ((F) (59) (x1)) (F)))))) ∧ (¬ ((x1) < ((F) (55) 0)) → (xPT (F) → Q ((-2)) (F)))))))) : xW X d 107 0 [.ref (0), vi (x1), vi (x2), w3] [] F (xqi Q) := by
  refine xw_aload_n (n := 1) (show xlook 107 0 = some (0, .aload_n 0, 1, 0, 0, 0, 0) from xlk (by decide +kernel)) rfl rfl ?_
  refine xw_getr (q := 42) (show xlook 107 1 = some (1, .getfield 35, 3, 11, 3, 0, 162) from xlk (by decide +kernel)) (by decide) (xobf xob_11 (by decide) (by decide)) rfl (xPT_get (k := 3) (f := 42) hPT xob_11 (by decide)) (by have := (xtg_11_3 _ xob_11.1 xob_11.2).1; omega) (n := 4) rfl ?_
  refine xw_getr (q := 55) (show xlook 107 4 = some (4, .getfield 220, 3, 6, 12, 0, 198) from xlk (by decide +kernel)) (by decide) (xobf (xtg_11_3 _ xob_11.1 xob_11.2) (by decide) (by decide)) rfl (xPT_get (k := 12) (f := 13) hPT (xtg_11_3 _ xob_11.1 xob_11.2) (by decide)) (by have := (xtg_6_12 _ (xtg_11_3 _ xob_11.1 xob_11.2).1 (xtg_11_3 _ xob_11.1 xob_11.2).2).1; omega) (n := 7) rfl ?_
  refine xw_astore_n (n := 8) (show xlook 107 7 = some (7, .astore_n 3, 1, 0, 0, 0, 0) from xlk (by decide +kernel)) rfl (ls' := [.ref (0), vi (x1), vi (x2), .ref (55)]) (Nat.le_of_ble_eq_true rfl) rfl ?_
  refine xw_iload_n (n := 9) (show xlook 107 8 = some (8, .iload_n 1, 1, 0, 0, 0, 0) from xlk (by decide +kernel)) rfl rfl ?_
  obtain ⟨q0, t⟩ := t
  refine xw_if_lt (n := 12) (m := 20) (show xlook 107 9 = some (9, .ifCond .lt 11, 3, 20, 0, 0, 0) from xlk (by decide +kernel)) rfl rfl q0 ⟨fun c => ?_, fun c => ?_⟩
  · replace t := t.1 c
    refine xw_bipush (n := 22) (show xlook 107 20 = some (20, .bipush (-2), 2, 0, 0, 0, 0) from xlk (by decide +kernel)) rfl (by decide) ?_
    exact xw_ireturn hPT (show xlook 107 22 = some (22, .ireturn, 1, 0, 0, 0, 0) from xlk (by decide +kernel)) rfl (t hPT)
  · replace t := t.2 c
    refine xw_iload_n (n := 13) (show xlook 107 12 = some (12, .iload_n 1, 1, 0, 0, 0, 0) from xlk (by decide +kernel)) rfl rfl ?_
    refine xw_aload_n (n := 14) (show xlook 107 13 = some (13, .aload_n 3, 1, 0, 0, 0, 0) from xlk (by decide +kernel)) rfl rfl ?_
    refine xw_geti (show xlook 107 14 = some (14, .getfield 224, 3, 2, 0, 0, 199) from xlk (by decide +kernel)) (by decide) (xobf (xtg_6_12 _ (xtg_11_3 _ xob_11.1 xob_11.2).1 (xtg_11_3 _ xob_11.1 xob_11.2).2) (by decide) (by decide)) rfl (n := 17) rfl ?_
    obtain ⟨q0, q1, t⟩ := t
    refine xw_icmp_lt (n := 20) (m := 23) (show xlook 107 17 = some (17, .if_icmp .lt 6, 3, 23, 0, 0, 0) from xlk (by decide +kernel)) rfl rfl q0 q1 ⟨fun c => ?_, fun c => ?_⟩
    · replace t := t.1 c
      refine xw_iload_n (n := 24) (show xlook 107 23 = some (23, .iload_n 2, 1, 0, 0, 0, 0) from xlk (by decide +kernel)) rfl rfl ?_
      obtain ⟨q1, td, u0, u1, u2, u3⟩ := t
      by_cases hq : (x2 < 0 ∨ 3 < x2)
      · replace t := td hq
        refine xw_tabOut (t := 84) (show xlook 107 24 = some (24, .tableswitch 60 0 3 #[32, 39, 46, 53], 32, 0, 0, 0, 0) from xlk (by decide +kernel)) q1 hq rfl ?_
        refine xw_bipush (n := 86) (show xlook 107 84 = some (84, .bipush (-2), 2, 0, 0, 0, 0) from xlk (by decide +kernel)) rfl (by decide) ?_
        exact xw_ireturn hPT (show xlook 107 86 = some (86, .ireturn, 1, 0, 0, 0, 0) from xlk (by decide +kernel)) rfl (t hPT)
      rcases (show (x2) = 0 ∨ (x2) = 1 ∨ (x2) = 2 ∨ (x2) = 3 by omega) with e | e | e | e
      · replace t := u0 e
        refine xw_tabIn (off := 32) (t := 56) (show xlook 107 24 = some (24, .tableswitch 60 0 3 #[32, 39, 46, 53], 32, 0, 0, 0, 0) from xlk (by decide +kernel)) q1 hq (by show (#[32, 39, 46, 53] : Array Int)[((x2 : Int) - (0)).toNat]? = some (32); rw [e]; rfl) rfl ?_
        refine xw_aload_n (n := 57) (show xlook 107 56 = some (56, .aload_n 3, 1, 0, 0, 0, 0) from xlk (by decide +kernel)) rfl rfl ?_
        refine xw_getr (q := 56) (show xlook 107 57 = some (57, .getfield 227, 3, 2, 1, 0, 200) from xlk (by decide +kernel)) (by decide) (xobf (xtg_6_12 _ (xtg_11_3 _ xob_11.1 xob_11.2).1 (xtg_11_3 _ xob_11.1 xob_11.2).2) (by decide) (by decide)) rfl (xPT_get (k := 1) (f := 1) hPT (xtg_6_12 _ (xtg_11_3 _ xob_11.1 xob_11.2).1 (xtg_11_3 _ xob_11.1 xob_11.2).2) (by decide)) (by have := (xtg_2_1 _ (xtg_6_12 _ (xtg_11_3 _ xob_11.1 xob_11.2).1 (xtg_11_3 _ xob_11.1 xob_11.2).2).1 (xtg_6_12 _ (xtg_11_3 _ xob_11.1 xob_11.2).1 (xtg_11_3 _ xob_11.1 xob_11.2).2).2).1; omega) (n := 60) rfl ?_
        refine xw_iload_n (n := 61) (show xlook 107 60 = some (60, .iload_n 1, 1, 0, 0, 0, 0) from xlk (by decide +kernel)) rfl rfl ?_
        obtain ⟨q1, t⟩ := t
        refine xw_iald (show xlook 107 61 = some (61, .iaload, 1, 0, 0, 0, 0) from xlk (by decide +kernel)) (xtg_2_1 _ (xtg_6_12 _ (xtg_11_3 _ xob_11.1 xob_11.2).1 (xtg_11_3 _ xob_11.1 xob_11.2).2).1 (xtg_6_12 _ (xtg_11_3 _ xob_11.1 xob_11.2).1 (xtg_11_3 _ xob_11.1 xob_11.2).2).2) q1 (n := 62) rfl ?_
        exact xw_ireturn hPT (show xlook 107 62 = some (62, .ireturn, 1, 0, 0, 0, 0) from xlk (by decide +kernel)) rfl (t hPT)
      · replace t := u1 e
        refine xw_tabIn (off := 39) (t := 63) (show xlook 107 24 = some (24, .tableswitch 60 0 3 #[32, 39, 46, 53], 32, 0, 0, 0, 0) from xlk (by decide +kernel)) q1 hq (by show (#[32, 39, 46, 53] : Array Int)[((x2 : Int) - (0)).toNat]? = some (39); rw [e]; rfl) rfl ?_
        refine xw_aload_n (n := 64) (show xlook 107 63 = some (63, .aload_n 3, 1, 0, 0, 0, 0) from xlk (by decide +kernel)) rfl rfl ?_
        refine xw_getr (q := 57) (show xlook 107 64 = some (64, .getfield 230, 3, 2, 2, 0, 201) from xlk (by decide +kernel)) (by decide) (xobf (xtg_6_12 _ (xtg_11_3 _ xob_11.1 xob_11.2).1 (xtg_11_3 _ xob_11.1 xob_11.2).2) (by decide) (by decide)) rfl (xPT_get (k := 2) (f := 2) hPT (xtg_6_12 _ (xtg_11_3 _ xob_11.1 xob_11.2).1 (xtg_11_3 _ xob_11.1 xob_11.2).2) (by decide)) (by have := (xtg_2_2 _ (xtg_6_12 _ (xtg_11_3 _ xob_11.1 xob_11.2).1 (xtg_11_3 _ xob_11.1 xob_11.2).2).1 (xtg_6_12 _ (xtg_11_3 _ xob_11.1 xob_11.2).1 (xtg_11_3 _ xob_11.1 xob_11.2).2).2).1; omega) (n := 67) rfl ?_
        refine xw_iload_n (n := 68) (show xlook 107 67 = some (67, .iload_n 1, 1, 0, 0, 0, 0) from xlk (by decide +kernel)) rfl rfl ?_
        obtain ⟨q1, t⟩ := t
        refine xw_iald (show xlook 107 68 = some (68, .iaload, 1, 0, 0, 0, 0) from xlk (by decide +kernel)) (xtg_2_2 _ (xtg_6_12 _ (xtg_11_3 _ xob_11.1 xob_11.2).1 (xtg_11_3 _ xob_11.1 xob_11.2).2).1 (xtg_6_12 _ (xtg_11_3 _ xob_11.1 xob_11.2).1 (xtg_11_3 _ xob_11.1 xob_11.2).2).2) q1 (n := 69) rfl ?_
        exact xw_ireturn hPT (show xlook 107 69 = some (69, .ireturn, 1, 0, 0, 0, 0) from xlk (by decide +kernel)) rfl (t hPT)
      · replace t := u2 e
        refine xw_tabIn (off := 46) (t := 70) (show xlook 107 24 = some (24, .tableswitch 60 0 3 #[32, 39, 46, 53], 32, 0, 0, 0, 0) from xlk (by decide +kernel)) q1 hq (by show (#[32, 39, 46, 53] : Array Int)[((x2 : Int) - (0)).toNat]? = some (46); rw [e]; rfl) rfl ?_
        refine xw_aload_n (n := 71) (show xlook 107 70 = some (70, .aload_n 3, 1, 0, 0, 0, 0) from xlk (by decide +kernel)) rfl rfl ?_
        refine xw_getr (q := 58) (show xlook 107 71 = some (71, .getfield 232, 3, 2, 3, 0, 202) from xlk (by decide +kernel)) (by decide) (xobf (xtg_6_12 _ (xtg_11_3 _ xob_11.1 xob_11.2).1 (xtg_11_3 _ xob_11.1 xob_11.2).2) (by decide) (by decide)) rfl (xPT_get (k := 3) (f := 3) hPT (xtg_6_12 _ (xtg_11_3 _ xob_11.1 xob_11.2).1 (xtg_11_3 _ xob_11.1 xob_11.2).2) (by decide)) (by have := (xtg_2_3 _ (xtg_6_12 _ (xtg_11_3 _ xob_11.1 xob_11.2).1 (xtg_11_3 _ xob_11.1 xob_11.2).2).1 (xtg_6_12 _ (xtg_11_3 _ xob_11.1 xob_11.2).1 (xtg_11_3 _ xob_11.1 xob_11.2).2).2).1; omega) (n := 74) rfl ?_
        refine xw_iload_n (n := 75) (show xlook 107 74 = some (74, .iload_n 1, 1, 0, 0, 0, 0) from xlk (by decide +kernel)) rfl rfl ?_
        obtain ⟨q1, t⟩ := t
        refine xw_iald (show xlook 107 75 = some (75, .iaload, 1, 0, 0, 0, 0) from xlk (by decide +kernel)) (xtg_2_3 _ (xtg_6_12 _ (xtg_11_3 _ xob_11.1 xob_11.2).1 (xtg_11_3 _ xob_11.1 xob_11.2).2).1 (xtg_6_12 _ (xtg_11_3 _ xob_11.1 xob_11.2).1 (xtg_11_3 _ xob_11.1 xob_11.2).2).2) q1 (n := 76) rfl ?_
        exact xw_ireturn hPT (show xlook 107 76 = some (76, .ireturn, 1, 0, 0, 0, 0) from xlk (by decide +kernel)) rfl (t hPT)
      · replace t := u3 e
        refine xw_tabIn (off := 53) (t := 77) (show xlook 107 24 = some (24, .tableswitch 60 0 3 #[32, 39, 46, 53], 32, 0, 0, 0, 0) from xlk (by decide +kernel)) q1 hq (by show (#[32, 39, 46, 53] : Array Int)[((x2 : Int) - (0)).toNat]? = some (53); rw [e]; rfl) rfl ?_
        refine xw_aload_n (n := 78) (show xlook 107 77 = some (77, .aload_n 3, 1, 0, 0, 0, 0) from xlk (by decide +kernel)) rfl rfl ?_
        refine xw_getr (q := 59) (show xlook 107 78 = some (78, .getfield 235, 3, 2, 4, 0, 203) from xlk (by decide +kernel)) (by decide) (xobf (xtg_6_12 _ (xtg_11_3 _ xob_11.1 xob_11.2).1 (xtg_11_3 _ xob_11.1 xob_11.2).2) (by decide) (by decide)) rfl (xPT_get (k := 4) (f := 4) hPT (xtg_6_12 _ (xtg_11_3 _ xob_11.1 xob_11.2).1 (xtg_11_3 _ xob_11.1 xob_11.2).2) (by decide)) (by have := (xtg_2_4 _ (xtg_6_12 _ (xtg_11_3 _ xob_11.1 xob_11.2).1 (xtg_11_3 _ xob_11.1 xob_11.2).2).1 (xtg_6_12 _ (xtg_11_3 _ xob_11.1 xob_11.2).1 (xtg_11_3 _ xob_11.1 xob_11.2).2).2).1; omega) (n := 81) rfl ?_
        refine xw_iload_n (n := 82) (show xlook 107 81 = some (81, .iload_n 1, 1, 0, 0, 0, 0) from xlk (by decide +kernel)) rfl rfl ?_
        obtain ⟨q1, t⟩ := t
        refine xw_iald (show xlook 107 82 = some (82, .iaload, 1, 0, 0, 0, 0) from xlk (by decide +kernel)) (xtg_2_4 _ (xtg_6_12 _ (xtg_11_3 _ xob_11.1 xob_11.2).1 (xtg_11_3 _ xob_11.1 xob_11.2).2).1 (xtg_6_12 _ (xtg_11_3 _ xob_11.1 xob_11.2).1 (xtg_11_3 _ xob_11.1 xob_11.2).2).2) q1 (n := 83) rfl ?_
        exact xw_ireturn hPT (show xlook 107 83 = some (83, .ireturn, 1, 0, 0, 0, 0) from xlk (by decide +kernel)) rfl (t hPT)
    · replace t := t.2 c
      refine xw_bipush (n := 22) (show xlook 107 20 = some (20, .bipush (-2), 2, 0, 0, 0, 0) from xlk (by decide +kernel)) rfl (by decide) ?_
      exact xw_ireturn hPT (show xlook 107 22 = some (22, .ireturn, 1, 0, 0, 0, 0) from xlk (by decide +kernel)) rfl (t hPT)
theorem m107 {X : List Int32} {d : Nat} {F : XF} {Q : Int → XF → Prop} {x1 : Int} {x2 : Int} (hPT : xPT F)  (t : inR (x1) ∧ ((((x1) < (0)) → (xPT (F) → Q ((-2)) (F))) ∧ (¬ ((x1) < (0)) → (inR (x1) ∧ inR ((F) (55) 0) ∧ ((((x1) < ((F) (55) 0)) → (inR (x2) ∧ ((x2 < 0 ∨ 3 < x2) → (xPT (F) → Q ((-2)) (F))) ∧ (((x2) = 0) → ((0 ≤ (x1) ∧ (x1) < (xln0 (56) : Int)) ∧ (xPT (F) → Q ((F) (56) (x1)) (F)))) ∧ (((x2) = 1) → ((0 ≤ (x1) ∧ (x1) < (xln0 (57) : Int)) ∧ (xPT (F) → Q ((F) (57) (x1)) (F)))) ∧ (((x2) = 2) → ((0 ≤ (x1) ∧ (x1) < (xln0 (58) : Int)) ∧ (xPT (F) → Q ((F) (58) (x1)) (F)))) ∧ (((x2) = 3) → ((0 ≤ (x1) ∧ (x1) < (xln0 (59) : Int)) ∧ (xPT (F) → Q ((F) (59) (x1)) (F)))))) ∧ (¬ ((x1) < ((F) (55) 0)) → (xPT (F) → Q ((-2)) (F)))))))) : xMI X d 107 [.ref (0), vi (x1), vi (x2)] F Q := by
  show xW X d 107 0 [.ref (0), vi (x1), vi (x2), xU0] [] F (xqi Q)
  exact s107_0 hPT  t

theorem s108_0 {X : List Int32} {d : Nat} {F : XF} {Q : Int → XF → Prop} {x1 : Int} {x2 : Int} (hPT : xPT F)  (t : ∃ (j1 : Nat), j1 < d ∧ xMI X j1 130 [.ref (0), vi (x1)] (F) (fun (y1 : Int) (G1 : XF) => (inR (y1) ∧ ((((y1) = (0)) → (xPT (G1) → Q ((-2)) (G1))) ∧ (¬ ((y1) = (0)) → (∃ (j2 : Nat), j2 < d ∧ xMI X j2 129 [.ref (0), vi (x2)] (G1) (fun (y2 : Int) (G2 : XF) => (inR (y2) ∧ (((¬ (y2) = (0)) → (∃ (j3 : Nat), j3 < d ∧ xMI X j3 66 [.ref (43), vi (x1), vi (x2)] (G2) (fun (y3 : Int) (G3 : XF) => (xPT (G3) → Q (y3) (G3))))) ∧ (¬ (¬ (y2) = (0)) → (xPT (G2) → Q ((-2)) (G2)))))))))))) : xW X d 108 0 [.ref (0), vi (x1), vi (x2)] [] F (xqi Q) := by
  refine xw_aload_n (n := 1) (show xlook 108 0 = some (0, .aload_n 0, 1, 0, 0, 0, 0) from xlk (by decide +kernel)) rfl rfl ?_
  refine xw_iload_n (n := 2) (show xlook 108 1 = some (1, .iload_n 1, 1, 0, 0, 0, 0) from xlk (by decide +kernel)) rfl rfl ?_
  obtain ⟨j1, hj1, rr1, G1, hm1, hG1, t⟩ := t
  obtain ⟨y1, rfl, t⟩ := t
  refine xw_callv (dk := j1) (o := 0) (as := [vi (x1)]) (show xlook 108 2 = some (2, .invokevirtual 208, 3, 130, 2, 0, 130) from xlk (by decide +kernel)) (by decide) hj1 ⟨Nat.le_of_ble_eq_true rfl, Nat.le_of_ble_eq_true rfl, Nat.le_of_ble_eq_true rfl⟩ ⟨xob_11.1, xob_11.2, by decide⟩ rfl hm1 (n := 5) rfl ?_
  show xW X d 108 5 [.ref (0), vi (x1), vi (x2)] [vi (y1)] G1 (xqi Q)
  obtain ⟨q0, t⟩ := t
  refine xw_if_eq (n := 8) (m := 16) (show xlook 108 5 = some (5, .ifCond .eq 11, 3, 16, 0, 0, 0) from xlk (by decide +kernel)) rfl rfl q0 ⟨fun c => ?_, fun c => ?_⟩
  · replace t := t.1 c
    refine xw_bipush (n := 18) (show xlook 108 16 = some (16, .bipush (-2), 2, 0, 0, 0, 0) from xlk (by decide +kernel)) rfl (by decide) ?_
    exact xw_ireturn hG1 (show xlook 108 18 = some (18, .ireturn, 1, 0, 0, 0, 0) from xlk (by decide +kernel)) rfl (t hG1)
  · replace t := t.2 c
    refine xw_aload_n (n := 9) (show xlook 108 8 = some (8, .aload_n 0, 1, 0, 0, 0, 0) from xlk (by decide +kernel)) rfl rfl ?_
    refine xw_iload_n (n := 10) (show xlook 108 9 = some (9, .iload_n 2, 1, 0, 0, 0, 0) from xlk (by decide +kernel)) rfl rfl ?_
    obtain ⟨j2, hj2, rr2, G2, hm2, hG2, t⟩ := t
    obtain ⟨y2, rfl, t⟩ := t
    refine xw_callv (dk := j2) (o := 0) (as := [vi (x2)]) (show xlook 108 10 = some (10, .invokevirtual 175, 3, 129, 2, 0, 128) from xlk (by decide +kernel)) (by decide) hj2 ⟨Nat.le_of_ble_eq_true rfl, Nat.le_of_ble_eq_true rfl, Nat.le_of_ble_eq_true rfl⟩ ⟨xob_11.1, xob_11.2, by decide⟩ rfl hm2 (n := 13) rfl ?_
    show xW X d 108 13 [.ref (0), vi (x1), vi (x2)] [vi (y2)] G2 (xqi Q)
    obtain ⟨q0, t⟩ := t
    refine xw_if_ne (n := 16) (m := 19) (show xlook 108 13 = some (13, .ifCond .ne 6, 3, 19, 0, 0, 0) from xlk (by decide +kernel)) rfl rfl q0 ⟨fun c => ?_, fun c => ?_⟩
    · replace t := t.1 c
      refine xw_aload_n (n := 20) (show xlook 108 19 = some (19, .aload_n 0, 1, 0, 0, 0, 0) from xlk (by decide +kernel)) rfl rfl ?_
      refine xw_getr (q := 42) (show xlook 108 20 = some (20, .getfield 35, 3, 11, 3, 0, 162) from xlk (by decide +kernel)) (by decide) (xobf xob_11 (by decide) (by decide)) rfl (xPT_get (k := 3) (f := 42) hG2 xob_11 (by decide)) (by have := (xtg_11_3 _ xob_11.1 xob_11.2).1; omega) (n := 23) rfl ?_
      refine xw_getr (q := 43) (show xlook 108 23 = some (23, .getfield 109, 3, 6, 1, 0, 173) from xlk (by decide +kernel)) (by decide) (xobf (xtg_11_3 _ xob_11.1 xob_11.2) (by decide) (by decide)) rfl (xPT_get (k := 1) (f := 1) hG2 (xtg_11_3 _ xob_11.1 xob_11.2) (by decide)) (by have := (xtg_6_1 _ (xtg_11_3 _ xob_11.1 xob_11.2).1 (xtg_11_3 _ xob_11.1 xob_11.2).2).1; omega) (n := 26) rfl ?_
      refine xw_iload_n (n := 27) (show xlook 108 26 = some (26, .iload_n 1, 1, 0, 0, 0, 0) from xlk (by decide +kernel)) rfl rfl ?_
      refine xw_iload_n (n := 28) (show xlook 108 27 = some (27, .iload_n 2, 1, 0, 0, 0, 0) from xlk (by decide +kernel)) rfl rfl ?_
      obtain ⟨j3, hj3, rr3, G3, hm3, hG3, t⟩ := t
      obtain ⟨y3, rfl, t⟩ := t
      refine xw_callv (dk := j3) (o := 43) (as := [vi (x1), vi (x2)]) (show xlook 108 28 = some (28, .invokevirtual 238, 3, 66, 3, 0, 131) from xlk (by decide +kernel)) (by decide) hj3 ⟨Nat.le_of_ble_eq_true rfl, Nat.le_of_ble_eq_true rfl, Nat.le_of_ble_eq_true rfl⟩ ⟨(xtg_6_1 _ (xtg_11_3 _ xob_11.1 xob_11.2).1 (xtg_11_3 _ xob_11.1 xob_11.2).2).1, (xtg_6_1 _ (xtg_11_3 _ xob_11.1 xob_11.2).1 (xtg_11_3 _ xob_11.1 xob_11.2).2).2, by decide⟩ rfl hm3 (n := 31) rfl ?_
      show xW X d 108 31 [.ref (0), vi (x1), vi (x2)] [vi (y3)] G3 (xqi Q)
      exact xw_ireturn hG3 (show xlook 108 31 = some (31, .ireturn, 1, 0, 0, 0, 0) from xlk (by decide +kernel)) rfl (t hG3)
    · replace t := t.2 c
      refine xw_bipush (n := 18) (show xlook 108 16 = some (16, .bipush (-2), 2, 0, 0, 0, 0) from xlk (by decide +kernel)) rfl (by decide) ?_
      exact xw_ireturn hG2 (show xlook 108 18 = some (18, .ireturn, 1, 0, 0, 0, 0) from xlk (by decide +kernel)) rfl (t hG2)
theorem m108 {X : List Int32} {d : Nat} {F : XF} {Q : Int → XF → Prop} {x1 : Int} {x2 : Int} (hPT : xPT F)  (t : ∃ (j1 : Nat), j1 < d ∧ xMI X j1 130 [.ref (0), vi (x1)] (F) (fun (y1 : Int) (G1 : XF) => (inR (y1) ∧ ((((y1) = (0)) → (xPT (G1) → Q ((-2)) (G1))) ∧ (¬ ((y1) = (0)) → (∃ (j2 : Nat), j2 < d ∧ xMI X j2 129 [.ref (0), vi (x2)] (G1) (fun (y2 : Int) (G2 : XF) => (inR (y2) ∧ (((¬ (y2) = (0)) → (∃ (j3 : Nat), j3 < d ∧ xMI X j3 66 [.ref (43), vi (x1), vi (x2)] (G2) (fun (y3 : Int) (G3 : XF) => (xPT (G3) → Q (y3) (G3))))) ∧ (¬ (¬ (y2) = (0)) → (xPT (G2) → Q ((-2)) (G2)))))))))))) : xMI X d 108 [.ref (0), vi (x1), vi (x2)] F Q := by
  show xW X d 108 0 [.ref (0), vi (x1), vi (x2)] [] F (xqi Q)
  exact s108_0 hPT  t

theorem s109_0 {X : List Int32} {d : Nat} {F : XF} {Q : Int → XF → Prop} {x1 : Int} {x2 : Int} {x3 : Int} {w4 : Value} (hPT : xPT F)  (t : ∃ (j1 : Nat), j1 < d ∧ xMI X j1 130 [.ref (0), vi (x1)] (F) (fun (y1 : Int) (G1 : XF) => (inR (y1) ∧ ((((y1) = (0)) → (xPT (G1) → Q ((-2)) (G1))) ∧ (¬ ((y1) = (0)) → (∃ (j2 : Nat), j2 < d ∧ xMI X j2 129 [.ref (0), vi (x2)] (G1) (fun (y2 : Int) (G2 : XF) => (inR (y2) ∧ (((¬ (y2) = (0)) → (∃ (j3 : Nat), j3 < d ∧ xMI X j3 131 [vi (x3)] (G2) (fun (y3 : Int) (G3 : XF) => (inR (y3) ∧ (((¬ (y3) = (0)) → (∃ t4 : Nat, (G3) (0) 0 = (t4 : Int) ∧ xob 9 t4 ∧ ((0 ≤ (x2 : Int) ∧ (x2 : Int) < 10) ∧ (∃ (j6 : Nat), j6 < d ∧ xMI X j6 66 [.ref (43), vi (x1), vi (x2)] (G3) (fun (y6 : Int) (G6 : XF) => (∃ (j7 : Nat), j7 < d ∧ xMI X j7 12 [.ref (t4 + 1 + 6 + (x2 : Int).toNat), vi (x3), vi (y6)] (G6) (fun (y7 : Int) (G7 : XF) => (inR (y7) ∧ ((((2000) ≤ (y7)) → (xPT (G7) → Q ((-1)) (G7))) ∧ (¬ ((2000) ≤ (y7)) → (xPT (G7) → Q (y7) (G7)))))))))))) ∧ (¬ (¬ (y3) = (0)) → (xPT (G3) → Q ((-3)) (G3)))))))) ∧ (¬ (¬ (y2) = (0)) → (xPT (G2) → Q ((-2)) (G2)))))))))))) : xW X d 109 0 [.ref (0), vi (x1), vi (x2), vi (x3), w4] [] F (xqi Q) := by
  refine xw_aload_n (n := 1) (show xlook 109 0 = some (0, .aload_n 0, 1, 0, 0, 0, 0) from xlk (by decide +kernel)) rfl rfl ?_
  refine xw_iload_n (n := 2) (show xlook 109 1 = some (1, .iload_n 1, 1, 0, 0, 0, 0) from xlk (by decide +kernel)) rfl rfl ?_
  obtain ⟨j1, hj1, rr1, G1, hm1, hG1, t⟩ := t
  obtain ⟨y1, rfl, t⟩ := t
  refine xw_callv (dk := j1) (o := 0) (as := [vi (x1)]) (show xlook 109 2 = some (2, .invokevirtual 208, 3, 130, 2, 0, 130) from xlk (by decide +kernel)) (by decide) hj1 ⟨Nat.le_of_ble_eq_true rfl, Nat.le_of_ble_eq_true rfl, Nat.le_of_ble_eq_true rfl⟩ ⟨xob_11.1, xob_11.2, by decide⟩ rfl hm1 (n := 5) rfl ?_
  show xW X d 109 5 [.ref (0), vi (x1), vi (x2), vi (x3), w4] [vi (y1)] G1 (xqi Q)
  obtain ⟨q0, t⟩ := t
  refine xw_if_eq (n := 8) (m := 16) (show xlook 109 5 = some (5, .ifCond .eq 11, 3, 16, 0, 0, 0) from xlk (by decide +kernel)) rfl rfl q0 ⟨fun c => ?_, fun c => ?_⟩
  · replace t := t.1 c
    refine xw_bipush (n := 18) (show xlook 109 16 = some (16, .bipush (-2), 2, 0, 0, 0, 0) from xlk (by decide +kernel)) rfl (by decide) ?_
    exact xw_ireturn hG1 (show xlook 109 18 = some (18, .ireturn, 1, 0, 0, 0, 0) from xlk (by decide +kernel)) rfl (t hG1)
  · replace t := t.2 c
    refine xw_aload_n (n := 9) (show xlook 109 8 = some (8, .aload_n 0, 1, 0, 0, 0, 0) from xlk (by decide +kernel)) rfl rfl ?_
    refine xw_iload_n (n := 10) (show xlook 109 9 = some (9, .iload_n 2, 1, 0, 0, 0, 0) from xlk (by decide +kernel)) rfl rfl ?_
    obtain ⟨j2, hj2, rr2, G2, hm2, hG2, t⟩ := t
    obtain ⟨y2, rfl, t⟩ := t
    refine xw_callv (dk := j2) (o := 0) (as := [vi (x2)]) (show xlook 109 10 = some (10, .invokevirtual 175, 3, 129, 2, 0, 128) from xlk (by decide +kernel)) (by decide) hj2 ⟨Nat.le_of_ble_eq_true rfl, Nat.le_of_ble_eq_true rfl, Nat.le_of_ble_eq_true rfl⟩ ⟨xob_11.1, xob_11.2, by decide⟩ rfl hm2 (n := 13) rfl ?_
    show xW X d 109 13 [.ref (0), vi (x1), vi (x2), vi (x3), w4] [vi (y2)] G2 (xqi Q)
    obtain ⟨q0, t⟩ := t
    refine xw_if_ne (n := 16) (m := 19) (show xlook 109 13 = some (13, .ifCond .ne 6, 3, 19, 0, 0, 0) from xlk (by decide +kernel)) rfl rfl q0 ⟨fun c => ?_, fun c => ?_⟩
    · replace t := t.1 c
      refine xw_iload_n (n := 20) (show xlook 109 19 = some (19, .iload_n 3, 1, 0, 0, 0, 0) from xlk (by decide +kernel)) rfl rfl ?_
      obtain ⟨j3, hj3, rr3, G3, hm3, hG3, t⟩ := t
      obtain ⟨y3, rfl, t⟩ := t
      refine xw_calls (dk := j3) (as := [vi (x3)]) (show xlook 109 20 = some (20, .invokestatic 125, 3, 131, 1, 0, 123) from xlk (by decide +kernel)) (by decide) hj3 ⟨Nat.le_of_ble_eq_true rfl, Nat.le_of_ble_eq_true rfl, Nat.le_of_ble_eq_true rfl, by decide⟩ rfl hm3 (n := 23) rfl ?_
      show xW X d 109 23 [.ref (0), vi (x1), vi (x2), vi (x3), w4] [vi (y3)] G3 (xqi Q)
      obtain ⟨q0, t⟩ := t
      refine xw_if_ne (n := 26) (m := 29) (show xlook 109 23 = some (23, .ifCond .ne 6, 3, 29, 0, 0, 0) from xlk (by decide +kernel)) rfl rfl q0 ⟨fun c => ?_, fun c => ?_⟩
      · replace t := t.1 c
        refine xw_aload_n (n := 30) (show xlook 109 29 = some (29, .aload_n 0, 1, 0, 0, 0, 0) from xlk (by decide +kernel)) rfl rfl ?_
        obtain ⟨t4, q1, ht4, t⟩ := t
        refine xw_getr (q := t4) (show xlook 109 30 = some (30, .getfield 10, 3, 11, 0, 0, 159) from xlk (by decide +kernel)) (by decide) (xobf xob_11 (by decide) (by decide)) rfl q1 (by have := ht4.1; omega) (n := 33) rfl ?_
        refine xw_getr (q := t4 + 1) (show xlook 109 33 = some (33, .getfield 242, 3, 9, 5, 0, 204) from xlk (by decide +kernel)) (by decide) (xobf ht4 (by decide) (by decide)) rfl (xPT_get (k := 5) (f := 1) hG3 ht4 (by decide)) (by have := (xtg_9_5 _ ht4.1 ht4.2).1.1; omega) (n := 36) rfl ?_
        refine xw_iload_n (n := 37) (show xlook 109 36 = some (36, .iload_n 2, 1, 0, 0, 0, 0) from xlk (by decide +kernel)) rfl rfl ?_
        obtain ⟨q1, t⟩ := t
        have hb5 : xob 1 (t4 + 1 + 6 + (x2 : Int).toNat) := xel15 _ (xtg_9_5 _ ht4.1 ht4.2).1.1 (xtg_9_5 _ ht4.1 ht4.2).1.2 _ (xidx10 q1)
        refine xw_aald (q := t4 + 1 + 6 + (x2 : Int).toNat) (show xlook 109 37 = some (37, .aaload, 1, 0, 0, 0, 0) from xlk (by decide +kernel)) ⟨(xtg_9_5 _ ht4.1 ht4.2).1.1, (Or.inl (xtg_9_5 _ ht4.1 ht4.2).1.2)⟩ (by rw [xln15 _ (xtg_9_5 _ ht4.1 ht4.2).1.1 (Or.inl (xtg_9_5 _ ht4.1 ht4.2).1.2)]; exact q1) (xPT_el hG3 (Or.inl (xtg_9_5 _ ht4.1 ht4.2).1) q1.1 q1.2) (by have := hb5.1; omega) (n := 38) rfl ?_
        refine xw_iload_n (n := 39) (show xlook 109 38 = some (38, .iload_n 3, 1, 0, 0, 0, 0) from xlk (by decide +kernel)) rfl rfl ?_
        refine xw_aload_n (n := 40) (show xlook 109 39 = some (39, .aload_n 0, 1, 0, 0, 0, 0) from xlk (by decide +kernel)) rfl rfl ?_
        refine xw_getr (q := 42) (show xlook 109 40 = some (40, .getfield 35, 3, 11, 3, 0, 162) from xlk (by decide +kernel)) (by decide) (xobf xob_11 (by decide) (by decide)) rfl (xPT_get (k := 3) (f := 42) hG3 xob_11 (by decide)) (by have := (xtg_11_3 _ xob_11.1 xob_11.2).1; omega) (n := 43) rfl ?_
        refine xw_getr (q := 43) (show xlook 109 43 = some (43, .getfield 109, 3, 6, 1, 0, 173) from xlk (by decide +kernel)) (by decide) (xobf (xtg_11_3 _ xob_11.1 xob_11.2) (by decide) (by decide)) rfl (xPT_get (k := 1) (f := 1) hG3 (xtg_11_3 _ xob_11.1 xob_11.2) (by decide)) (by have := (xtg_6_1 _ (xtg_11_3 _ xob_11.1 xob_11.2).1 (xtg_11_3 _ xob_11.1 xob_11.2).2).1; omega) (n := 46) rfl ?_
        refine xw_iload_n (n := 47) (show xlook 109 46 = some (46, .iload_n 1, 1, 0, 0, 0, 0) from xlk (by decide +kernel)) rfl rfl ?_
        refine xw_iload_n (n := 48) (show xlook 109 47 = some (47, .iload_n 2, 1, 0, 0, 0, 0) from xlk (by decide +kernel)) rfl rfl ?_
        obtain ⟨j6, hj6, rr6, G6, hm6, hG6, t⟩ := t
        obtain ⟨y6, rfl, t⟩ := t
        refine xw_callv (dk := j6) (o := 43) (as := [vi (x1), vi (x2)]) (show xlook 109 48 = some (48, .invokevirtual 238, 3, 66, 3, 0, 131) from xlk (by decide +kernel)) (by decide) hj6 ⟨Nat.le_of_ble_eq_true rfl, Nat.le_of_ble_eq_true rfl, Nat.le_of_ble_eq_true rfl⟩ ⟨(xtg_6_1 _ (xtg_11_3 _ xob_11.1 xob_11.2).1 (xtg_11_3 _ xob_11.1 xob_11.2).2).1, (xtg_6_1 _ (xtg_11_3 _ xob_11.1 xob_11.2).1 (xtg_11_3 _ xob_11.1 xob_11.2).2).2, by decide⟩ rfl hm6 (n := 51) rfl ?_
        show xW X d 109 51 [.ref (0), vi (x1), vi (x2), vi (x3), w4] [vi (y6), vi (x3), .ref (t4 + 1 + 6 + (x2 : Int).toNat)] G6 (xqi Q)
        obtain ⟨j7, hj7, rr7, G7, hm7, hG7, t⟩ := t
        obtain ⟨y7, rfl, t⟩ := t
        refine xw_callv (dk := j7) (o := t4 + 1 + 6 + (x2 : Int).toNat) (as := [vi (x3), vi (y6)]) (show xlook 109 51 = some (51, .invokevirtual 246, 3, 12, 3, 0, 132) from xlk (by decide +kernel)) (by decide) hj7 ⟨Nat.le_of_ble_eq_true rfl, Nat.le_of_ble_eq_true rfl, Nat.le_of_ble_eq_true rfl⟩ ⟨hb5.1, hb5.2, by decide⟩ rfl hm7 (n := 54) rfl ?_
        show xW X d 109 54 [.ref (0), vi (x1), vi (x2), vi (x3), w4] [vi (y7)] G7 (xqi Q)
        refine xw_istore (n := 56) (show xlook 109 54 = some (54, .istore 4, 2, 0, 0, 0, 0) from xlk (by decide +kernel)) rfl (ls' := [.ref (0), vi (x1), vi (x2), vi (x3), vi (y7)]) (Nat.le_of_ble_eq_true rfl) rfl ?_
        refine xw_iload (n := 58) (show xlook 109 56 = some (56, .iload 4, 2, 0, 0, 0, 0) from xlk (by decide +kernel)) rfl rfl ?_
        refine xw_sipush (n := 61) (show xlook 109 58 = some (58, .sipush 2000, 3, 0, 0, 0, 0) from xlk (by decide +kernel)) rfl (by decide) ?_
        obtain ⟨q0, t⟩ := t
        refine xw_icmp_ge (n := 64) (m := 69) (show xlook 109 61 = some (61, .if_icmp .ge 8, 3, 69, 0, 0, 0) from xlk (by decide +kernel)) rfl rfl q0 ⟨by decide, by decide⟩ ⟨fun c => ?_, fun c => ?_⟩
        · replace t := t.1 c
          refine xw_iconst (n := 70) (show xlook 109 69 = some (69, .iconst (-1), 1, 0, 0, 0, 0) from xlk (by decide +kernel)) rfl ?_
          exact xw_ireturn hG7 (show xlook 109 70 = some (70, .ireturn, 1, 0, 0, 0, 0) from xlk (by decide +kernel)) rfl (t hG7)
        · replace t := t.2 c
          refine xw_iload (n := 66) (show xlook 109 64 = some (64, .iload 4, 2, 0, 0, 0, 0) from xlk (by decide +kernel)) rfl rfl ?_
          refine xw_goto (m := 70) (show xlook 109 66 = some (66, .goto 4, 3, 70, 0, 0, 0) from xlk (by decide +kernel)) rfl ?_
          exact xw_ireturn hG7 (show xlook 109 70 = some (70, .ireturn, 1, 0, 0, 0, 0) from xlk (by decide +kernel)) rfl (t hG7)
      · replace t := t.2 c
        refine xw_bipush (n := 28) (show xlook 109 26 = some (26, .bipush (-3), 2, 0, 0, 0, 0) from xlk (by decide +kernel)) rfl (by decide) ?_
        exact xw_ireturn hG3 (show xlook 109 28 = some (28, .ireturn, 1, 0, 0, 0, 0) from xlk (by decide +kernel)) rfl (t hG3)
    · replace t := t.2 c
      refine xw_bipush (n := 18) (show xlook 109 16 = some (16, .bipush (-2), 2, 0, 0, 0, 0) from xlk (by decide +kernel)) rfl (by decide) ?_
      exact xw_ireturn hG2 (show xlook 109 18 = some (18, .ireturn, 1, 0, 0, 0, 0) from xlk (by decide +kernel)) rfl (t hG2)
theorem m109 {X : List Int32} {d : Nat} {F : XF} {Q : Int → XF → Prop} {x1 : Int} {x2 : Int} {x3 : Int} (hPT : xPT F)  (t : ∃ (j1 : Nat), j1 < d ∧ xMI X j1 130 [.ref (0), vi (x1)] (F) (fun (y1 : Int) (G1 : XF) => (inR (y1) ∧ ((((y1) = (0)) → (xPT (G1) → Q ((-2)) (G1))) ∧ (¬ ((y1) = (0)) → (∃ (j2 : Nat), j2 < d ∧ xMI X j2 129 [.ref (0), vi (x2)] (G1) (fun (y2 : Int) (G2 : XF) => (inR (y2) ∧ (((¬ (y2) = (0)) → (∃ (j3 : Nat), j3 < d ∧ xMI X j3 131 [vi (x3)] (G2) (fun (y3 : Int) (G3 : XF) => (inR (y3) ∧ (((¬ (y3) = (0)) → (∃ t4 : Nat, (G3) (0) 0 = (t4 : Int) ∧ xob 9 t4 ∧ ((0 ≤ (x2 : Int) ∧ (x2 : Int) < 10) ∧ (∃ (j6 : Nat), j6 < d ∧ xMI X j6 66 [.ref (43), vi (x1), vi (x2)] (G3) (fun (y6 : Int) (G6 : XF) => (∃ (j7 : Nat), j7 < d ∧ xMI X j7 12 [.ref (t4 + 1 + 6 + (x2 : Int).toNat), vi (x3), vi (y6)] (G6) (fun (y7 : Int) (G7 : XF) => (inR (y7) ∧ ((((2000) ≤ (y7)) → (xPT (G7) → Q ((-1)) (G7))) ∧ (¬ ((2000) ≤ (y7)) → (xPT (G7) → Q (y7) (G7)))))))))))) ∧ (¬ (¬ (y3) = (0)) → (xPT (G3) → Q ((-3)) (G3)))))))) ∧ (¬ (¬ (y2) = (0)) → (xPT (G2) → Q ((-2)) (G2)))))))))))) : xMI X d 109 [.ref (0), vi (x1), vi (x2), vi (x3)] F Q := by
  show xW X d 109 0 [.ref (0), vi (x1), vi (x2), vi (x3), xU0] [] F (xqi Q)
  exact s109_0 hPT  t

theorem s110_0 {X : List Int32} {d : Nat} {F : XF} {Q : Int → XF → Prop} {x1 : Int} {x2 : Int} (hPT : xPT F)  (t : ∃ (j1 : Nat), j1 < d ∧ xMI X j1 129 [.ref (0), vi (x1)] (F) (fun (y1 : Int) (G1 : XF) => (inR (y1) ∧ (((¬ (y1) = (0)) → (∃ (j2 : Nat), j2 < d ∧ xMI X j2 131 [vi (x2)] (G1) (fun (y2 : Int) (G2 : XF) => (inR (y2) ∧ (((¬ (y2) = (0)) → (∃ t3 : Nat, (G2) (0) 0 = (t3 : Int) ∧ xob 9 t3 ∧ ((0 ≤ (x1 : Int) ∧ (x1 : Int) < 10) ∧ (∃ (j5 : Nat), j5 < d ∧ xMI X j5 9 [.ref (t3 + 1 + 6 + (x1 : Int).toNat), vi (x2)] (G2) (fun (y5 : Int) (G5 : XF) => (inR (y5) ∧ ((((y5) = (0)) → (xPT (G5) → Q (0) (G5))) ∧ (¬ ((y5) = (0)) → (xPT (G5) → Q (1) (G5)))))))))) ∧ (¬ (¬ (y2) = (0)) → (xPT (G2) → Q ((-3)) (G2)))))))) ∧ (¬ (¬ (y1) = (0)) → (xPT (G1) → Q ((-2)) (G1))))))) : xW X d 110 0 [.ref (0), vi (x1), vi (x2)] [] F (xqi Q) := by
  refine xw_aload_n (n := 1) (show xlook 110 0 = some (0, .aload_n 0, 1, 0, 0, 0, 0) from xlk (by decide +kernel)) rfl rfl ?_
  refine xw_iload_n (n := 2) (show xlook 110 1 = some (1, .iload_n 1, 1, 0, 0, 0, 0) from xlk (by decide +kernel)) rfl rfl ?_
  obtain ⟨j1, hj1, rr1, G1, hm1, hG1, t⟩ := t
  obtain ⟨y1, rfl, t⟩ := t
  refine xw_callv (dk := j1) (o := 0) (as := [vi (x1)]) (show xlook 110 2 = some (2, .invokevirtual 175, 3, 129, 2, 0, 128) from xlk (by decide +kernel)) (by decide) hj1 ⟨Nat.le_of_ble_eq_true rfl, Nat.le_of_ble_eq_true rfl, Nat.le_of_ble_eq_true rfl⟩ ⟨xob_11.1, xob_11.2, by decide⟩ rfl hm1 (n := 5) rfl ?_
  show xW X d 110 5 [.ref (0), vi (x1), vi (x2)] [vi (y1)] G1 (xqi Q)
  obtain ⟨q0, t⟩ := t
  refine xw_if_ne (n := 8) (m := 11) (show xlook 110 5 = some (5, .ifCond .ne 6, 3, 11, 0, 0, 0) from xlk (by decide +kernel)) rfl rfl q0 ⟨fun c => ?_, fun c => ?_⟩
  · replace t := t.1 c
    refine xw_iload_n (n := 12) (show xlook 110 11 = some (11, .iload_n 2, 1, 0, 0, 0, 0) from xlk (by decide +kernel)) rfl rfl ?_
    obtain ⟨j2, hj2, rr2, G2, hm2, hG2, t⟩ := t
    obtain ⟨y2, rfl, t⟩ := t
    refine xw_calls (dk := j2) (as := [vi (x2)]) (show xlook 110 12 = some (12, .invokestatic 125, 3, 131, 1, 0, 123) from xlk (by decide +kernel)) (by decide) hj2 ⟨Nat.le_of_ble_eq_true rfl, Nat.le_of_ble_eq_true rfl, Nat.le_of_ble_eq_true rfl, by decide⟩ rfl hm2 (n := 15) rfl ?_
    show xW X d 110 15 [.ref (0), vi (x1), vi (x2)] [vi (y2)] G2 (xqi Q)
    obtain ⟨q0, t⟩ := t
    refine xw_if_ne (n := 18) (m := 21) (show xlook 110 15 = some (15, .ifCond .ne 6, 3, 21, 0, 0, 0) from xlk (by decide +kernel)) rfl rfl q0 ⟨fun c => ?_, fun c => ?_⟩
    · replace t := t.1 c
      refine xw_aload_n (n := 22) (show xlook 110 21 = some (21, .aload_n 0, 1, 0, 0, 0, 0) from xlk (by decide +kernel)) rfl rfl ?_
      obtain ⟨t3, q1, ht3, t⟩ := t
      refine xw_getr (q := t3) (show xlook 110 22 = some (22, .getfield 10, 3, 11, 0, 0, 159) from xlk (by decide +kernel)) (by decide) (xobf xob_11 (by decide) (by decide)) rfl q1 (by have := ht3.1; omega) (n := 25) rfl ?_
      refine xw_getr (q := t3 + 1) (show xlook 110 25 = some (25, .getfield 242, 3, 9, 5, 0, 204) from xlk (by decide +kernel)) (by decide) (xobf ht3 (by decide) (by decide)) rfl (xPT_get (k := 5) (f := 1) hG2 ht3 (by decide)) (by have := (xtg_9_5 _ ht3.1 ht3.2).1.1; omega) (n := 28) rfl ?_
      refine xw_iload_n (n := 29) (show xlook 110 28 = some (28, .iload_n 1, 1, 0, 0, 0, 0) from xlk (by decide +kernel)) rfl rfl ?_
      obtain ⟨q1, t⟩ := t
      have hb4 : xob 1 (t3 + 1 + 6 + (x1 : Int).toNat) := xel15 _ (xtg_9_5 _ ht3.1 ht3.2).1.1 (xtg_9_5 _ ht3.1 ht3.2).1.2 _ (xidx10 q1)
      refine xw_aald (q := t3 + 1 + 6 + (x1 : Int).toNat) (show xlook 110 29 = some (29, .aaload, 1, 0, 0, 0, 0) from xlk (by decide +kernel)) ⟨(xtg_9_5 _ ht3.1 ht3.2).1.1, (Or.inl (xtg_9_5 _ ht3.1 ht3.2).1.2)⟩ (by rw [xln15 _ (xtg_9_5 _ ht3.1 ht3.2).1.1 (Or.inl (xtg_9_5 _ ht3.1 ht3.2).1.2)]; exact q1) (xPT_el hG2 (Or.inl (xtg_9_5 _ ht3.1 ht3.2).1) q1.1 q1.2) (by have := hb4.1; omega) (n := 30) rfl ?_
      refine xw_iload_n (n := 31) (show xlook 110 30 = some (30, .iload_n 2, 1, 0, 0, 0, 0) from xlk (by decide +kernel)) rfl rfl ?_
      obtain ⟨j5, hj5, rr5, G5, hm5, hG5, t⟩ := t
      obtain ⟨y5, rfl, t⟩ := t
      refine xw_callv (dk := j5) (o := t3 + 1 + 6 + (x1 : Int).toNat) (as := [vi (x2)]) (show xlook 110 31 = some (31, .invokevirtual 251, 3, 9, 2, 0, 133) from xlk (by decide +kernel)) (by decide) hj5 ⟨Nat.le_of_ble_eq_true rfl, Nat.le_of_ble_eq_true rfl, Nat.le_of_ble_eq_true rfl⟩ ⟨hb4.1, hb4.2, by decide⟩ rfl hm5 (n := 34) rfl ?_
      show xW X d 110 34 [.ref (0), vi (x1), vi (x2)] [vi (y5)] G5 (xqi Q)
      obtain ⟨q0, t⟩ := t
      refine xw_if_eq (n := 37) (m := 41) (show xlook 110 34 = some (34, .ifCond .eq 7, 3, 41, 0, 0, 0) from xlk (by decide +kernel)) rfl rfl q0 ⟨fun c => ?_, fun c => ?_⟩
      · replace t := t.1 c
        refine xw_iconst (n := 42) (show xlook 110 41 = some (41, .iconst 0, 1, 0, 0, 0, 0) from xlk (by decide +kernel)) rfl ?_
        exact xw_ireturn hG5 (show xlook 110 42 = some (42, .ireturn, 1, 0, 0, 0, 0) from xlk (by decide +kernel)) rfl (t hG5)
      · replace t := t.2 c
        refine xw_iconst (n := 38) (show xlook 110 37 = some (37, .iconst 1, 1, 0, 0, 0, 0) from xlk (by decide +kernel)) rfl ?_
        refine xw_goto (m := 42) (show xlook 110 38 = some (38, .goto 4, 3, 42, 0, 0, 0) from xlk (by decide +kernel)) rfl ?_
        exact xw_ireturn hG5 (show xlook 110 42 = some (42, .ireturn, 1, 0, 0, 0, 0) from xlk (by decide +kernel)) rfl (t hG5)
    · replace t := t.2 c
      refine xw_bipush (n := 20) (show xlook 110 18 = some (18, .bipush (-3), 2, 0, 0, 0, 0) from xlk (by decide +kernel)) rfl (by decide) ?_
      exact xw_ireturn hG2 (show xlook 110 20 = some (20, .ireturn, 1, 0, 0, 0, 0) from xlk (by decide +kernel)) rfl (t hG2)
  · replace t := t.2 c
    refine xw_bipush (n := 10) (show xlook 110 8 = some (8, .bipush (-2), 2, 0, 0, 0, 0) from xlk (by decide +kernel)) rfl (by decide) ?_
    exact xw_ireturn hG1 (show xlook 110 10 = some (10, .ireturn, 1, 0, 0, 0, 0) from xlk (by decide +kernel)) rfl (t hG1)
theorem m110 {X : List Int32} {d : Nat} {F : XF} {Q : Int → XF → Prop} {x1 : Int} {x2 : Int} (hPT : xPT F)  (t : ∃ (j1 : Nat), j1 < d ∧ xMI X j1 129 [.ref (0), vi (x1)] (F) (fun (y1 : Int) (G1 : XF) => (inR (y1) ∧ (((¬ (y1) = (0)) → (∃ (j2 : Nat), j2 < d ∧ xMI X j2 131 [vi (x2)] (G1) (fun (y2 : Int) (G2 : XF) => (inR (y2) ∧ (((¬ (y2) = (0)) → (∃ t3 : Nat, (G2) (0) 0 = (t3 : Int) ∧ xob 9 t3 ∧ ((0 ≤ (x1 : Int) ∧ (x1 : Int) < 10) ∧ (∃ (j5 : Nat), j5 < d ∧ xMI X j5 9 [.ref (t3 + 1 + 6 + (x1 : Int).toNat), vi (x2)] (G2) (fun (y5 : Int) (G5 : XF) => (inR (y5) ∧ ((((y5) = (0)) → (xPT (G5) → Q (0) (G5))) ∧ (¬ ((y5) = (0)) → (xPT (G5) → Q (1) (G5)))))))))) ∧ (¬ (¬ (y2) = (0)) → (xPT (G2) → Q ((-3)) (G2)))))))) ∧ (¬ (¬ (y1) = (0)) → (xPT (G1) → Q ((-2)) (G1))))))) : xMI X d 110 [.ref (0), vi (x1), vi (x2)] F Q := by
  show xW X d 110 0 [.ref (0), vi (x1), vi (x2)] [] F (xqi Q)
  exact s110_0 hPT  t

theorem s111_0 {X : List Int32} {d : Nat} {F : XF} {Q : Int → XF → Prop} {x1 : Int} {x2 : Int} {x3 : Int} {w4 : Value} (hPT : xPT F)  (t : ∃ (j1 : Nat), j1 < d ∧ xMI X j1 129 [.ref (0), vi (x1)] (F) (fun (y1 : Int) (G1 : XF) => (inR (y1) ∧ (((¬ (y1) = (0)) → (∃ t2 : Nat, (G1) (0) 0 = (t2 : Int) ∧ xob 9 t2 ∧ ((0 ≤ (x1 : Int) ∧ (x1 : Int) < 10) ∧ (inR (x2) ∧ (((¬ (x2) = ((-1))) → (inR (x3) ∧ ((((x3) < (0)) → (xPT (G1) → Q ((-2)) (G1))) ∧ (¬ ((x3) < (0)) → (inR (x3) ∧ ((((x3) ≤ (1)) → (inR (x2) ∧ (((((-1)) ≤ (x2)) → (∃ (j4 : Nat), j4 < d ∧ xMI X j4 13 [.ref (t2 + 1 + 6 + (x1 : Int).toNat)] (G1) (fun (y4 : Int) (G4 : XF) => (inR (x2) ∧ inR (y4) ∧ ((((x2) < (y4)) → (inR (x3) ∧ (((¬ (x3) = (0)) → (∃ (j5 : Nat), j5 < d ∧ xMI X j5 15 [.ref (t2 + 1 + 6 + (x1 : Int).toNat), vi (x2)] (G4) (fun (y5 : Int) (G5 : XF) => (xPT (G5) → Q (y5) (G5))))) ∧ (¬ (¬ (x3) = (0)) → (∃ (j6 : Nat), j6 < d ∧ xMI X j6 14 [.ref (t2 + 1 + 6 + (x1 : Int).toNat), vi (x2)] (G4) (fun (y6 : Int) (G6 : XF) => (xPT (G6) → Q (y6) (G6)))))))) ∧ (¬ ((x2) < (y4)) → (xPT (G4) → Q ((-1)) (G4)))))))) ∧ (¬ (((-1)) ≤ (x2)) → (xPT (G1) → Q ((-3)) (G1)))))) ∧ (¬ ((x3) ≤ (1)) → (xPT (G1) → Q ((-2)) (G1))))))))) ∧ (¬ (¬ (x2) = ((-1))) → (∃ (j7 : Nat), j7 < d ∧ xMI X j7 13 [.ref (t2 + 1 + 6 + (x1 : Int).toNat)] (G1) (fun (y7 : Int) (G7 : XF) => (xPT (G7) → Q (y7) (G7)))))))))) ∧ (¬ (¬ (y1) = (0)) → (xPT (G1) → Q ((-2)) (G1))))))) : xW X d 111 0 [.ref (0), vi (x1), vi (x2), vi (x3), w4] [] F (xqi Q) := by
  refine xw_aload_n (n := 1) (show xlook 111 0 = some (0, .aload_n 0, 1, 0, 0, 0, 0) from xlk (by decide +kernel)) rfl rfl ?_
  refine xw_iload_n (n := 2) (show xlook 111 1 = some (1, .iload_n 1, 1, 0, 0, 0, 0) from xlk (by decide +kernel)) rfl rfl ?_
  obtain ⟨j1, hj1, rr1, G1, hm1, hG1, t⟩ := t
  obtain ⟨y1, rfl, t⟩ := t
  refine xw_callv (dk := j1) (o := 0) (as := [vi (x1)]) (show xlook 111 2 = some (2, .invokevirtual 175, 3, 129, 2, 0, 128) from xlk (by decide +kernel)) (by decide) hj1 ⟨Nat.le_of_ble_eq_true rfl, Nat.le_of_ble_eq_true rfl, Nat.le_of_ble_eq_true rfl⟩ ⟨xob_11.1, xob_11.2, by decide⟩ rfl hm1 (n := 5) rfl ?_
  show xW X d 111 5 [.ref (0), vi (x1), vi (x2), vi (x3), w4] [vi (y1)] G1 (xqi Q)
  obtain ⟨q0, t⟩ := t
  refine xw_if_ne (n := 8) (m := 11) (show xlook 111 5 = some (5, .ifCond .ne 6, 3, 11, 0, 0, 0) from xlk (by decide +kernel)) rfl rfl q0 ⟨fun c => ?_, fun c => ?_⟩
  · replace t := t.1 c
    refine xw_aload_n (n := 12) (show xlook 111 11 = some (11, .aload_n 0, 1, 0, 0, 0, 0) from xlk (by decide +kernel)) rfl rfl ?_
    obtain ⟨t2, q1, ht2, t⟩ := t
    refine xw_getr (q := t2) (show xlook 111 12 = some (12, .getfield 10, 3, 11, 0, 0, 159) from xlk (by decide +kernel)) (by decide) (xobf xob_11 (by decide) (by decide)) rfl q1 (by have := ht2.1; omega) (n := 15) rfl ?_
    refine xw_getr (q := t2 + 1) (show xlook 111 15 = some (15, .getfield 242, 3, 9, 5, 0, 204) from xlk (by decide +kernel)) (by decide) (xobf ht2 (by decide) (by decide)) rfl (xPT_get (k := 5) (f := 1) hG1 ht2 (by decide)) (by have := (xtg_9_5 _ ht2.1 ht2.2).1.1; omega) (n := 18) rfl ?_
    refine xw_iload_n (n := 19) (show xlook 111 18 = some (18, .iload_n 1, 1, 0, 0, 0, 0) from xlk (by decide +kernel)) rfl rfl ?_
    obtain ⟨q1, t⟩ := t
    have hb3 : xob 1 (t2 + 1 + 6 + (x1 : Int).toNat) := xel15 _ (xtg_9_5 _ ht2.1 ht2.2).1.1 (xtg_9_5 _ ht2.1 ht2.2).1.2 _ (xidx10 q1)
    refine xw_aald (q := t2 + 1 + 6 + (x1 : Int).toNat) (show xlook 111 19 = some (19, .aaload, 1, 0, 0, 0, 0) from xlk (by decide +kernel)) ⟨(xtg_9_5 _ ht2.1 ht2.2).1.1, (Or.inl (xtg_9_5 _ ht2.1 ht2.2).1.2)⟩ (by rw [xln15 _ (xtg_9_5 _ ht2.1 ht2.2).1.1 (Or.inl (xtg_9_5 _ ht2.1 ht2.2).1.2)]; exact q1) (xPT_el hG1 (Or.inl (xtg_9_5 _ ht2.1 ht2.2).1) q1.1 q1.2) (by have := hb3.1; omega) (n := 20) rfl ?_
    refine xw_astore (n := 22) (show xlook 111 20 = some (20, .astore 4, 2, 0, 0, 0, 0) from xlk (by decide +kernel)) rfl (ls' := [.ref (0), vi (x1), vi (x2), vi (x3), .ref (t2 + 1 + 6 + (x1 : Int).toNat)]) (Nat.le_of_ble_eq_true rfl) rfl ?_
    refine xw_iload_n (n := 23) (show xlook 111 22 = some (22, .iload_n 2, 1, 0, 0, 0, 0) from xlk (by decide +kernel)) rfl rfl ?_
    refine xw_iconst (n := 24) (show xlook 111 23 = some (23, .iconst (-1), 1, 0, 0, 0, 0) from xlk (by decide +kernel)) rfl ?_
    obtain ⟨q0, t⟩ := t
    refine xw_icmp_ne (n := 27) (m := 33) (show xlook 111 24 = some (24, .if_icmp .ne 9, 3, 33, 0, 0, 0) from xlk (by decide +kernel)) rfl rfl q0 ⟨by decide, by decide⟩ ⟨fun c => ?_, fun c => ?_⟩
    · replace t := t.1 c
      refine xw_iload_n (n := 34) (show xlook 111 33 = some (33, .iload_n 3, 1, 0, 0, 0, 0) from xlk (by decide +kernel)) rfl rfl ?_
      obtain ⟨q0, t⟩ := t
      refine xw_if_lt (n := 37) (m := 42) (show xlook 111 34 = some (34, .ifCond .lt 8, 3, 42, 0, 0, 0) from xlk (by decide +kernel)) rfl rfl q0 ⟨fun c => ?_, fun c => ?_⟩
      · replace t := t.1 c
        refine xw_bipush (n := 44) (show xlook 111 42 = some (42, .bipush (-2), 2, 0, 0, 0, 0) from xlk (by decide +kernel)) rfl (by decide) ?_
        exact xw_ireturn hG1 (show xlook 111 44 = some (44, .ireturn, 1, 0, 0, 0, 0) from xlk (by decide +kernel)) rfl (t hG1)
      · replace t := t.2 c
        refine xw_iload_n (n := 38) (show xlook 111 37 = some (37, .iload_n 3, 1, 0, 0, 0, 0) from xlk (by decide +kernel)) rfl rfl ?_
        refine xw_iconst (n := 39) (show xlook 111 38 = some (38, .iconst 1, 1, 0, 0, 0, 0) from xlk (by decide +kernel)) rfl ?_
        obtain ⟨q0, t⟩ := t
        refine xw_icmp_le (n := 42) (m := 45) (show xlook 111 39 = some (39, .if_icmp .le 6, 3, 45, 0, 0, 0) from xlk (by decide +kernel)) rfl rfl q0 ⟨by decide, by decide⟩ ⟨fun c => ?_, fun c => ?_⟩
        · replace t := t.1 c
          refine xw_iload_n (n := 46) (show xlook 111 45 = some (45, .iload_n 2, 1, 0, 0, 0, 0) from xlk (by decide +kernel)) rfl rfl ?_
          refine xw_iconst (n := 47) (show xlook 111 46 = some (46, .iconst (-1), 1, 0, 0, 0, 0) from xlk (by decide +kernel)) rfl ?_
          obtain ⟨q0, t⟩ := t
          refine xw_icmp_ge (n := 50) (m := 53) (show xlook 111 47 = some (47, .if_icmp .ge 6, 3, 53, 0, 0, 0) from xlk (by decide +kernel)) rfl rfl q0 ⟨by decide, by decide⟩ ⟨fun c => ?_, fun c => ?_⟩
          · replace t := t.1 c
            refine xw_iload_n (n := 54) (show xlook 111 53 = some (53, .iload_n 2, 1, 0, 0, 0, 0) from xlk (by decide +kernel)) rfl rfl ?_
            refine xw_aload (n := 56) (show xlook 111 54 = some (54, .aload 4, 2, 0, 0, 0, 0) from xlk (by decide +kernel)) rfl rfl ?_
            obtain ⟨j4, hj4, rr4, G4, hm4, hG4, t⟩ := t
            obtain ⟨y4, rfl, t⟩ := t
            refine xw_callv (dk := j4) (o := t2 + 1 + 6 + (x1 : Int).toNat) (as := []) (show xlook 111 56 = some (56, .invokevirtual 254, 3, 13, 1, 0, 134) from xlk (by decide +kernel)) (by decide) hj4 ⟨Nat.le_of_ble_eq_true rfl, Nat.le_of_ble_eq_true rfl, Nat.le_of_ble_eq_true rfl⟩ ⟨hb3.1, hb3.2, by decide⟩ rfl hm4 (n := 59) rfl ?_
            show xW X d 111 59 [.ref (0), vi (x1), vi (x2), vi (x3), .ref (t2 + 1 + 6 + (x1 : Int).toNat)] [vi (y4), vi (x2)] G4 (xqi Q)
            obtain ⟨q0, q1, t⟩ := t
            refine xw_icmp_lt (n := 62) (m := 64) (show xlook 111 59 = some (59, .if_icmp .lt 5, 3, 64, 0, 0, 0) from xlk (by decide +kernel)) rfl rfl q0 q1 ⟨fun c => ?_, fun c => ?_⟩
            · replace t := t.1 c
              refine xw_iload_n (n := 65) (show xlook 111 64 = some (64, .iload_n 3, 1, 0, 0, 0, 0) from xlk (by decide +kernel)) rfl rfl ?_
              obtain ⟨q0, t⟩ := t
              refine xw_if_ne (n := 68) (m := 77) (show xlook 111 65 = some (65, .ifCond .ne 12, 3, 77, 0, 0, 0) from xlk (by decide +kernel)) rfl rfl q0 ⟨fun c => ?_, fun c => ?_⟩
              · replace t := t.1 c
                refine xw_aload (n := 79) (show xlook 111 77 = some (77, .aload 4, 2, 0, 0, 0, 0) from xlk (by decide +kernel)) rfl rfl ?_
                refine xw_iload_n (n := 80) (show xlook 111 79 = some (79, .iload_n 2, 1, 0, 0, 0, 0) from xlk (by decide +kernel)) rfl rfl ?_
                obtain ⟨j5, hj5, rr5, G5, hm5, hG5, t⟩ := t
                obtain ⟨y5, rfl, t⟩ := t
                refine xw_callv (dk := j5) (o := t2 + 1 + 6 + (x1 : Int).toNat) (as := [vi (x2)]) (show xlook 111 80 = some (80, .invokevirtual 261, 3, 15, 2, 0, 136) from xlk (by decide +kernel)) (by decide) hj5 ⟨Nat.le_of_ble_eq_true rfl, Nat.le_of_ble_eq_true rfl, Nat.le_of_ble_eq_true rfl⟩ ⟨hb3.1, hb3.2, by decide⟩ rfl hm5 (n := 83) rfl ?_
                show xW X d 111 83 [.ref (0), vi (x1), vi (x2), vi (x3), .ref (t2 + 1 + 6 + (x1 : Int).toNat)] [vi (y5)] G5 (xqi Q)
                exact xw_ireturn hG5 (show xlook 111 83 = some (83, .ireturn, 1, 0, 0, 0, 0) from xlk (by decide +kernel)) rfl (t hG5)
              · replace t := t.2 c
                refine xw_aload (n := 70) (show xlook 111 68 = some (68, .aload 4, 2, 0, 0, 0, 0) from xlk (by decide +kernel)) rfl rfl ?_
                refine xw_iload_n (n := 71) (show xlook 111 70 = some (70, .iload_n 2, 1, 0, 0, 0, 0) from xlk (by decide +kernel)) rfl rfl ?_
                obtain ⟨j6, hj6, rr6, G6, hm6, hG6, t⟩ := t
                obtain ⟨y6, rfl, t⟩ := t
                refine xw_callv (dk := j6) (o := t2 + 1 + 6 + (x1 : Int).toNat) (as := [vi (x2)]) (show xlook 111 71 = some (71, .invokevirtual 258, 3, 14, 2, 0, 135) from xlk (by decide +kernel)) (by decide) hj6 ⟨Nat.le_of_ble_eq_true rfl, Nat.le_of_ble_eq_true rfl, Nat.le_of_ble_eq_true rfl⟩ ⟨hb3.1, hb3.2, by decide⟩ rfl hm6 (n := 74) rfl ?_
                show xW X d 111 74 [.ref (0), vi (x1), vi (x2), vi (x3), .ref (t2 + 1 + 6 + (x1 : Int).toNat)] [vi (y6)] G6 (xqi Q)
                refine xw_goto (m := 83) (show xlook 111 74 = some (74, .goto 9, 3, 83, 0, 0, 0) from xlk (by decide +kernel)) rfl ?_
                exact xw_ireturn hG6 (show xlook 111 83 = some (83, .ireturn, 1, 0, 0, 0, 0) from xlk (by decide +kernel)) rfl (t hG6)
            · replace t := t.2 c
              refine xw_iconst (n := 63) (show xlook 111 62 = some (62, .iconst (-1), 1, 0, 0, 0, 0) from xlk (by decide +kernel)) rfl ?_
              exact xw_ireturn hG4 (show xlook 111 63 = some (63, .ireturn, 1, 0, 0, 0, 0) from xlk (by decide +kernel)) rfl (t hG4)
          · replace t := t.2 c
            refine xw_bipush (n := 52) (show xlook 111 50 = some (50, .bipush (-3), 2, 0, 0, 0, 0) from xlk (by decide +kernel)) rfl (by decide) ?_
            exact xw_ireturn hG1 (show xlook 111 52 = some (52, .ireturn, 1, 0, 0, 0, 0) from xlk (by decide +kernel)) rfl (t hG1)
        · replace t := t.2 c
          refine xw_bipush (n := 44) (show xlook 111 42 = some (42, .bipush (-2), 2, 0, 0, 0, 0) from xlk (by decide +kernel)) rfl (by decide) ?_
          exact xw_ireturn hG1 (show xlook 111 44 = some (44, .ireturn, 1, 0, 0, 0, 0) from xlk (by decide +kernel)) rfl (t hG1)
    · replace t := t.2 c
      refine xw_aload (n := 29) (show xlook 111 27 = some (27, .aload 4, 2, 0, 0, 0, 0) from xlk (by decide +kernel)) rfl rfl ?_
      obtain ⟨j7, hj7, rr7, G7, hm7, hG7, t⟩ := t
      obtain ⟨y7, rfl, t⟩ := t
      refine xw_callv (dk := j7) (o := t2 + 1 + 6 + (x1 : Int).toNat) (as := []) (show xlook 111 29 = some (29, .invokevirtual 254, 3, 13, 1, 0, 134) from xlk (by decide +kernel)) (by decide) hj7 ⟨Nat.le_of_ble_eq_true rfl, Nat.le_of_ble_eq_true rfl, Nat.le_of_ble_eq_true rfl⟩ ⟨hb3.1, hb3.2, by decide⟩ rfl hm7 (n := 32) rfl ?_
      show xW X d 111 32 [.ref (0), vi (x1), vi (x2), vi (x3), .ref (t2 + 1 + 6 + (x1 : Int).toNat)] [vi (y7)] G7 (xqi Q)
      exact xw_ireturn hG7 (show xlook 111 32 = some (32, .ireturn, 1, 0, 0, 0, 0) from xlk (by decide +kernel)) rfl (t hG7)
  · replace t := t.2 c
    refine xw_bipush (n := 10) (show xlook 111 8 = some (8, .bipush (-2), 2, 0, 0, 0, 0) from xlk (by decide +kernel)) rfl (by decide) ?_
    exact xw_ireturn hG1 (show xlook 111 10 = some (10, .ireturn, 1, 0, 0, 0, 0) from xlk (by decide +kernel)) rfl (t hG1)
theorem m111 {X : List Int32} {d : Nat} {F : XF} {Q : Int → XF → Prop} {x1 : Int} {x2 : Int} {x3 : Int} (hPT : xPT F)  (t : ∃ (j1 : Nat), j1 < d ∧ xMI X j1 129 [.ref (0), vi (x1)] (F) (fun (y1 : Int) (G1 : XF) => (inR (y1) ∧ (((¬ (y1) = (0)) → (∃ t2 : Nat, (G1) (0) 0 = (t2 : Int) ∧ xob 9 t2 ∧ ((0 ≤ (x1 : Int) ∧ (x1 : Int) < 10) ∧ (inR (x2) ∧ (((¬ (x2) = ((-1))) → (inR (x3) ∧ ((((x3) < (0)) → (xPT (G1) → Q ((-2)) (G1))) ∧ (¬ ((x3) < (0)) → (inR (x3) ∧ ((((x3) ≤ (1)) → (inR (x2) ∧ (((((-1)) ≤ (x2)) → (∃ (j4 : Nat), j4 < d ∧ xMI X j4 13 [.ref (t2 + 1 + 6 + (x1 : Int).toNat)] (G1) (fun (y4 : Int) (G4 : XF) => (inR (x2) ∧ inR (y4) ∧ ((((x2) < (y4)) → (inR (x3) ∧ (((¬ (x3) = (0)) → (∃ (j5 : Nat), j5 < d ∧ xMI X j5 15 [.ref (t2 + 1 + 6 + (x1 : Int).toNat), vi (x2)] (G4) (fun (y5 : Int) (G5 : XF) => (xPT (G5) → Q (y5) (G5))))) ∧ (¬ (¬ (x3) = (0)) → (∃ (j6 : Nat), j6 < d ∧ xMI X j6 14 [.ref (t2 + 1 + 6 + (x1 : Int).toNat), vi (x2)] (G4) (fun (y6 : Int) (G6 : XF) => (xPT (G6) → Q (y6) (G6)))))))) ∧ (¬ ((x2) < (y4)) → (xPT (G4) → Q ((-1)) (G4)))))))) ∧ (¬ (((-1)) ≤ (x2)) → (xPT (G1) → Q ((-3)) (G1)))))) ∧ (¬ ((x3) ≤ (1)) → (xPT (G1) → Q ((-2)) (G1))))))))) ∧ (¬ (¬ (x2) = ((-1))) → (∃ (j7 : Nat), j7 < d ∧ xMI X j7 13 [.ref (t2 + 1 + 6 + (x1 : Int).toNat)] (G1) (fun (y7 : Int) (G7 : XF) => (xPT (G7) → Q (y7) (G7)))))))))) ∧ (¬ (¬ (y1) = (0)) → (xPT (G1) → Q ((-2)) (G1))))))) : xMI X d 111 [.ref (0), vi (x1), vi (x2), vi (x3)] F Q := by
  show xW X d 111 0 [.ref (0), vi (x1), vi (x2), vi (x3), xU0] [] F (xqi Q)
  exact s111_0 hPT  t

theorem s112_0 {X : List Int32} {d : Nat} {F : XF} {Q : Int → XF → Prop}  (hPT : xPT F)  (t : ∃ t1 : Nat, (F) (0) 0 = (t1 : Int) ∧ xob 9 t1 ∧ (∃ (j2 : Nat), j2 < d ∧ xMV X j2 20 [.ref (98), .ref (t1), .ref (70)] (F) (fun (G2 : XF) => (xPT (G2) → Q ((G2) (98) 1) (G2))))) : xW X d 112 0 [.ref (0)] [] F (xqi Q) := by
  refine xw_aload_n (n := 1) (show xlook 112 0 = some (0, .aload_n 0, 1, 0, 0, 0, 0) from xlk (by decide +kernel)) rfl rfl ?_
  refine xw_getr (q := 98) (show xlook 112 1 = some (1, .getfield 45, 3, 11, 5, 0, 164) from xlk (by decide +kernel)) (by decide) (xobf xob_11 (by decide) (by decide)) rfl (xPT_get (k := 5) (f := 98) hPT xob_11 (by decide)) (by have := (xtg_11_5 _ xob_11.1 xob_11.2).1; omega) (n := 4) rfl ?_
  refine xw_aload_n (n := 5) (show xlook 112 4 = some (4, .aload_n 0, 1, 0, 0, 0, 0) from xlk (by decide +kernel)) rfl rfl ?_
  obtain ⟨t1, q1, ht1, t⟩ := t
  refine xw_getr (q := t1) (show xlook 112 5 = some (5, .getfield 10, 3, 11, 0, 0, 159) from xlk (by decide +kernel)) (by decide) (xobf xob_11 (by decide) (by decide)) rfl q1 (by have := ht1.1; omega) (n := 8) rfl ?_
  refine xw_aload_n (n := 9) (show xlook 112 8 = some (8, .aload_n 0, 1, 0, 0, 0, 0) from xlk (by decide +kernel)) rfl rfl ?_
  refine xw_getr (q := 70) (show xlook 112 9 = some (9, .getfield 39, 3, 11, 4, 0, 163) from xlk (by decide +kernel)) (by decide) (xobf xob_11 (by decide) (by decide)) rfl (xPT_get (k := 4) (f := 70) hPT xob_11 (by decide)) (by have := (xtg_11_4 _ xob_11.1 xob_11.2).1; omega) (n := 12) rfl ?_
  obtain ⟨j2, hj2, rr2, G2, hm2, hG2, t⟩ := t
  obtain ⟨rfl, t⟩ := t
  refine xw_callv (dk := j2) (o := 98) (as := [.ref (t1), .ref (70)]) (show xlook 112 12 = some (12, .invokevirtual 264, 3, 20, 3, 0, 137) from xlk (by decide +kernel)) (by decide) hj2 ⟨Nat.le_of_ble_eq_true rfl, Nat.le_of_ble_eq_true rfl, Nat.le_of_ble_eq_true rfl⟩ ⟨(xtg_11_5 _ xob_11.1 xob_11.2).1, (xtg_11_5 _ xob_11.1 xob_11.2).2, by decide⟩ rfl hm2 (n := 15) rfl ?_
  show xW X d 112 15 [.ref (0)] [] G2 (xqi Q)
  refine xw_aload_n (n := 16) (show xlook 112 15 = some (15, .aload_n 0, 1, 0, 0, 0, 0) from xlk (by decide +kernel)) rfl rfl ?_
  refine xw_getr (q := 98) (show xlook 112 16 = some (16, .getfield 45, 3, 11, 5, 0, 164) from xlk (by decide +kernel)) (by decide) (xobf xob_11 (by decide) (by decide)) rfl (xPT_get (k := 5) (f := 98) hG2 xob_11 (by decide)) (by have := (xtg_11_5 _ xob_11.1 xob_11.2).1; omega) (n := 19) rfl ?_
  refine xw_geti (show xlook 112 19 = some (19, .getfield 268, 3, 3, 1, 0, 205) from xlk (by decide +kernel)) (by decide) (xobf (xtg_11_5 _ xob_11.1 xob_11.2) (by decide) (by decide)) rfl (n := 22) rfl ?_
  exact xw_ireturn hG2 (show xlook 112 22 = some (22, .ireturn, 1, 0, 0, 0, 0) from xlk (by decide +kernel)) rfl (t hG2)
theorem m112 {X : List Int32} {d : Nat} {F : XF} {Q : Int → XF → Prop}  (hPT : xPT F)  (t : ∃ t1 : Nat, (F) (0) 0 = (t1 : Int) ∧ xob 9 t1 ∧ (∃ (j2 : Nat), j2 < d ∧ xMV X j2 20 [.ref (98), .ref (t1), .ref (70)] (F) (fun (G2 : XF) => (xPT (G2) → Q ((G2) (98) 1) (G2))))) : xMI X d 112 [.ref (0)] F Q := by
  show xW X d 112 0 [.ref (0)] [] F (xqi Q)
  exact s112_0 hPT  t

theorem s113_0 {X : List Int32} {d : Nat} {F : XF} {Q : Int → XF → Prop} {x1 : Int} {x2 : Int} {w3 : Value} (hPT : xPT F)  (t : ∃ (j1 : Nat), j1 < d ∧ xMI X j1 128 [.ref (0), vi (x1)] (F) (fun (y1 : Int) (G1 : XF) => (inR (y1) ∧ (((¬ (y1) = (0)) → (inR (x2) ∧ ((((x2) < (0)) → (xPT (G1) → Q ((-3)) (G1))) ∧ (¬ ((x2) < (0)) → (inR (x2) ∧ ((((x2) ≤ (2000)) → (∃ t2 : Nat, (G1) (0) 0 = (t2 : Int) ∧ xob 9 t2 ∧ (∃ (j3 : Nat), j3 < d ∧ xMV X j3 48 [.ref (70), .ref (t2)] (G1) (fun (G3 : XF) => (xPT (G3) → xW X d 113 38 [.ref (0), vi (x1), vi (x2), vi (0)] [] (G3) (xqi Q)))))) ∧ (¬ ((x2) ≤ (2000)) → (xPT (G1) → Q ((-3)) (G1))))))))) ∧ (¬ (¬ (y1) = (0)) → (xPT (G1) → Q ((-2)) (G1))))))) : xW X d 113 0 [.ref (0), vi (x1), vi (x2), w3] [] F (xqi Q) := by
  refine xw_aload_n (n := 1) (show xlook 113 0 = some (0, .aload_n 0, 1, 0, 0, 0, 0) from xlk (by decide +kernel)) rfl rfl ?_
  refine xw_iload_n (n := 2) (show xlook 113 1 = some (1, .iload_n 1, 1, 0, 0, 0, 0) from xlk (by decide +kernel)) rfl rfl ?_
  obtain ⟨j1, hj1, rr1, G1, hm1, hG1, t⟩ := t
  obtain ⟨y1, rfl, t⟩ := t
  refine xw_callv (dk := j1) (o := 0) (as := [vi (x1)]) (show xlook 113 2 = some (2, .invokevirtual 121, 3, 128, 2, 0, 122) from xlk (by decide +kernel)) (by decide) hj1 ⟨Nat.le_of_ble_eq_true rfl, Nat.le_of_ble_eq_true rfl, Nat.le_of_ble_eq_true rfl⟩ ⟨xob_11.1, xob_11.2, by decide⟩ rfl hm1 (n := 5) rfl ?_
  show xW X d 113 5 [.ref (0), vi (x1), vi (x2), w3] [vi (y1)] G1 (xqi Q)
  obtain ⟨q0, t⟩ := t
  refine xw_if_ne (n := 8) (m := 11) (show xlook 113 5 = some (5, .ifCond .ne 6, 3, 11, 0, 0, 0) from xlk (by decide +kernel)) rfl rfl q0 ⟨fun c => ?_, fun c => ?_⟩
  · replace t := t.1 c
    refine xw_iload_n (n := 12) (show xlook 113 11 = some (11, .iload_n 2, 1, 0, 0, 0, 0) from xlk (by decide +kernel)) rfl rfl ?_
    obtain ⟨q0, t⟩ := t
    refine xw_if_lt (n := 15) (m := 22) (show xlook 113 12 = some (12, .ifCond .lt 10, 3, 22, 0, 0, 0) from xlk (by decide +kernel)) rfl rfl q0 ⟨fun c => ?_, fun c => ?_⟩
    · replace t := t.1 c
      refine xw_bipush (n := 24) (show xlook 113 22 = some (22, .bipush (-3), 2, 0, 0, 0, 0) from xlk (by decide +kernel)) rfl (by decide) ?_
      exact xw_ireturn hG1 (show xlook 113 24 = some (24, .ireturn, 1, 0, 0, 0, 0) from xlk (by decide +kernel)) rfl (t hG1)
    · replace t := t.2 c
      refine xw_iload_n (n := 16) (show xlook 113 15 = some (15, .iload_n 2, 1, 0, 0, 0, 0) from xlk (by decide +kernel)) rfl rfl ?_
      refine xw_sipush (n := 19) (show xlook 113 16 = some (16, .sipush 2000, 3, 0, 0, 0, 0) from xlk (by decide +kernel)) rfl (by decide) ?_
      obtain ⟨q0, t⟩ := t
      refine xw_icmp_le (n := 22) (m := 25) (show xlook 113 19 = some (19, .if_icmp .le 6, 3, 25, 0, 0, 0) from xlk (by decide +kernel)) rfl rfl q0 ⟨by decide, by decide⟩ ⟨fun c => ?_, fun c => ?_⟩
      · replace t := t.1 c
        refine xw_aload_n (n := 26) (show xlook 113 25 = some (25, .aload_n 0, 1, 0, 0, 0, 0) from xlk (by decide +kernel)) rfl rfl ?_
        refine xw_getr (q := 70) (show xlook 113 26 = some (26, .getfield 39, 3, 11, 4, 0, 163) from xlk (by decide +kernel)) (by decide) (xobf xob_11 (by decide) (by decide)) rfl (xPT_get (k := 4) (f := 70) hG1 xob_11 (by decide)) (by have := (xtg_11_4 _ xob_11.1 xob_11.2).1; omega) (n := 29) rfl ?_
        refine xw_aload_n (n := 30) (show xlook 113 29 = some (29, .aload_n 0, 1, 0, 0, 0, 0) from xlk (by decide +kernel)) rfl rfl ?_
        obtain ⟨t2, q1, ht2, t⟩ := t
        refine xw_getr (q := t2) (show xlook 113 30 = some (30, .getfield 10, 3, 11, 0, 0, 159) from xlk (by decide +kernel)) (by decide) (xobf xob_11 (by decide) (by decide)) rfl q1 (by have := ht2.1; omega) (n := 33) rfl ?_
        obtain ⟨j3, hj3, rr3, G3, hm3, hG3, t⟩ := t
        obtain ⟨rfl, t⟩ := t
        refine xw_callv (dk := j3) (o := 70) (as := [.ref (t2)]) (show xlook 113 33 = some (33, .invokevirtual 63, 3, 48, 2, 0, 113) from xlk (by decide +kernel)) (by decide) hj3 ⟨Nat.le_of_ble_eq_true rfl, Nat.le_of_ble_eq_true rfl, Nat.le_of_ble_eq_true rfl⟩ ⟨(xtg_11_4 _ xob_11.1 xob_11.2).1, (xtg_11_4 _ xob_11.1 xob_11.2).2, by decide⟩ rfl hm3 (n := 36) rfl ?_
        show xW X d 113 36 [.ref (0), vi (x1), vi (x2), w3] [] G3 (xqi Q)
        refine xw_iconst (n := 37) (show xlook 113 36 = some (36, .iconst 0, 1, 0, 0, 0, 0) from xlk (by decide +kernel)) rfl ?_
        refine xw_istore_n (n := 38) (show xlook 113 37 = some (37, .istore_n 3, 1, 0, 0, 0, 0) from xlk (by decide +kernel)) rfl (ls' := [.ref (0), vi (x1), vi (x2), vi (0)]) (Nat.le_of_ble_eq_true rfl) rfl ?_
        exact t hG3
      · replace t := t.2 c
        refine xw_bipush (n := 24) (show xlook 113 22 = some (22, .bipush (-3), 2, 0, 0, 0, 0) from xlk (by decide +kernel)) rfl (by decide) ?_
        exact xw_ireturn hG1 (show xlook 113 24 = some (24, .ireturn, 1, 0, 0, 0, 0) from xlk (by decide +kernel)) rfl (t hG1)
  · replace t := t.2 c
    refine xw_bipush (n := 10) (show xlook 113 8 = some (8, .bipush (-2), 2, 0, 0, 0, 0) from xlk (by decide +kernel)) rfl (by decide) ?_
    exact xw_ireturn hG1 (show xlook 113 10 = some (10, .ireturn, 1, 0, 0, 0, 0) from xlk (by decide +kernel)) rfl (t hG1)
theorem m113 {X : List Int32} {d : Nat} {F : XF} {Q : Int → XF → Prop} {x1 : Int} {x2 : Int} (hPT : xPT F)  (t : ∃ (j1 : Nat), j1 < d ∧ xMI X j1 128 [.ref (0), vi (x1)] (F) (fun (y1 : Int) (G1 : XF) => (inR (y1) ∧ (((¬ (y1) = (0)) → (inR (x2) ∧ ((((x2) < (0)) → (xPT (G1) → Q ((-3)) (G1))) ∧ (¬ ((x2) < (0)) → (inR (x2) ∧ ((((x2) ≤ (2000)) → (∃ t2 : Nat, (G1) (0) 0 = (t2 : Int) ∧ xob 9 t2 ∧ (∃ (j3 : Nat), j3 < d ∧ xMV X j3 48 [.ref (70), .ref (t2)] (G1) (fun (G3 : XF) => (xPT (G3) → xW X d 113 38 [.ref (0), vi (x1), vi (x2), vi (0)] [] (G3) (xqi Q)))))) ∧ (¬ ((x2) ≤ (2000)) → (xPT (G1) → Q ((-3)) (G1))))))))) ∧ (¬ (¬ (y1) = (0)) → (xPT (G1) → Q ((-2)) (G1))))))) : xMI X d 113 [.ref (0), vi (x1), vi (x2)] F Q := by
  show xW X d 113 0 [.ref (0), vi (x1), vi (x2), xU0] [] F (xqi Q)
  exact s113_0 hPT  t

theorem s113_38 {X : List Int32} {d : Nat} {F : XF} {Q : Int → XF → Prop} {x1 : Int} {x2 : Int} {x3 : Int} (hPT : xPT F)  (t : inR (x3) ∧ inR (x2) ∧ ((((x2) ≤ (x3)) → (xPT (F) → xW X d 113 85 [.ref (0), vi (x1), vi (x2), vi (x3)] [] (F) (xqi Q))) ∧ (¬ ((x2) ≤ (x3)) → (inR ((F) (70) 2) ∧ inR (x2) ∧ ((((x2) ≤ ((F) (70) 2)) → (xPT (F) → xW X d 113 85 [.ref (0), vi (x1), vi (x2), vi (x3)] [] (F) (xqi Q))) ∧ (¬ ((x2) ≤ ((F) (70) 2)) → (∃ t1 : Nat, (F) (0) 0 = (t1 : Int) ∧ xob 9 t1 ∧ (inR ((F) (70) 3) ∧ inR ((F) (t1) 6) ∧ (((((F) (t1) 6) ≤ ((F) (70) 3)) → (xPT (F) → xW X d 113 85 [.ref (0), vi (x1), vi (x2), vi (x3)] [] (F) (xqi Q))) ∧ (¬ (((F) (t1) 6) ≤ ((F) (70) 3)) → (∃ (j2 : Nat), j2 < d ∧ xMV X j2 55 [.ref (70), vi (x2)] (F) (fun (G2 : XF) => (xPT (G2) → xW X d 113 38 [.ref (0), vi (x1), vi (x2), vi (x3 + 1)] [] (G2) (xqi Q)))))))))))))) : xW X d 113 38 [.ref (0), vi (x1), vi (x2), vi (x3)] [] F (xqi Q) := by
  refine xw_iload_n (n := 39) (show xlook 113 38 = some (38, .iload_n 3, 1, 0, 0, 0, 0) from xlk (by decide +kernel)) rfl rfl ?_
  refine xw_iload_n (n := 40) (show xlook 113 39 = some (39, .iload_n 2, 1, 0, 0, 0, 0) from xlk (by decide +kernel)) rfl rfl ?_
  obtain ⟨q0, q1, t⟩ := t
  refine xw_icmp_ge (n := 43) (m := 85) (show xlook 113 40 = some (40, .if_icmp .ge 45, 3, 85, 0, 0, 0) from xlk (by decide +kernel)) rfl rfl q0 q1 ⟨fun c => ?_, fun c => ?_⟩
  · replace t := t.1 c
    exact t hPT
  · replace t := t.2 c
    refine xw_aload_n (n := 44) (show xlook 113 43 = some (43, .aload_n 0, 1, 0, 0, 0, 0) from xlk (by decide +kernel)) rfl rfl ?_
    refine xw_getr (q := 70) (show xlook 113 44 = some (44, .getfield 39, 3, 11, 4, 0, 163) from xlk (by decide +kernel)) (by decide) (xobf xob_11 (by decide) (by decide)) rfl (xPT_get (k := 4) (f := 70) hPT xob_11 (by decide)) (by have := (xtg_11_4 _ xob_11.1 xob_11.2).1; omega) (n := 47) rfl ?_
    refine xw_geti (show xlook 113 47 = some (47, .getfield 149, 3, 6, 2, 0, 181) from xlk (by decide +kernel)) (by decide) (xobf (xtg_11_4 _ xob_11.1 xob_11.2) (by decide) (by decide)) rfl (n := 50) rfl ?_
    refine xw_iload_n (n := 51) (show xlook 113 50 = some (50, .iload_n 2, 1, 0, 0, 0, 0) from xlk (by decide +kernel)) rfl rfl ?_
    obtain ⟨q0, q1, t⟩ := t
    refine xw_icmp_ge (n := 54) (m := 85) (show xlook 113 51 = some (51, .if_icmp .ge 34, 3, 85, 0, 0, 0) from xlk (by decide +kernel)) rfl rfl q0 q1 ⟨fun c => ?_, fun c => ?_⟩
    · replace t := t.1 c
      exact t hPT
    · replace t := t.2 c
      refine xw_aload_n (n := 55) (show xlook 113 54 = some (54, .aload_n 0, 1, 0, 0, 0, 0) from xlk (by decide +kernel)) rfl rfl ?_
      refine xw_getr (q := 70) (show xlook 113 55 = some (55, .getfield 39, 3, 11, 4, 0, 163) from xlk (by decide +kernel)) (by decide) (xobf xob_11 (by decide) (by decide)) rfl (xPT_get (k := 4) (f := 70) hPT xob_11 (by decide)) (by have := (xtg_11_4 _ xob_11.1 xob_11.2).1; omega) (n := 58) rfl ?_
      refine xw_geti (show xlook 113 58 = some (58, .getfield 172, 3, 6, 3, 0, 186) from xlk (by decide +kernel)) (by decide) (xobf (xtg_11_4 _ xob_11.1 xob_11.2) (by decide) (by decide)) rfl (n := 61) rfl ?_
      refine xw_aload_n (n := 62) (show xlook 113 61 = some (61, .aload_n 0, 1, 0, 0, 0, 0) from xlk (by decide +kernel)) rfl rfl ?_
      obtain ⟨t1, q1, ht1, t⟩ := t
      refine xw_getr (q := t1) (show xlook 113 62 = some (62, .getfield 10, 3, 11, 0, 0, 159) from xlk (by decide +kernel)) (by decide) (xobf xob_11 (by decide) (by decide)) rfl q1 (by have := ht1.1; omega) (n := 65) rfl ?_
      refine xw_geti (show xlook 113 65 = some (65, .getfield 99, 3, 9, 6, 0, 171) from xlk (by decide +kernel)) (by decide) (xobf ht1 (by decide) (by decide)) rfl (n := 68) rfl ?_
      obtain ⟨q0, q1, t⟩ := t
      refine xw_icmp_ge (n := 71) (m := 85) (show xlook 113 68 = some (68, .if_icmp .ge 17, 3, 85, 0, 0, 0) from xlk (by decide +kernel)) rfl rfl q0 q1 ⟨fun c => ?_, fun c => ?_⟩
      · replace t := t.1 c
        exact t hPT
      · replace t := t.2 c
        refine xw_aload_n (n := 72) (show xlook 113 71 = some (71, .aload_n 0, 1, 0, 0, 0, 0) from xlk (by decide +kernel)) rfl rfl ?_
        refine xw_getr (q := 70) (show xlook 113 72 = some (72, .getfield 39, 3, 11, 4, 0, 163) from xlk (by decide +kernel)) (by decide) (xobf xob_11 (by decide) (by decide)) rfl (xPT_get (k := 4) (f := 70) hPT xob_11 (by decide)) (by have := (xtg_11_4 _ xob_11.1 xob_11.2).1; omega) (n := 75) rfl ?_
        refine xw_iload_n (n := 76) (show xlook 113 75 = some (75, .iload_n 2, 1, 0, 0, 0, 0) from xlk (by decide +kernel)) rfl rfl ?_
        obtain ⟨j2, hj2, rr2, G2, hm2, hG2, t⟩ := t
        obtain ⟨rfl, t⟩ := t
        refine xw_callv (dk := j2) (o := 70) (as := [vi (x2)]) (show xlook 113 76 = some (76, .invokevirtual 271, 3, 55, 2, 0, 138) from xlk (by decide +kernel)) (by decide) hj2 ⟨Nat.le_of_ble_eq_true rfl, Nat.le_of_ble_eq_true rfl, Nat.le_of_ble_eq_true rfl⟩ ⟨(xtg_11_4 _ xob_11.1 xob_11.2).1, (xtg_11_4 _ xob_11.1 xob_11.2).2, by decide⟩ rfl hm2 (n := 79) rfl ?_
        show xW X d 113 79 [.ref (0), vi (x1), vi (x2), vi (x3)] [] G2 (xqi Q)
        refine xw_iinc (n := 82) (show xlook 113 79 = some (79, .iinc 3 1, 3, 0, 0, 0, 0) from xlk (by decide +kernel)) rfl (ls' := [.ref (0), vi (x1), vi (x2), vi (x3 + 1)]) rfl rfl ?_
        refine xw_goto (m := 38) (show xlook 113 82 = some (82, .goto (-44), 3, 38, 0, 0, 0) from xlk (by decide +kernel)) rfl ?_
        exact t hG2

theorem s113_85 {X : List Int32} {d : Nat} {F : XF} {Q : Int → XF → Prop} {x1 : Int} {x2 : Int} {x3 : Int} (hPT : xPT F)  (t : (0 ≤ (x1) ∧ (x1) < 30) ∧ (xPT (F) → Q (((F) (77) (x1)) + (100000)) (F))) : xW X d 113 85 [.ref (0), vi (x1), vi (x2), vi (x3)] [] F (xqi Q) := by
  refine xw_aload_n (n := 86) (show xlook 113 85 = some (85, .aload_n 0, 1, 0, 0, 0, 0) from xlk (by decide +kernel)) rfl rfl ?_
  refine xw_getr (q := 70) (show xlook 113 86 = some (86, .getfield 39, 3, 11, 4, 0, 163) from xlk (by decide +kernel)) (by decide) (xobf xob_11 (by decide) (by decide)) rfl (xPT_get (k := 4) (f := 70) hPT xob_11 (by decide)) (by have := (xtg_11_4 _ xob_11.1 xob_11.2).1; omega) (n := 89) rfl ?_
  refine xw_getr (q := 77) (show xlook 113 89 = some (89, .getfield 155, 3, 6, 6, 0, 182) from xlk (by decide +kernel)) (by decide) (xobf (xtg_11_4 _ xob_11.1 xob_11.2) (by decide) (by decide)) rfl (xPT_get (k := 6) (f := 7) hPT (xtg_11_4 _ xob_11.1 xob_11.2) (by decide)) (by have := (xtg_6_6 _ (xtg_11_4 _ xob_11.1 xob_11.2).1 (xtg_11_4 _ xob_11.1 xob_11.2).2).1.1; omega) (n := 92) rfl ?_
  refine xw_iload_n (n := 93) (show xlook 113 92 = some (92, .iload_n 1, 1, 0, 0, 0, 0) from xlk (by decide +kernel)) rfl rfl ?_
  obtain ⟨q1, t⟩ := t
  refine xw_iald (show xlook 113 93 = some (93, .iaload, 1, 0, 0, 0, 0) from xlk (by decide +kernel)) (xtg_6_6 _ (xtg_11_4 _ xob_11.1 xob_11.2).1 (xtg_11_4 _ xob_11.1 xob_11.2).2).1 (by rw [(xtg_6_6 _ (xtg_11_4 _ xob_11.1 xob_11.2).1 (xtg_11_4 _ xob_11.1 xob_11.2).2).2]; exact q1) (n := 94) rfl ?_
  refine xw_ldc (n := 96) (show xlook 113 94 = some (94, .ldc 158, 2, 0, 0, 100000, 0) from xlk (by decide +kernel)) rfl rfl ?_
  refine xw_iadd (n := 97) (show xlook 113 96 = some (96, .iadd, 1, 0, 0, 0, 0) from xlk (by decide +kernel)) rfl ?_
  exact xw_ireturn hPT (show xlook 113 97 = some (97, .ireturn, 1, 0, 0, 0, 0) from xlk (by decide +kernel)) rfl (t hPT)

theorem s114_0 {X : List Int32} {d : Nat} {F : XF} {Q : Int → XF → Prop} {x1 : Int} {w2 : Value} (hPT : xPT F)  (t : inR (x1) ∧ ((((x1) < (0)) → (xPT (F) → Q ((-3)) (F))) ∧ (¬ ((x1) < (0)) → (inR (x1) ∧ ((((x1) ≤ (2000)) → (∃ t1 : Nat, (F) (0) 0 = (t1 : Int) ∧ xob 9 t1 ∧ (∃ (j2 : Nat), j2 < d ∧ xMV X j2 48 [.ref (70), .ref (t1)] (F) (fun (G2 : XF) => (xPT (G2) → xW X d 114 27 [.ref (0), vi (x1), vi (0)] [] (G2) (xqi Q)))))) ∧ (¬ ((x1) ≤ (2000)) → (xPT (F) → Q ((-3)) (F)))))))) : xW X d 114 0 [.ref (0), vi (x1), w2] [] F (xqi Q) := by
  refine xw_iload_n (n := 1) (show xlook 114 0 = some (0, .iload_n 1, 1, 0, 0, 0, 0) from xlk (by decide +kernel)) rfl rfl ?_
  obtain ⟨q0, t⟩ := t
  refine xw_if_lt (n := 4) (m := 11) (show xlook 114 1 = some (1, .ifCond .lt 10, 3, 11, 0, 0, 0) from xlk (by decide +kernel)) rfl rfl q0 ⟨fun c => ?_, fun c => ?_⟩
  · replace t := t.1 c
    refine xw_bipush (n := 13) (show xlook 114 11 = some (11, .bipush (-3), 2, 0, 0, 0, 0) from xlk (by decide +kernel)) rfl (by decide) ?_
    exact xw_ireturn hPT (show xlook 114 13 = some (13, .ireturn, 1, 0, 0, 0, 0) from xlk (by decide +kernel)) rfl (t hPT)
  · replace t := t.2 c
    refine xw_iload_n (n := 5) (show xlook 114 4 = some (4, .iload_n 1, 1, 0, 0, 0, 0) from xlk (by decide +kernel)) rfl rfl ?_
    refine xw_sipush (n := 8) (show xlook 114 5 = some (5, .sipush 2000, 3, 0, 0, 0, 0) from xlk (by decide +kernel)) rfl (by decide) ?_
    obtain ⟨q0, t⟩ := t
    refine xw_icmp_le (n := 11) (m := 14) (show xlook 114 8 = some (8, .if_icmp .le 6, 3, 14, 0, 0, 0) from xlk (by decide +kernel)) rfl rfl q0 ⟨by decide, by decide⟩ ⟨fun c => ?_, fun c => ?_⟩
    · replace t := t.1 c
      refine xw_aload_n (n := 15) (show xlook 114 14 = some (14, .aload_n 0, 1, 0, 0, 0, 0) from xlk (by decide +kernel)) rfl rfl ?_
      refine xw_getr (q := 70) (show xlook 114 15 = some (15, .getfield 39, 3, 11, 4, 0, 163) from xlk (by decide +kernel)) (by decide) (xobf xob_11 (by decide) (by decide)) rfl (xPT_get (k := 4) (f := 70) hPT xob_11 (by decide)) (by have := (xtg_11_4 _ xob_11.1 xob_11.2).1; omega) (n := 18) rfl ?_
      refine xw_aload_n (n := 19) (show xlook 114 18 = some (18, .aload_n 0, 1, 0, 0, 0, 0) from xlk (by decide +kernel)) rfl rfl ?_
      obtain ⟨t1, q1, ht1, t⟩ := t
      refine xw_getr (q := t1) (show xlook 114 19 = some (19, .getfield 10, 3, 11, 0, 0, 159) from xlk (by decide +kernel)) (by decide) (xobf xob_11 (by decide) (by decide)) rfl q1 (by have := ht1.1; omega) (n := 22) rfl ?_
      obtain ⟨j2, hj2, rr2, G2, hm2, hG2, t⟩ := t
      obtain ⟨rfl, t⟩ := t
      refine xw_callv (dk := j2) (o := 70) (as := [.ref (t1)]) (show xlook 114 22 = some (22, .invokevirtual 63, 3, 48, 2, 0, 113) from xlk (by decide +kernel)) (by decide) hj2 ⟨Nat.le_of_ble_eq_true rfl, Nat.le_of_ble_eq_true rfl, Nat.le_of_ble_eq_true rfl⟩ ⟨(xtg_11_4 _ xob_11.1 xob_11.2).1, (xtg_11_4 _ xob_11.1 xob_11.2).2, by decide⟩ rfl hm2 (n := 25) rfl ?_
      show xW X d 114 25 [.ref (0), vi (x1), w2] [] G2 (xqi Q)
      refine xw_iconst (n := 26) (show xlook 114 25 = some (25, .iconst 0, 1, 0, 0, 0, 0) from xlk (by decide +kernel)) rfl ?_
      refine xw_istore_n (n := 27) (show xlook 114 26 = some (26, .istore_n 2, 1, 0, 0, 0, 0) from xlk (by decide +kernel)) rfl (ls' := [.ref (0), vi (x1), vi (0)]) (Nat.le_of_ble_eq_true rfl) rfl ?_
      exact t hG2
    · replace t := t.2 c
      refine xw_bipush (n := 13) (show xlook 114 11 = some (11, .bipush (-3), 2, 0, 0, 0, 0) from xlk (by decide +kernel)) rfl (by decide) ?_
      exact xw_ireturn hPT (show xlook 114 13 = some (13, .ireturn, 1, 0, 0, 0, 0) from xlk (by decide +kernel)) rfl (t hPT)
theorem m114 {X : List Int32} {d : Nat} {F : XF} {Q : Int → XF → Prop} {x1 : Int} (hPT : xPT F)  (t : inR (x1) ∧ ((((x1) < (0)) → (xPT (F) → Q ((-3)) (F))) ∧ (¬ ((x1) < (0)) → (inR (x1) ∧ ((((x1) ≤ (2000)) → (∃ t1 : Nat, (F) (0) 0 = (t1 : Int) ∧ xob 9 t1 ∧ (∃ (j2 : Nat), j2 < d ∧ xMV X j2 48 [.ref (70), .ref (t1)] (F) (fun (G2 : XF) => (xPT (G2) → xW X d 114 27 [.ref (0), vi (x1), vi (0)] [] (G2) (xqi Q)))))) ∧ (¬ ((x1) ≤ (2000)) → (xPT (F) → Q ((-3)) (F)))))))) : xMI X d 114 [.ref (0), vi (x1)] F Q := by
  show xW X d 114 0 [.ref (0), vi (x1), xU0] [] F (xqi Q)
  exact s114_0 hPT  t

theorem s114_27 {X : List Int32} {d : Nat} {F : XF} {Q : Int → XF → Prop} {x1 : Int} {x2 : Int} (hPT : xPT F)  (t : inR (x2) ∧ inR (x1) ∧ ((((x1) ≤ (x2)) → (∃ (j1 : Nat), j1 < d ∧ xMI X j1 52 [.ref (70)] (F) (fun (y1 : Int) (G1 : XF) => (xPT (G1) → Q (y1) (G1))))) ∧ (¬ ((x1) ≤ (x2)) → (∃ (j2 : Nat), j2 < d ∧ xMV X j2 53 [.ref (70)] (F) (fun (G2 : XF) => (xPT (G2) → xW X d 114 27 [.ref (0), vi (x1), vi (x2 + 1)] [] (G2) (xqi Q))))))) : xW X d 114 27 [.ref (0), vi (x1), vi (x2)] [] F (xqi Q) := by
  refine xw_iload_n (n := 28) (show xlook 114 27 = some (27, .iload_n 2, 1, 0, 0, 0, 0) from xlk (by decide +kernel)) rfl rfl ?_
  refine xw_iload_n (n := 29) (show xlook 114 28 = some (28, .iload_n 1, 1, 0, 0, 0, 0) from xlk (by decide +kernel)) rfl rfl ?_
  obtain ⟨q0, q1, t⟩ := t
  refine xw_icmp_ge (n := 32) (m := 45) (show xlook 114 29 = some (29, .if_icmp .ge 16, 3, 45, 0, 0, 0) from xlk (by decide +kernel)) rfl rfl q0 q1 ⟨fun c => ?_, fun c => ?_⟩
  · replace t := t.1 c
    refine xw_aload_n (n := 46) (show xlook 114 45 = some (45, .aload_n 0, 1, 0, 0, 0, 0) from xlk (by decide +kernel)) rfl rfl ?_
    refine xw_getr (q := 70) (show xlook 114 46 = some (46, .getfield 39, 3, 11, 4, 0, 163) from xlk (by decide +kernel)) (by decide) (xobf xob_11 (by decide) (by decide)) rfl (xPT_get (k := 4) (f := 70) hPT xob_11 (by decide)) (by have := (xtg_11_4 _ xob_11.1 xob_11.2).1; omega) (n := 49) rfl ?_
    obtain ⟨j1, hj1, rr1, G1, hm1, hG1, t⟩ := t
    obtain ⟨y1, rfl, t⟩ := t
    refine xw_callv (dk := j1) (o := 70) (as := []) (show xlook 114 49 = some (49, .invokevirtual 274, 3, 52, 1, 0, 139) from xlk (by decide +kernel)) (by decide) hj1 ⟨Nat.le_of_ble_eq_true rfl, Nat.le_of_ble_eq_true rfl, Nat.le_of_ble_eq_true rfl⟩ ⟨(xtg_11_4 _ xob_11.1 xob_11.2).1, (xtg_11_4 _ xob_11.1 xob_11.2).2, by decide⟩ rfl hm1 (n := 52) rfl ?_
    show xW X d 114 52 [.ref (0), vi (x1), vi (x2)] [vi (y1)] G1 (xqi Q)
    exact xw_ireturn hG1 (show xlook 114 52 = some (52, .ireturn, 1, 0, 0, 0, 0) from xlk (by decide +kernel)) rfl (t hG1)
  · replace t := t.2 c
    refine xw_aload_n (n := 33) (show xlook 114 32 = some (32, .aload_n 0, 1, 0, 0, 0, 0) from xlk (by decide +kernel)) rfl rfl ?_
    refine xw_getr (q := 70) (show xlook 114 33 = some (33, .getfield 39, 3, 11, 4, 0, 163) from xlk (by decide +kernel)) (by decide) (xobf xob_11 (by decide) (by decide)) rfl (xPT_get (k := 4) (f := 70) hPT xob_11 (by decide)) (by have := (xtg_11_4 _ xob_11.1 xob_11.2).1; omega) (n := 36) rfl ?_
    obtain ⟨j2, hj2, rr2, G2, hm2, hG2, t⟩ := t
    obtain ⟨rfl, t⟩ := t
    refine xw_callv (dk := j2) (o := 70) (as := []) (show xlook 114 36 = some (36, .invokevirtual 152, 3, 53, 1, 0, 126) from xlk (by decide +kernel)) (by decide) hj2 ⟨Nat.le_of_ble_eq_true rfl, Nat.le_of_ble_eq_true rfl, Nat.le_of_ble_eq_true rfl⟩ ⟨(xtg_11_4 _ xob_11.1 xob_11.2).1, (xtg_11_4 _ xob_11.1 xob_11.2).2, by decide⟩ rfl hm2 (n := 39) rfl ?_
    show xW X d 114 39 [.ref (0), vi (x1), vi (x2)] [] G2 (xqi Q)
    refine xw_iinc (n := 42) (show xlook 114 39 = some (39, .iinc 2 1, 3, 0, 0, 0, 0) from xlk (by decide +kernel)) rfl (ls' := [.ref (0), vi (x1), vi (x2 + 1)]) rfl rfl ?_
    refine xw_goto (m := 27) (show xlook 114 42 = some (42, .goto (-15), 3, 27, 0, 0, 0) from xlk (by decide +kernel)) rfl ?_
    exact t hG2

theorem s115_0 {X : List Int32} {d : Nat} {F : XF} {Q : Int → XF → Prop} {x1 : Int} (hPT : xPT F)  (t : ∃ t1 : Nat, (F) (0) 0 = (t1 : Int) ∧ xob 9 t1 ∧ (inR ((F) (t1) 6) ∧ (((¬ ((F) (t1) 6) = (0)) → (inR (x1) ∧ ((((x1) < (0)) → (xPT (F) → Q ((-2)) (F))) ∧ (¬ ((x1) < (0)) → (inR (x1) ∧ ((((x1) ≤ (1)) → (∃ t2 : Nat, (F) (0) 0 = (t2 : Int) ∧ xob 9 t2 ∧ (∃ (j3 : Nat), j3 < d ∧ xMV X j3 20 [.ref (98), .ref (t2), .ref (70)] (F) (fun (G3 : XF) => (inR (x1) ∧ (((¬ (x1) = (0)) → (xPT (G3) → Q ((G3) (98) 4) (G3))) ∧ (¬ (¬ (x1) = (0)) → (xPT (G3) → Q ((G3) (98) 3) (G3))))))))) ∧ (¬ ((x1) ≤ (1)) → (xPT (F) → Q ((-2)) (F))))))))) ∧ (¬ (¬ ((F) (t1) 6) = (0)) → (xPT (F) → Q ((-5)) (F)))))) : xW X d 115 0 [.ref (0), vi (x1)] [] F (xqi Q) := by
  refine xw_aload_n (n := 1) (show xlook 115 0 = some (0, .aload_n 0, 1, 0, 0, 0, 0) from xlk (by decide +kernel)) rfl rfl ?_
  obtain ⟨t1, q1, ht1, t⟩ := t
  refine xw_getr (q := t1) (show xlook 115 1 = some (1, .getfield 10, 3, 11, 0, 0, 159) from xlk (by decide +kernel)) (by decide) (xobf xob_11 (by decide) (by decide)) rfl q1 (by have := ht1.1; omega) (n := 4) rfl ?_
  refine xw_geti (show xlook 115 4 = some (4, .getfield 99, 3, 9, 6, 0, 171) from xlk (by decide +kernel)) (by decide) (xobf ht1 (by decide) (by decide)) rfl (n := 7) rfl ?_
  obtain ⟨q0, t⟩ := t
  refine xw_if_ne (n := 10) (m := 13) (show xlook 115 7 = some (7, .ifCond .ne 6, 3, 13, 0, 0, 0) from xlk (by decide +kernel)) rfl rfl q0 ⟨fun c => ?_, fun c => ?_⟩
  · replace t := t.1 c
    refine xw_iload_n (n := 14) (show xlook 115 13 = some (13, .iload_n 1, 1, 0, 0, 0, 0) from xlk (by decide +kernel)) rfl rfl ?_
    obtain ⟨q0, t⟩ := t
    refine xw_if_lt (n := 17) (m := 22) (show xlook 115 14 = some (14, .ifCond .lt 8, 3, 22, 0, 0, 0) from xlk (by decide +kernel)) rfl rfl q0 ⟨fun c => ?_, fun c => ?_⟩
    · replace t := t.1 c
      refine xw_bipush (n := 24) (show xlook 115 22 = some (22, .bipush (-2), 2, 0, 0, 0, 0) from xlk (by decide +kernel)) rfl (by decide) ?_
      exact xw_ireturn hPT (show xlook 115 24 = some (24, .ireturn, 1, 0, 0, 0, 0) from xlk (by decide +kernel)) rfl (t hPT)
    · replace t := t.2 c
      refine xw_iload_n (n := 18) (show xlook 115 17 = some (17, .iload_n 1, 1, 0, 0, 0, 0) from xlk (by decide +kernel)) rfl rfl ?_
      refine xw_iconst (n := 19) (show xlook 115 18 = some (18, .iconst 1, 1, 0, 0, 0, 0) from xlk (by decide +kernel)) rfl ?_
      obtain ⟨q0, t⟩ := t
      refine xw_icmp_le (n := 22) (m := 25) (show xlook 115 19 = some (19, .if_icmp .le 6, 3, 25, 0, 0, 0) from xlk (by decide +kernel)) rfl rfl q0 ⟨by decide, by decide⟩ ⟨fun c => ?_, fun c => ?_⟩
      · replace t := t.1 c
        refine xw_aload_n (n := 26) (show xlook 115 25 = some (25, .aload_n 0, 1, 0, 0, 0, 0) from xlk (by decide +kernel)) rfl rfl ?_
        refine xw_getr (q := 98) (show xlook 115 26 = some (26, .getfield 45, 3, 11, 5, 0, 164) from xlk (by decide +kernel)) (by decide) (xobf xob_11 (by decide) (by decide)) rfl (xPT_get (k := 5) (f := 98) hPT xob_11 (by decide)) (by have := (xtg_11_5 _ xob_11.1 xob_11.2).1; omega) (n := 29) rfl ?_
        refine xw_aload_n (n := 30) (show xlook 115 29 = some (29, .aload_n 0, 1, 0, 0, 0, 0) from xlk (by decide +kernel)) rfl rfl ?_
        obtain ⟨t2, q1, ht2, t⟩ := t
        refine xw_getr (q := t2) (show xlook 115 30 = some (30, .getfield 10, 3, 11, 0, 0, 159) from xlk (by decide +kernel)) (by decide) (xobf xob_11 (by decide) (by decide)) rfl q1 (by have := ht2.1; omega) (n := 33) rfl ?_
        refine xw_aload_n (n := 34) (show xlook 115 33 = some (33, .aload_n 0, 1, 0, 0, 0, 0) from xlk (by decide +kernel)) rfl rfl ?_
        refine xw_getr (q := 70) (show xlook 115 34 = some (34, .getfield 39, 3, 11, 4, 0, 163) from xlk (by decide +kernel)) (by decide) (xobf xob_11 (by decide) (by decide)) rfl (xPT_get (k := 4) (f := 70) hPT xob_11 (by decide)) (by have := (xtg_11_4 _ xob_11.1 xob_11.2).1; omega) (n := 37) rfl ?_
        obtain ⟨j3, hj3, rr3, G3, hm3, hG3, t⟩ := t
        obtain ⟨rfl, t⟩ := t
        refine xw_callv (dk := j3) (o := 98) (as := [.ref (t2), .ref (70)]) (show xlook 115 37 = some (37, .invokevirtual 264, 3, 20, 3, 0, 137) from xlk (by decide +kernel)) (by decide) hj3 ⟨Nat.le_of_ble_eq_true rfl, Nat.le_of_ble_eq_true rfl, Nat.le_of_ble_eq_true rfl⟩ ⟨(xtg_11_5 _ xob_11.1 xob_11.2).1, (xtg_11_5 _ xob_11.1 xob_11.2).2, by decide⟩ rfl hm3 (n := 40) rfl ?_
        show xW X d 115 40 [.ref (0), vi (x1)] [] G3 (xqi Q)
        refine xw_iload_n (n := 41) (show xlook 115 40 = some (40, .iload_n 1, 1, 0, 0, 0, 0) from xlk (by decide +kernel)) rfl rfl ?_
        obtain ⟨q0, t⟩ := t
        refine xw_if_ne (n := 44) (m := 54) (show xlook 115 41 = some (41, .ifCond .ne 13, 3, 54, 0, 0, 0) from xlk (by decide +kernel)) rfl rfl q0 ⟨fun c => ?_, fun c => ?_⟩
        · replace t := t.1 c
          refine xw_aload_n (n := 55) (show xlook 115 54 = some (54, .aload_n 0, 1, 0, 0, 0, 0) from xlk (by decide +kernel)) rfl rfl ?_
          refine xw_getr (q := 98) (show xlook 115 55 = some (55, .getfield 45, 3, 11, 5, 0, 164) from xlk (by decide +kernel)) (by decide) (xobf xob_11 (by decide) (by decide)) rfl (xPT_get (k := 5) (f := 98) hG3 xob_11 (by decide)) (by have := (xtg_11_5 _ xob_11.1 xob_11.2).1; omega) (n := 58) rfl ?_
          refine xw_geti (show xlook 115 58 = some (58, .getfield 280, 3, 3, 4, 0, 207) from xlk (by decide +kernel)) (by decide) (xobf (xtg_11_5 _ xob_11.1 xob_11.2) (by decide) (by decide)) rfl (n := 61) rfl ?_
          exact xw_ireturn hG3 (show xlook 115 61 = some (61, .ireturn, 1, 0, 0, 0, 0) from xlk (by decide +kernel)) rfl (t hG3)
        · replace t := t.2 c
          refine xw_aload_n (n := 45) (show xlook 115 44 = some (44, .aload_n 0, 1, 0, 0, 0, 0) from xlk (by decide +kernel)) rfl rfl ?_
          refine xw_getr (q := 98) (show xlook 115 45 = some (45, .getfield 45, 3, 11, 5, 0, 164) from xlk (by decide +kernel)) (by decide) (xobf xob_11 (by decide) (by decide)) rfl (xPT_get (k := 5) (f := 98) hG3 xob_11 (by decide)) (by have := (xtg_11_5 _ xob_11.1 xob_11.2).1; omega) (n := 48) rfl ?_
          refine xw_geti (show xlook 115 48 = some (48, .getfield 277, 3, 3, 3, 0, 206) from xlk (by decide +kernel)) (by decide) (xobf (xtg_11_5 _ xob_11.1 xob_11.2) (by decide) (by decide)) rfl (n := 51) rfl ?_
          refine xw_goto (m := 61) (show xlook 115 51 = some (51, .goto 10, 3, 61, 0, 0, 0) from xlk (by decide +kernel)) rfl ?_
          exact xw_ireturn hG3 (show xlook 115 61 = some (61, .ireturn, 1, 0, 0, 0, 0) from xlk (by decide +kernel)) rfl (t hG3)
      · replace t := t.2 c
        refine xw_bipush (n := 24) (show xlook 115 22 = some (22, .bipush (-2), 2, 0, 0, 0, 0) from xlk (by decide +kernel)) rfl (by decide) ?_
        exact xw_ireturn hPT (show xlook 115 24 = some (24, .ireturn, 1, 0, 0, 0, 0) from xlk (by decide +kernel)) rfl (t hPT)
  · replace t := t.2 c
    refine xw_bipush (n := 12) (show xlook 115 10 = some (10, .bipush (-5), 2, 0, 0, 0, 0) from xlk (by decide +kernel)) rfl (by decide) ?_
    exact xw_ireturn hPT (show xlook 115 12 = some (12, .ireturn, 1, 0, 0, 0, 0) from xlk (by decide +kernel)) rfl (t hPT)
theorem m115 {X : List Int32} {d : Nat} {F : XF} {Q : Int → XF → Prop} {x1 : Int} (hPT : xPT F)  (t : ∃ t1 : Nat, (F) (0) 0 = (t1 : Int) ∧ xob 9 t1 ∧ (inR ((F) (t1) 6) ∧ (((¬ ((F) (t1) 6) = (0)) → (inR (x1) ∧ ((((x1) < (0)) → (xPT (F) → Q ((-2)) (F))) ∧ (¬ ((x1) < (0)) → (inR (x1) ∧ ((((x1) ≤ (1)) → (∃ t2 : Nat, (F) (0) 0 = (t2 : Int) ∧ xob 9 t2 ∧ (∃ (j3 : Nat), j3 < d ∧ xMV X j3 20 [.ref (98), .ref (t2), .ref (70)] (F) (fun (G3 : XF) => (inR (x1) ∧ (((¬ (x1) = (0)) → (xPT (G3) → Q ((G3) (98) 4) (G3))) ∧ (¬ (¬ (x1) = (0)) → (xPT (G3) → Q ((G3) (98) 3) (G3))))))))) ∧ (¬ ((x1) ≤ (1)) → (xPT (F) → Q ((-2)) (F))))))))) ∧ (¬ (¬ ((F) (t1) 6) = (0)) → (xPT (F) → Q ((-5)) (F)))))) : xMI X d 115 [.ref (0), vi (x1)] F Q := by
  show xW X d 115 0 [.ref (0), vi (x1)] [] F (xqi Q)
  exact s115_0 hPT  t

theorem s116_0 {X : List Int32} {d : Nat} {F : XF} {Q : Int → XF → Prop}  (hPT : xPT F)  (t : ∃ t1 : Nat, (F) (0) 0 = (t1 : Int) ∧ xob 9 t1 ∧ (inR ((F) (t1) 6) ∧ (((¬ ((F) (t1) 6) = (0)) → (∃ t2 : Nat, (F) (0) 0 = (t2 : Int) ∧ xob 9 t2 ∧ (∃ (j3 : Nat), j3 < d ∧ xMI X j3 78 [.ref (t2)] (F) (fun (y3 : Int) (G3 : XF) => (xPT (G3) → Q (y3) (G3)))))) ∧ (¬ (¬ ((F) (t1) 6) = (0)) → (xPT (F) → Q ((-5)) (F)))))) : xW X d 116 0 [.ref (0)] [] F (xqi Q) := by
  refine xw_aload_n (n := 1) (show xlook 116 0 = some (0, .aload_n 0, 1, 0, 0, 0, 0) from xlk (by decide +kernel)) rfl rfl ?_
  obtain ⟨t1, q1, ht1, t⟩ := t
  refine xw_getr (q := t1) (show xlook 116 1 = some (1, .getfield 10, 3, 11, 0, 0, 159) from xlk (by decide +kernel)) (by decide) (xobf xob_11 (by decide) (by decide)) rfl q1 (by have := ht1.1; omega) (n := 4) rfl ?_
  refine xw_geti (show xlook 116 4 = some (4, .getfield 99, 3, 9, 6, 0, 171) from xlk (by decide +kernel)) (by decide) (xobf ht1 (by decide) (by decide)) rfl (n := 7) rfl ?_
  obtain ⟨q0, t⟩ := t
  refine xw_if_ne (n := 10) (m := 13) (show xlook 116 7 = some (7, .ifCond .ne 6, 3, 13, 0, 0, 0) from xlk (by decide +kernel)) rfl rfl q0 ⟨fun c => ?_, fun c => ?_⟩
  · replace t := t.1 c
    refine xw_aload_n (n := 14) (show xlook 116 13 = some (13, .aload_n 0, 1, 0, 0, 0, 0) from xlk (by decide +kernel)) rfl rfl ?_
    obtain ⟨t2, q1, ht2, t⟩ := t
    refine xw_getr (q := t2) (show xlook 116 14 = some (14, .getfield 10, 3, 11, 0, 0, 159) from xlk (by decide +kernel)) (by decide) (xobf xob_11 (by decide) (by decide)) rfl q1 (by have := ht2.1; omega) (n := 17) rfl ?_
    obtain ⟨j3, hj3, rr3, G3, hm3, hG3, t⟩ := t
    obtain ⟨y3, rfl, t⟩ := t
    refine xw_callv (dk := j3) (o := t2) (as := []) (show xlook 116 17 = some (17, .invokevirtual 283, 3, 78, 1, 0, 140) from xlk (by decide +kernel)) (by decide) hj3 ⟨Nat.le_of_ble_eq_true rfl, Nat.le_of_ble_eq_true rfl, Nat.le_of_ble_eq_true rfl⟩ ⟨ht2.1, ht2.2, by decide⟩ rfl hm3 (n := 20) rfl ?_
    show xW X d 116 20 [.ref (0)] [vi (y3)] G3 (xqi Q)
    exact xw_ireturn hG3 (show xlook 116 20 = some (20, .ireturn, 1, 0, 0, 0, 0) from xlk (by decide +kernel)) rfl (t hG3)
  · replace t := t.2 c
    refine xw_bipush (n := 12) (show xlook 116 10 = some (10, .bipush (-5), 2, 0, 0, 0, 0) from xlk (by decide +kernel)) rfl (by decide) ?_
    exact xw_ireturn hPT (show xlook 116 12 = some (12, .ireturn, 1, 0, 0, 0, 0) from xlk (by decide +kernel)) rfl (t hPT)
theorem m116 {X : List Int32} {d : Nat} {F : XF} {Q : Int → XF → Prop}  (hPT : xPT F)  (t : ∃ t1 : Nat, (F) (0) 0 = (t1 : Int) ∧ xob 9 t1 ∧ (inR ((F) (t1) 6) ∧ (((¬ ((F) (t1) 6) = (0)) → (∃ t2 : Nat, (F) (0) 0 = (t2 : Int) ∧ xob 9 t2 ∧ (∃ (j3 : Nat), j3 < d ∧ xMI X j3 78 [.ref (t2)] (F) (fun (y3 : Int) (G3 : XF) => (xPT (G3) → Q (y3) (G3)))))) ∧ (¬ (¬ ((F) (t1) 6) = (0)) → (xPT (F) → Q ((-5)) (F)))))) : xMI X d 116 [.ref (0)] F Q := by
  show xW X d 116 0 [.ref (0)] [] F (xqi Q)
  exact s116_0 hPT  t

theorem s117_0 {X : List Int32} {d : Nat} {F : XF} {Q : Int → XF → Prop} {x1 : Int} {x2 : Int} (hPT : xPT F)  (t : ∃ t1 : Nat, (F) (0) 0 = (t1 : Int) ∧ xob 9 t1 ∧ (inR ((F) (t1) 6) ∧ (((¬ ((F) (t1) 6) = (0)) → (inR (x1) ∧ ((((x1) < (0)) → (xPT (F) → Q ((-3)) (F))) ∧ (¬ ((x1) < (0)) → (inR (x1) ∧ ((((x1) ≤ (2)) → (inR (x2) ∧ ((((x2) < (0)) → (xPT (F) → Q ((-2)) (F))) ∧ (¬ ((x2) < (0)) → (inR (x2) ∧ ((((x2) ≤ (2)) → (∃ t2 : Nat, (F) (0) 0 = (t2 : Int) ∧ xob 9 t2 ∧ (∃ (j3 : Nat), j3 < d ∧ xMV X j3 82 [.ref (104), .ref (t2), .ref (70), vi (x1)] (F) (fun (G3 : XF) => (inR (x2) ∧ (((¬ (x2) = (0)) → (inR (x2) ∧ (((¬ (x2) = (1)) → ((0 ≤ (x1) ∧ (x1) < 3) ∧ (xPT (G3) → Q ((G3) (124) (x1)) (G3)))) ∧ (¬ (¬ (x2) = (1)) → ((0 ≤ (x1) ∧ (x1) < 3) ∧ (xPT (G3) → Q ((G3) (123) (x1)) (G3))))))) ∧ (¬ (¬ (x2) = (0)) → ((0 ≤ (x1) ∧ (x1) < 3) ∧ (xPT (G3) → Q ((G3) (122) (x1)) (G3)))))))))) ∧ (¬ ((x2) ≤ (2)) → (xPT (F) → Q ((-2)) (F))))))))) ∧ (¬ ((x1) ≤ (2)) → (xPT (F) → Q ((-3)) (F))))))))) ∧ (¬ (¬ ((F) (t1) 6) = (0)) → (xPT (F) → Q ((-5)) (F)))))) : xW X d 117 0 [.ref (0), vi (x1), vi (x2)] [] F (xqi Q) := by
  refine xw_aload_n (n := 1) (show xlook 117 0 = some (0, .aload_n 0, 1, 0, 0, 0, 0) from xlk (by decide +kernel)) rfl rfl ?_
  obtain ⟨t1, q1, ht1, t⟩ := t
  refine xw_getr (q := t1) (show xlook 117 1 = some (1, .getfield 10, 3, 11, 0, 0, 159) from xlk (by decide +kernel)) (by decide) (xobf xob_11 (by decide) (by decide)) rfl q1 (by have := ht1.1; omega) (n := 4) rfl ?_
  refine xw_geti (show xlook 117 4 = some (4, .getfield 99, 3, 9, 6, 0, 171) from xlk (by decide +kernel)) (by decide) (xobf ht1 (by decide) (by decide)) rfl (n := 7) rfl ?_
  obtain ⟨q0, t⟩ := t
  refine xw_if_ne (n := 10) (m := 13) (show xlook 117 7 = some (7, .ifCond .ne 6, 3, 13, 0, 0, 0) from xlk (by decide +kernel)) rfl rfl q0 ⟨fun c => ?_, fun c => ?_⟩
  · replace t := t.1 c
    refine xw_iload_n (n := 14) (show xlook 117 13 = some (13, .iload_n 1, 1, 0, 0, 0, 0) from xlk (by decide +kernel)) rfl rfl ?_
    obtain ⟨q0, t⟩ := t
    refine xw_if_lt (n := 17) (m := 22) (show xlook 117 14 = some (14, .ifCond .lt 8, 3, 22, 0, 0, 0) from xlk (by decide +kernel)) rfl rfl q0 ⟨fun c => ?_, fun c => ?_⟩
    · replace t := t.1 c
      refine xw_bipush (n := 24) (show xlook 117 22 = some (22, .bipush (-3), 2, 0, 0, 0, 0) from xlk (by decide +kernel)) rfl (by decide) ?_
      exact xw_ireturn hPT (show xlook 117 24 = some (24, .ireturn, 1, 0, 0, 0, 0) from xlk (by decide +kernel)) rfl (t hPT)
    · replace t := t.2 c
      refine xw_iload_n (n := 18) (show xlook 117 17 = some (17, .iload_n 1, 1, 0, 0, 0, 0) from xlk (by decide +kernel)) rfl rfl ?_
      refine xw_iconst (n := 19) (show xlook 117 18 = some (18, .iconst 2, 1, 0, 0, 0, 0) from xlk (by decide +kernel)) rfl ?_
      obtain ⟨q0, t⟩ := t
      refine xw_icmp_le (n := 22) (m := 25) (show xlook 117 19 = some (19, .if_icmp .le 6, 3, 25, 0, 0, 0) from xlk (by decide +kernel)) rfl rfl q0 ⟨by decide, by decide⟩ ⟨fun c => ?_, fun c => ?_⟩
      · replace t := t.1 c
        refine xw_iload_n (n := 26) (show xlook 117 25 = some (25, .iload_n 2, 1, 0, 0, 0, 0) from xlk (by decide +kernel)) rfl rfl ?_
        obtain ⟨q0, t⟩ := t
        refine xw_if_lt (n := 29) (m := 34) (show xlook 117 26 = some (26, .ifCond .lt 8, 3, 34, 0, 0, 0) from xlk (by decide +kernel)) rfl rfl q0 ⟨fun c => ?_, fun c => ?_⟩
        · replace t := t.1 c
          refine xw_bipush (n := 36) (show xlook 117 34 = some (34, .bipush (-2), 2, 0, 0, 0, 0) from xlk (by decide +kernel)) rfl (by decide) ?_
          exact xw_ireturn hPT (show xlook 117 36 = some (36, .ireturn, 1, 0, 0, 0, 0) from xlk (by decide +kernel)) rfl (t hPT)
        · replace t := t.2 c
          refine xw_iload_n (n := 30) (show xlook 117 29 = some (29, .iload_n 2, 1, 0, 0, 0, 0) from xlk (by decide +kernel)) rfl rfl ?_
          refine xw_iconst (n := 31) (show xlook 117 30 = some (30, .iconst 2, 1, 0, 0, 0, 0) from xlk (by decide +kernel)) rfl ?_
          obtain ⟨q0, t⟩ := t
          refine xw_icmp_le (n := 34) (m := 37) (show xlook 117 31 = some (31, .if_icmp .le 6, 3, 37, 0, 0, 0) from xlk (by decide +kernel)) rfl rfl q0 ⟨by decide, by decide⟩ ⟨fun c => ?_, fun c => ?_⟩
          · replace t := t.1 c
            refine xw_aload_n (n := 38) (show xlook 117 37 = some (37, .aload_n 0, 1, 0, 0, 0, 0) from xlk (by decide +kernel)) rfl rfl ?_
            refine xw_getr (q := 104) (show xlook 117 38 = some (38, .getfield 52, 3, 11, 6, 0, 165) from xlk (by decide +kernel)) (by decide) (xobf xob_11 (by decide) (by decide)) rfl (xPT_get (k := 6) (f := 104) hPT xob_11 (by decide)) (by have := (xtg_11_6 _ xob_11.1 xob_11.2).1; omega) (n := 41) rfl ?_
            refine xw_aload_n (n := 42) (show xlook 117 41 = some (41, .aload_n 0, 1, 0, 0, 0, 0) from xlk (by decide +kernel)) rfl rfl ?_
            obtain ⟨t2, q1, ht2, t⟩ := t
            refine xw_getr (q := t2) (show xlook 117 42 = some (42, .getfield 10, 3, 11, 0, 0, 159) from xlk (by decide +kernel)) (by decide) (xobf xob_11 (by decide) (by decide)) rfl q1 (by have := ht2.1; omega) (n := 45) rfl ?_
            refine xw_aload_n (n := 46) (show xlook 117 45 = some (45, .aload_n 0, 1, 0, 0, 0, 0) from xlk (by decide +kernel)) rfl rfl ?_
            refine xw_getr (q := 70) (show xlook 117 46 = some (46, .getfield 39, 3, 11, 4, 0, 163) from xlk (by decide +kernel)) (by decide) (xobf xob_11 (by decide) (by decide)) rfl (xPT_get (k := 4) (f := 70) hPT xob_11 (by decide)) (by have := (xtg_11_4 _ xob_11.1 xob_11.2).1; omega) (n := 49) rfl ?_
            refine xw_iload_n (n := 50) (show xlook 117 49 = some (49, .iload_n 1, 1, 0, 0, 0, 0) from xlk (by decide +kernel)) rfl rfl ?_
            obtain ⟨j3, hj3, rr3, G3, hm3, hG3, t⟩ := t
            obtain ⟨rfl, t⟩ := t
            refine xw_callv (dk := j3) (o := 104) (as := [.ref (t2), .ref (70), vi (x1)]) (show xlook 117 50 = some (50, .invokevirtual 286, 3, 82, 4, 0, 141) from xlk (by decide +kernel)) (by decide) hj3 ⟨Nat.le_of_ble_eq_true rfl, Nat.le_of_ble_eq_true rfl, Nat.le_of_ble_eq_true rfl⟩ ⟨(xtg_11_6 _ xob_11.1 xob_11.2).1, (xtg_11_6 _ xob_11.1 xob_11.2).2, by decide⟩ rfl hm3 (n := 53) rfl ?_
            show xW X d 117 53 [.ref (0), vi (x1), vi (x2)] [] G3 (xqi Q)
            refine xw_iload_n (n := 54) (show xlook 117 53 = some (53, .iload_n 2, 1, 0, 0, 0, 0) from xlk (by decide +kernel)) rfl rfl ?_
            obtain ⟨q0, t⟩ := t
            refine xw_if_ne (n := 57) (m := 67) (show xlook 117 54 = some (54, .ifCond .ne 13, 3, 67, 0, 0, 0) from xlk (by decide +kernel)) rfl rfl q0 ⟨fun c => ?_, fun c => ?_⟩
            · replace t := t.1 c
              refine xw_iload_n (n := 68) (show xlook 117 67 = some (67, .iload_n 2, 1, 0, 0, 0, 0) from xlk (by decide +kernel)) rfl rfl ?_
              refine xw_iconst (n := 69) (show xlook 117 68 = some (68, .iconst 1, 1, 0, 0, 0, 0) from xlk (by decide +kernel)) rfl ?_
              obtain ⟨q0, t⟩ := t
              refine xw_icmp_ne (n := 72) (m := 84) (show xlook 117 69 = some (69, .if_icmp .ne 15, 3, 84, 0, 0, 0) from xlk (by decide +kernel)) rfl rfl q0 ⟨by decide, by decide⟩ ⟨fun c => ?_, fun c => ?_⟩
              · replace t := t.1 c
                refine xw_aload_n (n := 85) (show xlook 117 84 = some (84, .aload_n 0, 1, 0, 0, 0, 0) from xlk (by decide +kernel)) rfl rfl ?_
                refine xw_getr (q := 104) (show xlook 117 85 = some (85, .getfield 52, 3, 11, 6, 0, 165) from xlk (by decide +kernel)) (by decide) (xobf xob_11 (by decide) (by decide)) rfl (xPT_get (k := 6) (f := 104) hG3 xob_11 (by decide)) (by have := (xtg_11_6 _ xob_11.1 xob_11.2).1; omega) (n := 88) rfl ?_
                refine xw_getr (q := 124) (show xlook 117 88 = some (88, .getfield 296, 3, 10, 4, 0, 210) from xlk (by decide +kernel)) (by decide) (xobf (xtg_11_6 _ xob_11.1 xob_11.2) (by decide) (by decide)) rfl (xPT_get (k := 4) (f := 20) hG3 (xtg_11_6 _ xob_11.1 xob_11.2) (by decide)) (by have := (xtg_10_4 _ (xtg_11_6 _ xob_11.1 xob_11.2).1 (xtg_11_6 _ xob_11.1 xob_11.2).2).1.1; omega) (n := 91) rfl ?_
                refine xw_iload_n (n := 92) (show xlook 117 91 = some (91, .iload_n 1, 1, 0, 0, 0, 0) from xlk (by decide +kernel)) rfl rfl ?_
                obtain ⟨q1, t⟩ := t
                refine xw_iald (show xlook 117 92 = some (92, .iaload, 1, 0, 0, 0, 0) from xlk (by decide +kernel)) (xtg_10_4 _ (xtg_11_6 _ xob_11.1 xob_11.2).1 (xtg_11_6 _ xob_11.1 xob_11.2).2).1 (by rw [(xtg_10_4 _ (xtg_11_6 _ xob_11.1 xob_11.2).1 (xtg_11_6 _ xob_11.1 xob_11.2).2).2]; exact q1) (n := 93) rfl ?_
                exact xw_ireturn hG3 (show xlook 117 93 = some (93, .ireturn, 1, 0, 0, 0, 0) from xlk (by decide +kernel)) rfl (t hG3)
              · replace t := t.2 c
                refine xw_aload_n (n := 73) (show xlook 117 72 = some (72, .aload_n 0, 1, 0, 0, 0, 0) from xlk (by decide +kernel)) rfl rfl ?_
                refine xw_getr (q := 104) (show xlook 117 73 = some (73, .getfield 52, 3, 11, 6, 0, 165) from xlk (by decide +kernel)) (by decide) (xobf xob_11 (by decide) (by decide)) rfl (xPT_get (k := 6) (f := 104) hG3 xob_11 (by decide)) (by have := (xtg_11_6 _ xob_11.1 xob_11.2).1; omega) (n := 76) rfl ?_
                refine xw_getr (q := 123) (show xlook 117 76 = some (76, .getfield 293, 3, 10, 3, 0, 209) from xlk (by decide +kernel)) (by decide) (xobf (xtg_11_6 _ xob_11.1 xob_11.2) (by decide) (by decide)) rfl (xPT_get (k := 3) (f := 19) hG3 (xtg_11_6 _ xob_11.1 xob_11.2) (by decide)) (by have := (xtg_10_3 _ (xtg_11_6 _ xob_11.1 xob_11.2).1 (xtg_11_6 _ xob_11.1 xob_11.2).2).1.1; omega) (n := 79) rfl ?_
                refine xw_iload_n (n := 80) (show xlook 117 79 = some (79, .iload_n 1, 1, 0, 0, 0, 0) from xlk (by decide +kernel)) rfl rfl ?_
                obtain ⟨q1, t⟩ := t
                refine xw_iald (show xlook 117 80 = some (80, .iaload, 1, 0, 0, 0, 0) from xlk (by decide +kernel)) (xtg_10_3 _ (xtg_11_6 _ xob_11.1 xob_11.2).1 (xtg_11_6 _ xob_11.1 xob_11.2).2).1 (by rw [(xtg_10_3 _ (xtg_11_6 _ xob_11.1 xob_11.2).1 (xtg_11_6 _ xob_11.1 xob_11.2).2).2]; exact q1) (n := 81) rfl ?_
                refine xw_goto (m := 93) (show xlook 117 81 = some (81, .goto 12, 3, 93, 0, 0, 0) from xlk (by decide +kernel)) rfl ?_
                exact xw_ireturn hG3 (show xlook 117 93 = some (93, .ireturn, 1, 0, 0, 0, 0) from xlk (by decide +kernel)) rfl (t hG3)
            · replace t := t.2 c
              refine xw_aload_n (n := 58) (show xlook 117 57 = some (57, .aload_n 0, 1, 0, 0, 0, 0) from xlk (by decide +kernel)) rfl rfl ?_
              refine xw_getr (q := 104) (show xlook 117 58 = some (58, .getfield 52, 3, 11, 6, 0, 165) from xlk (by decide +kernel)) (by decide) (xobf xob_11 (by decide) (by decide)) rfl (xPT_get (k := 6) (f := 104) hG3 xob_11 (by decide)) (by have := (xtg_11_6 _ xob_11.1 xob_11.2).1; omega) (n := 61) rfl ?_
              refine xw_getr (q := 122) (show xlook 117 61 = some (61, .getfield 290, 3, 10, 2, 0, 208) from xlk (by decide +kernel)) (by decide) (xobf (xtg_11_6 _ xob_11.1 xob_11.2) (by decide) (by decide)) rfl (xPT_get (k := 2) (f := 18) hG3 (xtg_11_6 _ xob_11.1 xob_11.2) (by decide)) (by have := (xtg_10_2 _ (xtg_11_6 _ xob_11.1 xob_11.2).1 (xtg_11_6 _ xob_11.1 xob_11.2).2).1.1; omega) (n := 64) rfl ?_
              refine xw_iload_n (n := 65) (show xlook 117 64 = some (64, .iload_n 1, 1, 0, 0, 0, 0) from xlk (by decide +kernel)) rfl rfl ?_
              obtain ⟨q1, t⟩ := t
              refine xw_iald (show xlook 117 65 = some (65, .iaload, 1, 0, 0, 0, 0) from xlk (by decide +kernel)) (xtg_10_2 _ (xtg_11_6 _ xob_11.1 xob_11.2).1 (xtg_11_6 _ xob_11.1 xob_11.2).2).1 (by rw [(xtg_10_2 _ (xtg_11_6 _ xob_11.1 xob_11.2).1 (xtg_11_6 _ xob_11.1 xob_11.2).2).2]; exact q1) (n := 66) rfl ?_
              exact xw_ireturn hG3 (show xlook 117 66 = some (66, .ireturn, 1, 0, 0, 0, 0) from xlk (by decide +kernel)) rfl (t hG3)
          · replace t := t.2 c
            refine xw_bipush (n := 36) (show xlook 117 34 = some (34, .bipush (-2), 2, 0, 0, 0, 0) from xlk (by decide +kernel)) rfl (by decide) ?_
            exact xw_ireturn hPT (show xlook 117 36 = some (36, .ireturn, 1, 0, 0, 0, 0) from xlk (by decide +kernel)) rfl (t hPT)
      · replace t := t.2 c
        refine xw_bipush (n := 24) (show xlook 117 22 = some (22, .bipush (-3), 2, 0, 0, 0, 0) from xlk (by decide +kernel)) rfl (by decide) ?_
        exact xw_ireturn hPT (show xlook 117 24 = some (24, .ireturn, 1, 0, 0, 0, 0) from xlk (by decide +kernel)) rfl (t hPT)
  · replace t := t.2 c
    refine xw_bipush (n := 12) (show xlook 117 10 = some (10, .bipush (-5), 2, 0, 0, 0, 0) from xlk (by decide +kernel)) rfl (by decide) ?_
    exact xw_ireturn hPT (show xlook 117 12 = some (12, .ireturn, 1, 0, 0, 0, 0) from xlk (by decide +kernel)) rfl (t hPT)
theorem m117 {X : List Int32} {d : Nat} {F : XF} {Q : Int → XF → Prop} {x1 : Int} {x2 : Int} (hPT : xPT F)  (t : ∃ t1 : Nat, (F) (0) 0 = (t1 : Int) ∧ xob 9 t1 ∧ (inR ((F) (t1) 6) ∧ (((¬ ((F) (t1) 6) = (0)) → (inR (x1) ∧ ((((x1) < (0)) → (xPT (F) → Q ((-3)) (F))) ∧ (¬ ((x1) < (0)) → (inR (x1) ∧ ((((x1) ≤ (2)) → (inR (x2) ∧ ((((x2) < (0)) → (xPT (F) → Q ((-2)) (F))) ∧ (¬ ((x2) < (0)) → (inR (x2) ∧ ((((x2) ≤ (2)) → (∃ t2 : Nat, (F) (0) 0 = (t2 : Int) ∧ xob 9 t2 ∧ (∃ (j3 : Nat), j3 < d ∧ xMV X j3 82 [.ref (104), .ref (t2), .ref (70), vi (x1)] (F) (fun (G3 : XF) => (inR (x2) ∧ (((¬ (x2) = (0)) → (inR (x2) ∧ (((¬ (x2) = (1)) → ((0 ≤ (x1) ∧ (x1) < 3) ∧ (xPT (G3) → Q ((G3) (124) (x1)) (G3)))) ∧ (¬ (¬ (x2) = (1)) → ((0 ≤ (x1) ∧ (x1) < 3) ∧ (xPT (G3) → Q ((G3) (123) (x1)) (G3))))))) ∧ (¬ (¬ (x2) = (0)) → ((0 ≤ (x1) ∧ (x1) < 3) ∧ (xPT (G3) → Q ((G3) (122) (x1)) (G3)))))))))) ∧ (¬ ((x2) ≤ (2)) → (xPT (F) → Q ((-2)) (F))))))))) ∧ (¬ ((x1) ≤ (2)) → (xPT (F) → Q ((-3)) (F))))))))) ∧ (¬ (¬ ((F) (t1) 6) = (0)) → (xPT (F) → Q ((-5)) (F)))))) : xMI X d 117 [.ref (0), vi (x1), vi (x2)] F Q := by
  show xW X d 117 0 [.ref (0), vi (x1), vi (x2)] [] F (xqi Q)
  exact s117_0 hPT  t

theorem s118_0 {X : List Int32} {d : Nat} {F : XF} {Q : Int → XF → Prop} {x1 : Int} {x2 : Int} {w3 : Value} (hPT : xPT F)  (t : ∃ t1 : Nat, (F) (0) 0 = (t1 : Int) ∧ xob 9 t1 ∧ (inR ((F) (t1) 6) ∧ (((¬ ((F) (t1) 6) = (0)) → (inR (x1) ∧ ((((x1) < (0)) → (xPT (F) → Q ((-3)) (F))) ∧ (¬ ((x1) < (0)) → (inR (x1) ∧ ((((x1) ≤ (60)) → (inR (x2) ∧ ((((x2) < (0)) → (xPT (F) → Q ((-2)) (F))) ∧ (¬ ((x2) < (0)) → (inR (x2) ∧ ((((x2) ≤ (1)) → (∃ t2 : Nat, (F) (0) 0 = (t2 : Int) ∧ xob 9 t2 ∧ (∃ (j3 : Nat), j3 < d ∧ xMI X j3 86 [.ref (104), .ref (t2), .ref (70), vi (x1)] (F) (fun (y3 : Int) (G3 : XF) => (inR (x2) ∧ ((((x2) = (0)) → (xPT (G3) → Q (y3) (G3))) ∧ (¬ ((x2) = (0)) → (inR (y3) ∧ (((¬ (y3) = ((-1))) → ((0 ≤ (y3) ∧ (y3) < 61) ∧ (xPT (G3) → Q ((G3) (125) (y3)) (G3)))) ∧ (¬ (¬ (y3) = ((-1))) → (xPT (G3) → Q (y3) (G3)))))))))))) ∧ (¬ ((x2) ≤ (1)) → (xPT (F) → Q ((-2)) (F))))))))) ∧ (¬ ((x1) ≤ (60)) → (xPT (F) → Q ((-3)) (F))))))))) ∧ (¬ (¬ ((F) (t1) 6) = (0)) → (xPT (F) → Q ((-5)) (F)))))) : xW X d 118 0 [.ref (0), vi (x1), vi (x2), w3] [] F (xqi Q) := by
  refine xw_aload_n (n := 1) (show xlook 118 0 = some (0, .aload_n 0, 1, 0, 0, 0, 0) from xlk (by decide +kernel)) rfl rfl ?_
  obtain ⟨t1, q1, ht1, t⟩ := t
  refine xw_getr (q := t1) (show xlook 118 1 = some (1, .getfield 10, 3, 11, 0, 0, 159) from xlk (by decide +kernel)) (by decide) (xobf xob_11 (by decide) (by decide)) rfl q1 (by have := ht1.1; omega) (n := 4) rfl ?_
  refine xw_geti (show xlook 118 4 = some (4, .getfield 99, 3, 9, 6, 0, 171) from xlk (by decide +kernel)) (by decide) (xobf ht1 (by decide) (by decide)) rfl (n := 7) rfl ?_
  obtain ⟨q0, t⟩ := t
  refine xw_if_ne (n := 10) (m := 13) (show xlook 118 7 = some (7, .ifCond .ne 6, 3, 13, 0, 0, 0) from xlk (by decide +kernel)) rfl rfl q0 ⟨fun c => ?_, fun c => ?_⟩
  · replace t := t.1 c
    refine xw_iload_n (n := 14) (show xlook 118 13 = some (13, .iload_n 1, 1, 0, 0, 0, 0) from xlk (by decide +kernel)) rfl rfl ?_
    obtain ⟨q0, t⟩ := t
    refine xw_if_lt (n := 17) (m := 23) (show xlook 118 14 = some (14, .ifCond .lt 9, 3, 23, 0, 0, 0) from xlk (by decide +kernel)) rfl rfl q0 ⟨fun c => ?_, fun c => ?_⟩
    · replace t := t.1 c
      refine xw_bipush (n := 25) (show xlook 118 23 = some (23, .bipush (-3), 2, 0, 0, 0, 0) from xlk (by decide +kernel)) rfl (by decide) ?_
      exact xw_ireturn hPT (show xlook 118 25 = some (25, .ireturn, 1, 0, 0, 0, 0) from xlk (by decide +kernel)) rfl (t hPT)
    · replace t := t.2 c
      refine xw_iload_n (n := 18) (show xlook 118 17 = some (17, .iload_n 1, 1, 0, 0, 0, 0) from xlk (by decide +kernel)) rfl rfl ?_
      refine xw_bipush (n := 20) (show xlook 118 18 = some (18, .bipush 60, 2, 0, 0, 0, 0) from xlk (by decide +kernel)) rfl (by decide) ?_
      obtain ⟨q0, t⟩ := t
      refine xw_icmp_le (n := 23) (m := 26) (show xlook 118 20 = some (20, .if_icmp .le 6, 3, 26, 0, 0, 0) from xlk (by decide +kernel)) rfl rfl q0 ⟨by decide, by decide⟩ ⟨fun c => ?_, fun c => ?_⟩
      · replace t := t.1 c
        refine xw_iload_n (n := 27) (show xlook 118 26 = some (26, .iload_n 2, 1, 0, 0, 0, 0) from xlk (by decide +kernel)) rfl rfl ?_
        obtain ⟨q0, t⟩ := t
        refine xw_if_lt (n := 30) (m := 35) (show xlook 118 27 = some (27, .ifCond .lt 8, 3, 35, 0, 0, 0) from xlk (by decide +kernel)) rfl rfl q0 ⟨fun c => ?_, fun c => ?_⟩
        · replace t := t.1 c
          refine xw_bipush (n := 37) (show xlook 118 35 = some (35, .bipush (-2), 2, 0, 0, 0, 0) from xlk (by decide +kernel)) rfl (by decide) ?_
          exact xw_ireturn hPT (show xlook 118 37 = some (37, .ireturn, 1, 0, 0, 0, 0) from xlk (by decide +kernel)) rfl (t hPT)
        · replace t := t.2 c
          refine xw_iload_n (n := 31) (show xlook 118 30 = some (30, .iload_n 2, 1, 0, 0, 0, 0) from xlk (by decide +kernel)) rfl rfl ?_
          refine xw_iconst (n := 32) (show xlook 118 31 = some (31, .iconst 1, 1, 0, 0, 0, 0) from xlk (by decide +kernel)) rfl ?_
          obtain ⟨q0, t⟩ := t
          refine xw_icmp_le (n := 35) (m := 38) (show xlook 118 32 = some (32, .if_icmp .le 6, 3, 38, 0, 0, 0) from xlk (by decide +kernel)) rfl rfl q0 ⟨by decide, by decide⟩ ⟨fun c => ?_, fun c => ?_⟩
          · replace t := t.1 c
            refine xw_aload_n (n := 39) (show xlook 118 38 = some (38, .aload_n 0, 1, 0, 0, 0, 0) from xlk (by decide +kernel)) rfl rfl ?_
            refine xw_getr (q := 104) (show xlook 118 39 = some (39, .getfield 52, 3, 11, 6, 0, 165) from xlk (by decide +kernel)) (by decide) (xobf xob_11 (by decide) (by decide)) rfl (xPT_get (k := 6) (f := 104) hPT xob_11 (by decide)) (by have := (xtg_11_6 _ xob_11.1 xob_11.2).1; omega) (n := 42) rfl ?_
            refine xw_aload_n (n := 43) (show xlook 118 42 = some (42, .aload_n 0, 1, 0, 0, 0, 0) from xlk (by decide +kernel)) rfl rfl ?_
            obtain ⟨t2, q1, ht2, t⟩ := t
            refine xw_getr (q := t2) (show xlook 118 43 = some (43, .getfield 10, 3, 11, 0, 0, 159) from xlk (by decide +kernel)) (by decide) (xobf xob_11 (by decide) (by decide)) rfl q1 (by have := ht2.1; omega) (n := 46) rfl ?_
            refine xw_aload_n (n := 47) (show xlook 118 46 = some (46, .aload_n 0, 1, 0, 0, 0, 0) from xlk (by decide +kernel)) rfl rfl ?_
            refine xw_getr (q := 70) (show xlook 118 47 = some (47, .getfield 39, 3, 11, 4, 0, 163) from xlk (by decide +kernel)) (by decide) (xobf xob_11 (by decide) (by decide)) rfl (xPT_get (k := 4) (f := 70) hPT xob_11 (by decide)) (by have := (xtg_11_4 _ xob_11.1 xob_11.2).1; omega) (n := 50) rfl ?_
            refine xw_iload_n (n := 51) (show xlook 118 50 = some (50, .iload_n 1, 1, 0, 0, 0, 0) from xlk (by decide +kernel)) rfl rfl ?_
            obtain ⟨j3, hj3, rr3, G3, hm3, hG3, t⟩ := t
            obtain ⟨y3, rfl, t⟩ := t
            refine xw_callv (dk := j3) (o := 104) (as := [.ref (t2), .ref (70), vi (x1)]) (show xlook 118 51 = some (51, .invokevirtual 299, 3, 86, 4, 0, 142) from xlk (by decide +kernel)) (by decide) hj3 ⟨Nat.le_of_ble_eq_true rfl, Nat.le_of_ble_eq_true rfl, Nat.le_of_ble_eq_true rfl⟩ ⟨(xtg_11_6 _ xob_11.1 xob_11.2).1, (xtg_11_6 _ xob_11.1 xob_11.2).2, by decide⟩ rfl hm3 (n := 54) rfl ?_
            show xW X d 118 54 [.ref (0), vi (x1), vi (x2), w3] [vi (y3)] G3 (xqi Q)
            refine xw_istore_n (n := 55) (show xlook 118 54 = some (54, .istore_n 3, 1, 0, 0, 0, 0) from xlk (by decide +kernel)) rfl (ls' := [.ref (0), vi (x1), vi (x2), vi (y3)]) (Nat.le_of_ble_eq_true rfl) rfl ?_
            refine xw_iload_n (n := 56) (show xlook 118 55 = some (55, .iload_n 2, 1, 0, 0, 0, 0) from xlk (by decide +kernel)) rfl rfl ?_
            obtain ⟨q0, t⟩ := t
            refine xw_if_eq (n := 59) (m := 64) (show xlook 118 56 = some (56, .ifCond .eq 8, 3, 64, 0, 0, 0) from xlk (by decide +kernel)) rfl rfl q0 ⟨fun c => ?_, fun c => ?_⟩
            · replace t := t.1 c
              refine xw_iload_n (n := 65) (show xlook 118 64 = some (64, .iload_n 3, 1, 0, 0, 0, 0) from xlk (by decide +kernel)) rfl rfl ?_
              refine xw_goto (m := 77) (show xlook 118 65 = some (65, .goto 12, 3, 77, 0, 0, 0) from xlk (by decide +kernel)) rfl ?_
              exact xw_ireturn hG3 (show xlook 118 77 = some (77, .ireturn, 1, 0, 0, 0, 0) from xlk (by decide +kernel)) rfl (t hG3)
            · replace t := t.2 c
              refine xw_iload_n (n := 60) (show xlook 118 59 = some (59, .iload_n 3, 1, 0, 0, 0, 0) from xlk (by decide +kernel)) rfl rfl ?_
              refine xw_iconst (n := 61) (show xlook 118 60 = some (60, .iconst (-1), 1, 0, 0, 0, 0) from xlk (by decide +kernel)) rfl ?_
              obtain ⟨q0, t⟩ := t
              refine xw_icmp_ne (n := 64) (m := 68) (show xlook 118 61 = some (61, .if_icmp .ne 7, 3, 68, 0, 0, 0) from xlk (by decide +kernel)) rfl rfl q0 ⟨by decide, by decide⟩ ⟨fun c => ?_, fun c => ?_⟩
              · replace t := t.1 c
                refine xw_aload_n (n := 69) (show xlook 118 68 = some (68, .aload_n 0, 1, 0, 0, 0, 0) from xlk (by decide +kernel)) rfl rfl ?_
                refine xw_getr (q := 104) (show xlook 118 69 = some (69, .getfield 52, 3, 11, 6, 0, 165) from xlk (by decide +kernel)) (by decide) (xobf xob_11 (by decide) (by decide)) rfl (xPT_get (k := 6) (f := 104) hG3 xob_11 (by decide)) (by have := (xtg_11_6 _ xob_11.1 xob_11.2).1; omega) (n := 72) rfl ?_
                refine xw_getr (q := 125) (show xlook 118 72 = some (72, .getfield 303, 3, 10, 5, 0, 211) from xlk (by decide +kernel)) (by decide) (xobf (xtg_11_6 _ xob_11.1 xob_11.2) (by decide) (by decide)) rfl (xPT_get (k := 5) (f := 21) hG3 (xtg_11_6 _ xob_11.1 xob_11.2) (by decide)) (by have := (xtg_10_5 _ (xtg_11_6 _ xob_11.1 xob_11.2).1 (xtg_11_6 _ xob_11.1 xob_11.2).2).1.1; omega) (n := 75) rfl ?_
                refine xw_iload_n (n := 76) (show xlook 118 75 = some (75, .iload_n 3, 1, 0, 0, 0, 0) from xlk (by decide +kernel)) rfl rfl ?_
                obtain ⟨q1, t⟩ := t
                refine xw_iald (show xlook 118 76 = some (76, .iaload, 1, 0, 0, 0, 0) from xlk (by decide +kernel)) (xtg_10_5 _ (xtg_11_6 _ xob_11.1 xob_11.2).1 (xtg_11_6 _ xob_11.1 xob_11.2).2).1 (by rw [(xtg_10_5 _ (xtg_11_6 _ xob_11.1 xob_11.2).1 (xtg_11_6 _ xob_11.1 xob_11.2).2).2]; exact q1) (n := 77) rfl ?_
                exact xw_ireturn hG3 (show xlook 118 77 = some (77, .ireturn, 1, 0, 0, 0, 0) from xlk (by decide +kernel)) rfl (t hG3)
              · replace t := t.2 c
                refine xw_iload_n (n := 65) (show xlook 118 64 = some (64, .iload_n 3, 1, 0, 0, 0, 0) from xlk (by decide +kernel)) rfl rfl ?_
                refine xw_goto (m := 77) (show xlook 118 65 = some (65, .goto 12, 3, 77, 0, 0, 0) from xlk (by decide +kernel)) rfl ?_
                exact xw_ireturn hG3 (show xlook 118 77 = some (77, .ireturn, 1, 0, 0, 0, 0) from xlk (by decide +kernel)) rfl (t hG3)
          · replace t := t.2 c
            refine xw_bipush (n := 37) (show xlook 118 35 = some (35, .bipush (-2), 2, 0, 0, 0, 0) from xlk (by decide +kernel)) rfl (by decide) ?_
            exact xw_ireturn hPT (show xlook 118 37 = some (37, .ireturn, 1, 0, 0, 0, 0) from xlk (by decide +kernel)) rfl (t hPT)
      · replace t := t.2 c
        refine xw_bipush (n := 25) (show xlook 118 23 = some (23, .bipush (-3), 2, 0, 0, 0, 0) from xlk (by decide +kernel)) rfl (by decide) ?_
        exact xw_ireturn hPT (show xlook 118 25 = some (25, .ireturn, 1, 0, 0, 0, 0) from xlk (by decide +kernel)) rfl (t hPT)
  · replace t := t.2 c
    refine xw_bipush (n := 12) (show xlook 118 10 = some (10, .bipush (-5), 2, 0, 0, 0, 0) from xlk (by decide +kernel)) rfl (by decide) ?_
    exact xw_ireturn hPT (show xlook 118 12 = some (12, .ireturn, 1, 0, 0, 0, 0) from xlk (by decide +kernel)) rfl (t hPT)
theorem m118 {X : List Int32} {d : Nat} {F : XF} {Q : Int → XF → Prop} {x1 : Int} {x2 : Int} (hPT : xPT F)  (t : ∃ t1 : Nat, (F) (0) 0 = (t1 : Int) ∧ xob 9 t1 ∧ (inR ((F) (t1) 6) ∧ (((¬ ((F) (t1) 6) = (0)) → (inR (x1) ∧ ((((x1) < (0)) → (xPT (F) → Q ((-3)) (F))) ∧ (¬ ((x1) < (0)) → (inR (x1) ∧ ((((x1) ≤ (60)) → (inR (x2) ∧ ((((x2) < (0)) → (xPT (F) → Q ((-2)) (F))) ∧ (¬ ((x2) < (0)) → (inR (x2) ∧ ((((x2) ≤ (1)) → (∃ t2 : Nat, (F) (0) 0 = (t2 : Int) ∧ xob 9 t2 ∧ (∃ (j3 : Nat), j3 < d ∧ xMI X j3 86 [.ref (104), .ref (t2), .ref (70), vi (x1)] (F) (fun (y3 : Int) (G3 : XF) => (inR (x2) ∧ ((((x2) = (0)) → (xPT (G3) → Q (y3) (G3))) ∧ (¬ ((x2) = (0)) → (inR (y3) ∧ (((¬ (y3) = ((-1))) → ((0 ≤ (y3) ∧ (y3) < 61) ∧ (xPT (G3) → Q ((G3) (125) (y3)) (G3)))) ∧ (¬ (¬ (y3) = ((-1))) → (xPT (G3) → Q (y3) (G3)))))))))))) ∧ (¬ ((x2) ≤ (1)) → (xPT (F) → Q ((-2)) (F))))))))) ∧ (¬ ((x1) ≤ (60)) → (xPT (F) → Q ((-3)) (F))))))))) ∧ (¬ (¬ ((F) (t1) 6) = (0)) → (xPT (F) → Q ((-5)) (F)))))) : xMI X d 118 [.ref (0), vi (x1), vi (x2)] F Q := by
  show xW X d 118 0 [.ref (0), vi (x1), vi (x2), xU0] [] F (xqi Q)
  exact s118_0 hPT  t

theorem s119_0 {X : List Int32} {d : Nat} {F : XF} {Q : Int → XF → Prop} {x1 : Int} {x2 : Int} {x3 : Int} {w4 : Value} (hPT : xPT F)  (t : ∃ (j1 : Nat), j1 < d ∧ xMI X j1 128 [.ref (0), vi (x1)] (F) (fun (y1 : Int) (G1 : XF) => (inR (y1) ∧ (((¬ (y1) = (0)) → (∃ (j2 : Nat), j2 < d ∧ xMI X j2 131 [vi (x2)] (G1) (fun (y2 : Int) (G2 : XF) => (inR (y2) ∧ ((((y2) = (0)) → (xPT (G2) → Q ((-3)) (G2))) ∧ (¬ ((y2) = (0)) → (inR (x3) ∧ ((((x3) < (1)) → (xPT (G2) → Q ((-3)) (G2))) ∧ (¬ ((x3) < (1)) → (inR (x3) ∧ ((((x3) ≤ (500)) → (∃ t3 : Nat, (G2) (0) 0 = (t3 : Int) ∧ xob 9 t3 ∧ (∃ (j4 : Nat), j4 < d ∧ xMV X j4 20 [.ref (98), .ref (t3), .ref (70)] (G2) (fun (G4 : XF) => (inR ((G4) (98) 1) ∧ (((¬ ((G4) (98) 1) = ((-1))) → (∃ t5 : Nat, (G4) (0) 0 = (t5 : Int) ∧ xob 9 t5 ∧ (∃ (j6 : Nat), j6 < d ∧ xMI X j6 88 [.ref (104), .ref (t5), .ref (70), vi (x1), vi (x2), vi (x3)] (G4) (fun (y6 : Int) (G6 : XF) => (inR (y6) ∧ (((¬ (y6) = ((-1))) → (xPT (G6) → Q (((y6) - ((G6) (98) 1)) + (100000)) (G6))) ∧ (¬ (¬ (y6) = ((-1))) → (xPT (G6) → Q ((-1)) (G6))))))))) ∧ (¬ (¬ ((G4) (98) 1) = ((-1))) → (xPT (G4) → Q ((-1)) (G4))))))))) ∧ (¬ ((x3) ≤ (500)) → (xPT (G2) → Q ((-3)) (G2)))))))))))))) ∧ (¬ (¬ (y1) = (0)) → (xPT (G1) → Q ((-2)) (G1))))))) : xW X d 119 0 [.ref (0), vi (x1), vi (x2), vi (x3), w4] [] F (xqi Q) := by
  refine xw_aload_n (n := 1) (show xlook 119 0 = some (0, .aload_n 0, 1, 0, 0, 0, 0) from xlk (by decide +kernel)) rfl rfl ?_
  refine xw_iload_n (n := 2) (show xlook 119 1 = some (1, .iload_n 1, 1, 0, 0, 0, 0) from xlk (by decide +kernel)) rfl rfl ?_
  obtain ⟨j1, hj1, rr1, G1, hm1, hG1, t⟩ := t
  obtain ⟨y1, rfl, t⟩ := t
  refine xw_callv (dk := j1) (o := 0) (as := [vi (x1)]) (show xlook 119 2 = some (2, .invokevirtual 121, 3, 128, 2, 0, 122) from xlk (by decide +kernel)) (by decide) hj1 ⟨Nat.le_of_ble_eq_true rfl, Nat.le_of_ble_eq_true rfl, Nat.le_of_ble_eq_true rfl⟩ ⟨xob_11.1, xob_11.2, by decide⟩ rfl hm1 (n := 5) rfl ?_
  show xW X d 119 5 [.ref (0), vi (x1), vi (x2), vi (x3), w4] [vi (y1)] G1 (xqi Q)
  obtain ⟨q0, t⟩ := t
  refine xw_if_ne (n := 8) (m := 11) (show xlook 119 5 = some (5, .ifCond .ne 6, 3, 11, 0, 0, 0) from xlk (by decide +kernel)) rfl rfl q0 ⟨fun c => ?_, fun c => ?_⟩
  · replace t := t.1 c
    refine xw_iload_n (n := 12) (show xlook 119 11 = some (11, .iload_n 2, 1, 0, 0, 0, 0) from xlk (by decide +kernel)) rfl rfl ?_
    obtain ⟨j2, hj2, rr2, G2, hm2, hG2, t⟩ := t
    obtain ⟨y2, rfl, t⟩ := t
    refine xw_calls (dk := j2) (as := [vi (x2)]) (show xlook 119 12 = some (12, .invokestatic 125, 3, 131, 1, 0, 123) from xlk (by decide +kernel)) (by decide) hj2 ⟨Nat.le_of_ble_eq_true rfl, Nat.le_of_ble_eq_true rfl, Nat.le_of_ble_eq_true rfl, by decide⟩ rfl hm2 (n := 15) rfl ?_
    show xW X d 119 15 [.ref (0), vi (x1), vi (x2), vi (x3), w4] [vi (y2)] G2 (xqi Q)
    obtain ⟨q0, t⟩ := t
    refine xw_if_eq (n := 18) (m := 30) (show xlook 119 15 = some (15, .ifCond .eq 15, 3, 30, 0, 0, 0) from xlk (by decide +kernel)) rfl rfl q0 ⟨fun c => ?_, fun c => ?_⟩
    · replace t := t.1 c
      refine xw_bipush (n := 32) (show xlook 119 30 = some (30, .bipush (-3), 2, 0, 0, 0, 0) from xlk (by decide +kernel)) rfl (by decide) ?_
      exact xw_ireturn hG2 (show xlook 119 32 = some (32, .ireturn, 1, 0, 0, 0, 0) from xlk (by decide +kernel)) rfl (t hG2)
    · replace t := t.2 c
      refine xw_iload_n (n := 19) (show xlook 119 18 = some (18, .iload_n 3, 1, 0, 0, 0, 0) from xlk (by decide +kernel)) rfl rfl ?_
      refine xw_iconst (n := 20) (show xlook 119 19 = some (19, .iconst 1, 1, 0, 0, 0, 0) from xlk (by decide +kernel)) rfl ?_
      obtain ⟨q0, t⟩ := t
      refine xw_icmp_lt (n := 23) (m := 30) (show xlook 119 20 = some (20, .if_icmp .lt 10, 3, 30, 0, 0, 0) from xlk (by decide +kernel)) rfl rfl q0 ⟨by decide, by decide⟩ ⟨fun c => ?_, fun c => ?_⟩
      · replace t := t.1 c
        refine xw_bipush (n := 32) (show xlook 119 30 = some (30, .bipush (-3), 2, 0, 0, 0, 0) from xlk (by decide +kernel)) rfl (by decide) ?_
        exact xw_ireturn hG2 (show xlook 119 32 = some (32, .ireturn, 1, 0, 0, 0, 0) from xlk (by decide +kernel)) rfl (t hG2)
      · replace t := t.2 c
        refine xw_iload_n (n := 24) (show xlook 119 23 = some (23, .iload_n 3, 1, 0, 0, 0, 0) from xlk (by decide +kernel)) rfl rfl ?_
        refine xw_sipush (n := 27) (show xlook 119 24 = some (24, .sipush 500, 3, 0, 0, 0, 0) from xlk (by decide +kernel)) rfl (by decide) ?_
        obtain ⟨q0, t⟩ := t
        refine xw_icmp_le (n := 30) (m := 33) (show xlook 119 27 = some (27, .if_icmp .le 6, 3, 33, 0, 0, 0) from xlk (by decide +kernel)) rfl rfl q0 ⟨by decide, by decide⟩ ⟨fun c => ?_, fun c => ?_⟩
        · replace t := t.1 c
          refine xw_aload_n (n := 34) (show xlook 119 33 = some (33, .aload_n 0, 1, 0, 0, 0, 0) from xlk (by decide +kernel)) rfl rfl ?_
          refine xw_getr (q := 98) (show xlook 119 34 = some (34, .getfield 45, 3, 11, 5, 0, 164) from xlk (by decide +kernel)) (by decide) (xobf xob_11 (by decide) (by decide)) rfl (xPT_get (k := 5) (f := 98) hG2 xob_11 (by decide)) (by have := (xtg_11_5 _ xob_11.1 xob_11.2).1; omega) (n := 37) rfl ?_
          refine xw_aload_n (n := 38) (show xlook 119 37 = some (37, .aload_n 0, 1, 0, 0, 0, 0) from xlk (by decide +kernel)) rfl rfl ?_
          obtain ⟨t3, q1, ht3, t⟩ := t
          refine xw_getr (q := t3) (show xlook 119 38 = some (38, .getfield 10, 3, 11, 0, 0, 159) from xlk (by decide +kernel)) (by decide) (xobf xob_11 (by decide) (by decide)) rfl q1 (by have := ht3.1; omega) (n := 41) rfl ?_
          refine xw_aload_n (n := 42) (show xlook 119 41 = some (41, .aload_n 0, 1, 0, 0, 0, 0) from xlk (by decide +kernel)) rfl rfl ?_
          refine xw_getr (q := 70) (show xlook 119 42 = some (42, .getfield 39, 3, 11, 4, 0, 163) from xlk (by decide +kernel)) (by decide) (xobf xob_11 (by decide) (by decide)) rfl (xPT_get (k := 4) (f := 70) hG2 xob_11 (by decide)) (by have := (xtg_11_4 _ xob_11.1 xob_11.2).1; omega) (n := 45) rfl ?_
          obtain ⟨j4, hj4, rr4, G4, hm4, hG4, t⟩ := t
          obtain ⟨rfl, t⟩ := t
          refine xw_callv (dk := j4) (o := 98) (as := [.ref (t3), .ref (70)]) (show xlook 119 45 = some (45, .invokevirtual 264, 3, 20, 3, 0, 137) from xlk (by decide +kernel)) (by decide) hj4 ⟨Nat.le_of_ble_eq_true rfl, Nat.le_of_ble_eq_true rfl, Nat.le_of_ble_eq_true rfl⟩ ⟨(xtg_11_5 _ xob_11.1 xob_11.2).1, (xtg_11_5 _ xob_11.1 xob_11.2).2, by decide⟩ rfl hm4 (n := 48) rfl ?_
          show xW X d 119 48 [.ref (0), vi (x1), vi (x2), vi (x3), w4] [] G4 (xqi Q)
          refine xw_aload_n (n := 49) (show xlook 119 48 = some (48, .aload_n 0, 1, 0, 0, 0, 0) from xlk (by decide +kernel)) rfl rfl ?_
          refine xw_getr (q := 98) (show xlook 119 49 = some (49, .getfield 45, 3, 11, 5, 0, 164) from xlk (by decide +kernel)) (by decide) (xobf xob_11 (by decide) (by decide)) rfl (xPT_get (k := 5) (f := 98) hG4 xob_11 (by decide)) (by have := (xtg_11_5 _ xob_11.1 xob_11.2).1; omega) (n := 52) rfl ?_
          refine xw_geti (show xlook 119 52 = some (52, .getfield 268, 3, 3, 1, 0, 205) from xlk (by decide +kernel)) (by decide) (xobf (xtg_11_5 _ xob_11.1 xob_11.2) (by decide) (by decide)) rfl (n := 55) rfl ?_
          refine xw_iconst (n := 56) (show xlook 119 55 = some (55, .iconst (-1), 1, 0, 0, 0, 0) from xlk (by decide +kernel)) rfl ?_
          obtain ⟨q0, t⟩ := t
          refine xw_icmp_ne (n := 59) (m := 61) (show xlook 119 56 = some (56, .if_icmp .ne 5, 3, 61, 0, 0, 0) from xlk (by decide +kernel)) rfl rfl q0 ⟨by decide, by decide⟩ ⟨fun c => ?_, fun c => ?_⟩
          · replace t := t.1 c
            refine xw_aload_n (n := 62) (show xlook 119 61 = some (61, .aload_n 0, 1, 0, 0, 0, 0) from xlk (by decide +kernel)) rfl rfl ?_
            refine xw_getr (q := 104) (show xlook 119 62 = some (62, .getfield 52, 3, 11, 6, 0, 165) from xlk (by decide +kernel)) (by decide) (xobf xob_11 (by decide) (by decide)) rfl (xPT_get (k := 6) (f := 104) hG4 xob_11 (by decide)) (by have := (xtg_11_6 _ xob_11.1 xob_11.2).1; omega) (n := 65) rfl ?_
            refine xw_aload_n (n := 66) (show xlook 119 65 = some (65, .aload_n 0, 1, 0, 0, 0, 0) from xlk (by decide +kernel)) rfl rfl ?_
            obtain ⟨t5, q1, ht5, t⟩ := t
            refine xw_getr (q := t5) (show xlook 119 66 = some (66, .getfield 10, 3, 11, 0, 0, 159) from xlk (by decide +kernel)) (by decide) (xobf xob_11 (by decide) (by decide)) rfl q1 (by have := ht5.1; omega) (n := 69) rfl ?_
            refine xw_aload_n (n := 70) (show xlook 119 69 = some (69, .aload_n 0, 1, 0, 0, 0, 0) from xlk (by decide +kernel)) rfl rfl ?_
            refine xw_getr (q := 70) (show xlook 119 70 = some (70, .getfield 39, 3, 11, 4, 0, 163) from xlk (by decide +kernel)) (by decide) (xobf xob_11 (by decide) (by decide)) rfl (xPT_get (k := 4) (f := 70) hG4 xob_11 (by decide)) (by have := (xtg_11_4 _ xob_11.1 xob_11.2).1; omega) (n := 73) rfl ?_
            refine xw_iload_n (n := 74) (show xlook 119 73 = some (73, .iload_n 1, 1, 0, 0, 0, 0) from xlk (by decide +kernel)) rfl rfl ?_
            refine xw_iload_n (n := 75) (show xlook 119 74 = some (74, .iload_n 2, 1, 0, 0, 0, 0) from xlk (by decide +kernel)) rfl rfl ?_
            refine xw_iload_n (n := 76) (show xlook 119 75 = some (75, .iload_n 3, 1, 0, 0, 0, 0) from xlk (by decide +kernel)) rfl rfl ?_
            obtain ⟨j6, hj6, rr6, G6, hm6, hG6, t⟩ := t
            obtain ⟨y6, rfl, t⟩ := t
            refine xw_callv (dk := j6) (o := 104) (as := [.ref (t5), .ref (70), vi (x1), vi (x2), vi (x3)]) (show xlook 119 76 = some (76, .invokevirtual 306, 3, 88, 6, 0, 143) from xlk (by decide +kernel)) (by decide) hj6 ⟨Nat.le_of_ble_eq_true rfl, Nat.le_of_ble_eq_true rfl, Nat.le_of_ble_eq_true rfl⟩ ⟨(xtg_11_6 _ xob_11.1 xob_11.2).1, (xtg_11_6 _ xob_11.1 xob_11.2).2, by decide⟩ rfl hm6 (n := 79) rfl ?_
            show xW X d 119 79 [.ref (0), vi (x1), vi (x2), vi (x3), w4] [vi (y6)] G6 (xqi Q)
            refine xw_istore (n := 81) (show xlook 119 79 = some (79, .istore 4, 2, 0, 0, 0, 0) from xlk (by decide +kernel)) rfl (ls' := [.ref (0), vi (x1), vi (x2), vi (x3), vi (y6)]) (Nat.le_of_ble_eq_true rfl) rfl ?_
            refine xw_iload (n := 83) (show xlook 119 81 = some (81, .iload 4, 2, 0, 0, 0, 0) from xlk (by decide +kernel)) rfl rfl ?_
            refine xw_iconst (n := 84) (show xlook 119 83 = some (83, .iconst (-1), 1, 0, 0, 0, 0) from xlk (by decide +kernel)) rfl ?_
            obtain ⟨q0, t⟩ := t
            refine xw_icmp_ne (n := 87) (m := 91) (show xlook 119 84 = some (84, .if_icmp .ne 7, 3, 91, 0, 0, 0) from xlk (by decide +kernel)) rfl rfl q0 ⟨by decide, by decide⟩ ⟨fun c => ?_, fun c => ?_⟩
            · replace t := t.1 c
              refine xw_iload (n := 93) (show xlook 119 91 = some (91, .iload 4, 2, 0, 0, 0, 0) from xlk (by decide +kernel)) rfl rfl ?_
              refine xw_aload_n (n := 94) (show xlook 119 93 = some (93, .aload_n 0, 1, 0, 0, 0, 0) from xlk (by decide +kernel)) rfl rfl ?_
              refine xw_getr (q := 98) (show xlook 119 94 = some (94, .getfield 45, 3, 11, 5, 0, 164) from xlk (by decide +kernel)) (by decide) (xobf xob_11 (by decide) (by decide)) rfl (xPT_get (k := 5) (f := 98) hG6 xob_11 (by decide)) (by have := (xtg_11_5 _ xob_11.1 xob_11.2).1; omega) (n := 97) rfl ?_
              refine xw_geti (show xlook 119 97 = some (97, .getfield 268, 3, 3, 1, 0, 205) from xlk (by decide +kernel)) (by decide) (xobf (xtg_11_5 _ xob_11.1 xob_11.2) (by decide) (by decide)) rfl (n := 100) rfl ?_
              refine xw_isub (n := 101) (show xlook 119 100 = some (100, .isub, 1, 0, 0, 0, 0) from xlk (by decide +kernel)) rfl ?_
              refine xw_ldc (n := 103) (show xlook 119 101 = some (101, .ldc 158, 2, 0, 0, 100000, 0) from xlk (by decide +kernel)) rfl rfl ?_
              refine xw_iadd (n := 104) (show xlook 119 103 = some (103, .iadd, 1, 0, 0, 0, 0) from xlk (by decide +kernel)) rfl ?_
              exact xw_ireturn hG6 (show xlook 119 104 = some (104, .ireturn, 1, 0, 0, 0, 0) from xlk (by decide +kernel)) rfl (t hG6)
            · replace t := t.2 c
              refine xw_iconst (n := 88) (show xlook 119 87 = some (87, .iconst (-1), 1, 0, 0, 0, 0) from xlk (by decide +kernel)) rfl ?_
              refine xw_goto (m := 104) (show xlook 119 88 = some (88, .goto 16, 3, 104, 0, 0, 0) from xlk (by decide +kernel)) rfl ?_
              exact xw_ireturn hG6 (show xlook 119 104 = some (104, .ireturn, 1, 0, 0, 0, 0) from xlk (by decide +kernel)) rfl (t hG6)
          · replace t := t.2 c
            refine xw_iconst (n := 60) (show xlook 119 59 = some (59, .iconst (-1), 1, 0, 0, 0, 0) from xlk (by decide +kernel)) rfl ?_
            exact xw_ireturn hG4 (show xlook 119 60 = some (60, .ireturn, 1, 0, 0, 0, 0) from xlk (by decide +kernel)) rfl (t hG4)
        · replace t := t.2 c
          refine xw_bipush (n := 32) (show xlook 119 30 = some (30, .bipush (-3), 2, 0, 0, 0, 0) from xlk (by decide +kernel)) rfl (by decide) ?_
          exact xw_ireturn hG2 (show xlook 119 32 = some (32, .ireturn, 1, 0, 0, 0, 0) from xlk (by decide +kernel)) rfl (t hG2)
  · replace t := t.2 c
    refine xw_bipush (n := 10) (show xlook 119 8 = some (8, .bipush (-2), 2, 0, 0, 0, 0) from xlk (by decide +kernel)) rfl (by decide) ?_
    exact xw_ireturn hG1 (show xlook 119 10 = some (10, .ireturn, 1, 0, 0, 0, 0) from xlk (by decide +kernel)) rfl (t hG1)
theorem m119 {X : List Int32} {d : Nat} {F : XF} {Q : Int → XF → Prop} {x1 : Int} {x2 : Int} {x3 : Int} (hPT : xPT F)  (t : ∃ (j1 : Nat), j1 < d ∧ xMI X j1 128 [.ref (0), vi (x1)] (F) (fun (y1 : Int) (G1 : XF) => (inR (y1) ∧ (((¬ (y1) = (0)) → (∃ (j2 : Nat), j2 < d ∧ xMI X j2 131 [vi (x2)] (G1) (fun (y2 : Int) (G2 : XF) => (inR (y2) ∧ ((((y2) = (0)) → (xPT (G2) → Q ((-3)) (G2))) ∧ (¬ ((y2) = (0)) → (inR (x3) ∧ ((((x3) < (1)) → (xPT (G2) → Q ((-3)) (G2))) ∧ (¬ ((x3) < (1)) → (inR (x3) ∧ ((((x3) ≤ (500)) → (∃ t3 : Nat, (G2) (0) 0 = (t3 : Int) ∧ xob 9 t3 ∧ (∃ (j4 : Nat), j4 < d ∧ xMV X j4 20 [.ref (98), .ref (t3), .ref (70)] (G2) (fun (G4 : XF) => (inR ((G4) (98) 1) ∧ (((¬ ((G4) (98) 1) = ((-1))) → (∃ t5 : Nat, (G4) (0) 0 = (t5 : Int) ∧ xob 9 t5 ∧ (∃ (j6 : Nat), j6 < d ∧ xMI X j6 88 [.ref (104), .ref (t5), .ref (70), vi (x1), vi (x2), vi (x3)] (G4) (fun (y6 : Int) (G6 : XF) => (inR (y6) ∧ (((¬ (y6) = ((-1))) → (xPT (G6) → Q (((y6) - ((G6) (98) 1)) + (100000)) (G6))) ∧ (¬ (¬ (y6) = ((-1))) → (xPT (G6) → Q ((-1)) (G6))))))))) ∧ (¬ (¬ ((G4) (98) 1) = ((-1))) → (xPT (G4) → Q ((-1)) (G4))))))))) ∧ (¬ ((x3) ≤ (500)) → (xPT (G2) → Q ((-3)) (G2)))))))))))))) ∧ (¬ (¬ (y1) = (0)) → (xPT (G1) → Q ((-2)) (G1))))))) : xMI X d 119 [.ref (0), vi (x1), vi (x2), vi (x3)] F Q := by
  show xW X d 119 0 [.ref (0), vi (x1), vi (x2), vi (x3), xU0] [] F (xqi Q)
  exact s119_0 hPT  t

theorem s120_0 {X : List Int32} {d : Nat} {F : XF} {Q : Int → XF → Prop} {x1 : Int} (hPT : xPT F)  (t : ∃ t1 : Nat, (F) (0) 0 = (t1 : Int) ∧ xob 9 t1 ∧ (inR ((F) (t1) 6) ∧ (((¬ ((F) (t1) 6) = (0)) → (inR (x1) ∧ ((((x1) < (0)) → (xPT (F) → Q ((-3)) (F))) ∧ (¬ ((x1) < (0)) → (inR (x1) ∧ ((((x1) ≤ (60)) → (∃ t2 : Nat, (F) (0) 0 = (t2 : Int) ∧ xob 9 t2 ∧ (∃ (j3 : Nat), j3 < d ∧ xMI X j3 89 [.ref (104), .ref (t2), .ref (70), vi (x1)] (F) (fun (y3 : Int) (G3 : XF) => (xPT (G3) → Q (y3) (G3)))))) ∧ (¬ ((x1) ≤ (60)) → (xPT (F) → Q ((-3)) (F))))))))) ∧ (¬ (¬ ((F) (t1) 6) = (0)) → (xPT (F) → Q ((-5)) (F)))))) : xW X d 120 0 [.ref (0), vi (x1)] [] F (xqi Q) := by
  refine xw_aload_n (n := 1) (show xlook 120 0 = some (0, .aload_n 0, 1, 0, 0, 0, 0) from xlk (by decide +kernel)) rfl rfl ?_
  obtain ⟨t1, q1, ht1, t⟩ := t
  refine xw_getr (q := t1) (show xlook 120 1 = some (1, .getfield 10, 3, 11, 0, 0, 159) from xlk (by decide +kernel)) (by decide) (xobf xob_11 (by decide) (by decide)) rfl q1 (by have := ht1.1; omega) (n := 4) rfl ?_
  refine xw_geti (show xlook 120 4 = some (4, .getfield 99, 3, 9, 6, 0, 171) from xlk (by decide +kernel)) (by decide) (xobf ht1 (by decide) (by decide)) rfl (n := 7) rfl ?_
  obtain ⟨q0, t⟩ := t
  refine xw_if_ne (n := 10) (m := 13) (show xlook 120 7 = some (7, .ifCond .ne 6, 3, 13, 0, 0, 0) from xlk (by decide +kernel)) rfl rfl q0 ⟨fun c => ?_, fun c => ?_⟩
  · replace t := t.1 c
    refine xw_iload_n (n := 14) (show xlook 120 13 = some (13, .iload_n 1, 1, 0, 0, 0, 0) from xlk (by decide +kernel)) rfl rfl ?_
    obtain ⟨q0, t⟩ := t
    refine xw_if_lt (n := 17) (m := 23) (show xlook 120 14 = some (14, .ifCond .lt 9, 3, 23, 0, 0, 0) from xlk (by decide +kernel)) rfl rfl q0 ⟨fun c => ?_, fun c => ?_⟩
    · replace t := t.1 c
      refine xw_bipush (n := 25) (show xlook 120 23 = some (23, .bipush (-3), 2, 0, 0, 0, 0) from xlk (by decide +kernel)) rfl (by decide) ?_
      exact xw_ireturn hPT (show xlook 120 25 = some (25, .ireturn, 1, 0, 0, 0, 0) from xlk (by decide +kernel)) rfl (t hPT)
    · replace t := t.2 c
      refine xw_iload_n (n := 18) (show xlook 120 17 = some (17, .iload_n 1, 1, 0, 0, 0, 0) from xlk (by decide +kernel)) rfl rfl ?_
      refine xw_bipush (n := 20) (show xlook 120 18 = some (18, .bipush 60, 2, 0, 0, 0, 0) from xlk (by decide +kernel)) rfl (by decide) ?_
      obtain ⟨q0, t⟩ := t
      refine xw_icmp_le (n := 23) (m := 26) (show xlook 120 20 = some (20, .if_icmp .le 6, 3, 26, 0, 0, 0) from xlk (by decide +kernel)) rfl rfl q0 ⟨by decide, by decide⟩ ⟨fun c => ?_, fun c => ?_⟩
      · replace t := t.1 c
        refine xw_aload_n (n := 27) (show xlook 120 26 = some (26, .aload_n 0, 1, 0, 0, 0, 0) from xlk (by decide +kernel)) rfl rfl ?_
        refine xw_getr (q := 104) (show xlook 120 27 = some (27, .getfield 52, 3, 11, 6, 0, 165) from xlk (by decide +kernel)) (by decide) (xobf xob_11 (by decide) (by decide)) rfl (xPT_get (k := 6) (f := 104) hPT xob_11 (by decide)) (by have := (xtg_11_6 _ xob_11.1 xob_11.2).1; omega) (n := 30) rfl ?_
        refine xw_aload_n (n := 31) (show xlook 120 30 = some (30, .aload_n 0, 1, 0, 0, 0, 0) from xlk (by decide +kernel)) rfl rfl ?_
        obtain ⟨t2, q1, ht2, t⟩ := t
        refine xw_getr (q := t2) (show xlook 120 31 = some (31, .getfield 10, 3, 11, 0, 0, 159) from xlk (by decide +kernel)) (by decide) (xobf xob_11 (by decide) (by decide)) rfl q1 (by have := ht2.1; omega) (n := 34) rfl ?_
        refine xw_aload_n (n := 35) (show xlook 120 34 = some (34, .aload_n 0, 1, 0, 0, 0, 0) from xlk (by decide +kernel)) rfl rfl ?_
        refine xw_getr (q := 70) (show xlook 120 35 = some (35, .getfield 39, 3, 11, 4, 0, 163) from xlk (by decide +kernel)) (by decide) (xobf xob_11 (by decide) (by decide)) rfl (xPT_get (k := 4) (f := 70) hPT xob_11 (by decide)) (by have := (xtg_11_4 _ xob_11.1 xob_11.2).1; omega) (n := 38) rfl ?_
        refine xw_iload_n (n := 39) (show xlook 120 38 = some (38, .iload_n 1, 1, 0, 0, 0, 0) from xlk (by decide +kernel)) rfl rfl ?_
        obtain ⟨j3, hj3, rr3, G3, hm3, hG3, t⟩ := t
        obtain ⟨y3, rfl, t⟩ := t
        refine xw_callv (dk := j3) (o := 104) (as := [.ref (t2), .ref (70), vi (x1)]) (show xlook 120 39 = some (39, .invokevirtual 310, 3, 89, 4, 0, 144) from xlk (by decide +kernel)) (by decide) hj3 ⟨Nat.le_of_ble_eq_true rfl, Nat.le_of_ble_eq_true rfl, Nat.le_of_ble_eq_true rfl⟩ ⟨(xtg_11_6 _ xob_11.1 xob_11.2).1, (xtg_11_6 _ xob_11.1 xob_11.2).2, by decide⟩ rfl hm3 (n := 42) rfl ?_
        show xW X d 120 42 [.ref (0), vi (x1)] [vi (y3)] G3 (xqi Q)
        exact xw_ireturn hG3 (show xlook 120 42 = some (42, .ireturn, 1, 0, 0, 0, 0) from xlk (by decide +kernel)) rfl (t hG3)
      · replace t := t.2 c
        refine xw_bipush (n := 25) (show xlook 120 23 = some (23, .bipush (-3), 2, 0, 0, 0, 0) from xlk (by decide +kernel)) rfl (by decide) ?_
        exact xw_ireturn hPT (show xlook 120 25 = some (25, .ireturn, 1, 0, 0, 0, 0) from xlk (by decide +kernel)) rfl (t hPT)
  · replace t := t.2 c
    refine xw_bipush (n := 12) (show xlook 120 10 = some (10, .bipush (-5), 2, 0, 0, 0, 0) from xlk (by decide +kernel)) rfl (by decide) ?_
    exact xw_ireturn hPT (show xlook 120 12 = some (12, .ireturn, 1, 0, 0, 0, 0) from xlk (by decide +kernel)) rfl (t hPT)
theorem m120 {X : List Int32} {d : Nat} {F : XF} {Q : Int → XF → Prop} {x1 : Int} (hPT : xPT F)  (t : ∃ t1 : Nat, (F) (0) 0 = (t1 : Int) ∧ xob 9 t1 ∧ (inR ((F) (t1) 6) ∧ (((¬ ((F) (t1) 6) = (0)) → (inR (x1) ∧ ((((x1) < (0)) → (xPT (F) → Q ((-3)) (F))) ∧ (¬ ((x1) < (0)) → (inR (x1) ∧ ((((x1) ≤ (60)) → (∃ t2 : Nat, (F) (0) 0 = (t2 : Int) ∧ xob 9 t2 ∧ (∃ (j3 : Nat), j3 < d ∧ xMI X j3 89 [.ref (104), .ref (t2), .ref (70), vi (x1)] (F) (fun (y3 : Int) (G3 : XF) => (xPT (G3) → Q (y3) (G3)))))) ∧ (¬ ((x1) ≤ (60)) → (xPT (F) → Q ((-3)) (F))))))))) ∧ (¬ (¬ ((F) (t1) 6) = (0)) → (xPT (F) → Q ((-5)) (F)))))) : xMI X d 120 [.ref (0), vi (x1)] F Q := by
  show xW X d 120 0 [.ref (0), vi (x1)] [] F (xqi Q)
  exact s120_0 hPT  t

theorem s121_0 {X : List Int32} {d : Nat} {F : XF} {Q : Int → XF → Prop} {x1 : Int} {x2 : Int} (hPT : xPT F)  (t : ∃ (j1 : Nat), j1 < d ∧ xMI X j1 128 [.ref (0), vi (x1)] (F) (fun (y1 : Int) (G1 : XF) => (inR (y1) ∧ ((((y1) = (0)) → (xPT (G1) → Q ((-2)) (G1))) ∧ (¬ ((y1) = (0)) → (inR (x2) ∧ ((((x2) < (0)) → (xPT (G1) → Q ((-2)) (G1))) ∧ (¬ ((x2) < (0)) → (inR (x2) ∧ ((((x2) < (7)) → (∃ t2 : Nat, (G1) (0) 0 = (t2 : Int) ∧ xob 9 t2 ∧ (∃ (j3 : Nat), j3 < d ∧ xMV X j3 20 [.ref (98), .ref (t2), .ref (70)] (G1) (fun (G3 : XF) => ((0 ≤ (((x1) * (7)) + (x2)) ∧ (((x1) * (7)) + (x2)) < 210) ∧ (xPT (G3) → Q ((G3) (99) (((x1) * (7)) + (x2))) (G3))))))) ∧ (¬ ((x2) < (7)) → (xPT (G1) → Q ((-2)) (G1))))))))))))) : xW X d 121 0 [.ref (0), vi (x1), vi (x2)] [] F (xqi Q) := by
  refine xw_aload_n (n := 1) (show xlook 121 0 = some (0, .aload_n 0, 1, 0, 0, 0, 0) from xlk (by decide +kernel)) rfl rfl ?_
  refine xw_iload_n (n := 2) (show xlook 121 1 = some (1, .iload_n 1, 1, 0, 0, 0, 0) from xlk (by decide +kernel)) rfl rfl ?_
  obtain ⟨j1, hj1, rr1, G1, hm1, hG1, t⟩ := t
  obtain ⟨y1, rfl, t⟩ := t
  refine xw_callv (dk := j1) (o := 0) (as := [vi (x1)]) (show xlook 121 2 = some (2, .invokevirtual 121, 3, 128, 2, 0, 122) from xlk (by decide +kernel)) (by decide) hj1 ⟨Nat.le_of_ble_eq_true rfl, Nat.le_of_ble_eq_true rfl, Nat.le_of_ble_eq_true rfl⟩ ⟨xob_11.1, xob_11.2, by decide⟩ rfl hm1 (n := 5) rfl ?_
  show xW X d 121 5 [.ref (0), vi (x1), vi (x2)] [vi (y1)] G1 (xqi Q)
  obtain ⟨q0, t⟩ := t
  refine xw_if_eq (n := 8) (m := 18) (show xlook 121 5 = some (5, .ifCond .eq 13, 3, 18, 0, 0, 0) from xlk (by decide +kernel)) rfl rfl q0 ⟨fun c => ?_, fun c => ?_⟩
  · replace t := t.1 c
    refine xw_bipush (n := 20) (show xlook 121 18 = some (18, .bipush (-2), 2, 0, 0, 0, 0) from xlk (by decide +kernel)) rfl (by decide) ?_
    exact xw_ireturn hG1 (show xlook 121 20 = some (20, .ireturn, 1, 0, 0, 0, 0) from xlk (by decide +kernel)) rfl (t hG1)
  · replace t := t.2 c
    refine xw_iload_n (n := 9) (show xlook 121 8 = some (8, .iload_n 2, 1, 0, 0, 0, 0) from xlk (by decide +kernel)) rfl rfl ?_
    obtain ⟨q0, t⟩ := t
    refine xw_if_lt (n := 12) (m := 18) (show xlook 121 9 = some (9, .ifCond .lt 9, 3, 18, 0, 0, 0) from xlk (by decide +kernel)) rfl rfl q0 ⟨fun c => ?_, fun c => ?_⟩
    · replace t := t.1 c
      refine xw_bipush (n := 20) (show xlook 121 18 = some (18, .bipush (-2), 2, 0, 0, 0, 0) from xlk (by decide +kernel)) rfl (by decide) ?_
      exact xw_ireturn hG1 (show xlook 121 20 = some (20, .ireturn, 1, 0, 0, 0, 0) from xlk (by decide +kernel)) rfl (t hG1)
    · replace t := t.2 c
      refine xw_iload_n (n := 13) (show xlook 121 12 = some (12, .iload_n 2, 1, 0, 0, 0, 0) from xlk (by decide +kernel)) rfl rfl ?_
      refine xw_bipush (n := 15) (show xlook 121 13 = some (13, .bipush 7, 2, 0, 0, 0, 0) from xlk (by decide +kernel)) rfl (by decide) ?_
      obtain ⟨q0, t⟩ := t
      refine xw_icmp_lt (n := 18) (m := 21) (show xlook 121 15 = some (15, .if_icmp .lt 6, 3, 21, 0, 0, 0) from xlk (by decide +kernel)) rfl rfl q0 ⟨by decide, by decide⟩ ⟨fun c => ?_, fun c => ?_⟩
      · replace t := t.1 c
        refine xw_aload_n (n := 22) (show xlook 121 21 = some (21, .aload_n 0, 1, 0, 0, 0, 0) from xlk (by decide +kernel)) rfl rfl ?_
        refine xw_getr (q := 98) (show xlook 121 22 = some (22, .getfield 45, 3, 11, 5, 0, 164) from xlk (by decide +kernel)) (by decide) (xobf xob_11 (by decide) (by decide)) rfl (xPT_get (k := 5) (f := 98) hG1 xob_11 (by decide)) (by have := (xtg_11_5 _ xob_11.1 xob_11.2).1; omega) (n := 25) rfl ?_
        refine xw_aload_n (n := 26) (show xlook 121 25 = some (25, .aload_n 0, 1, 0, 0, 0, 0) from xlk (by decide +kernel)) rfl rfl ?_
        obtain ⟨t2, q1, ht2, t⟩ := t
        refine xw_getr (q := t2) (show xlook 121 26 = some (26, .getfield 10, 3, 11, 0, 0, 159) from xlk (by decide +kernel)) (by decide) (xobf xob_11 (by decide) (by decide)) rfl q1 (by have := ht2.1; omega) (n := 29) rfl ?_
        refine xw_aload_n (n := 30) (show xlook 121 29 = some (29, .aload_n 0, 1, 0, 0, 0, 0) from xlk (by decide +kernel)) rfl rfl ?_
        refine xw_getr (q := 70) (show xlook 121 30 = some (30, .getfield 39, 3, 11, 4, 0, 163) from xlk (by decide +kernel)) (by decide) (xobf xob_11 (by decide) (by decide)) rfl (xPT_get (k := 4) (f := 70) hG1 xob_11 (by decide)) (by have := (xtg_11_4 _ xob_11.1 xob_11.2).1; omega) (n := 33) rfl ?_
        obtain ⟨j3, hj3, rr3, G3, hm3, hG3, t⟩ := t
        obtain ⟨rfl, t⟩ := t
        refine xw_callv (dk := j3) (o := 98) (as := [.ref (t2), .ref (70)]) (show xlook 121 33 = some (33, .invokevirtual 264, 3, 20, 3, 0, 137) from xlk (by decide +kernel)) (by decide) hj3 ⟨Nat.le_of_ble_eq_true rfl, Nat.le_of_ble_eq_true rfl, Nat.le_of_ble_eq_true rfl⟩ ⟨(xtg_11_5 _ xob_11.1 xob_11.2).1, (xtg_11_5 _ xob_11.1 xob_11.2).2, by decide⟩ rfl hm3 (n := 36) rfl ?_
        show xW X d 121 36 [.ref (0), vi (x1), vi (x2)] [] G3 (xqi Q)
        refine xw_aload_n (n := 37) (show xlook 121 36 = some (36, .aload_n 0, 1, 0, 0, 0, 0) from xlk (by decide +kernel)) rfl rfl ?_
        refine xw_getr (q := 98) (show xlook 121 37 = some (37, .getfield 45, 3, 11, 5, 0, 164) from xlk (by decide +kernel)) (by decide) (xobf xob_11 (by decide) (by decide)) rfl (xPT_get (k := 5) (f := 98) hG3 xob_11 (by decide)) (by have := (xtg_11_5 _ xob_11.1 xob_11.2).1; omega) (n := 40) rfl ?_
        refine xw_getr (q := 99) (show xlook 121 40 = some (40, .getfield 313, 3, 3, 5, 0, 212) from xlk (by decide +kernel)) (by decide) (xobf (xtg_11_5 _ xob_11.1 xob_11.2) (by decide) (by decide)) rfl (xPT_get (k := 5) (f := 1) hG3 (xtg_11_5 _ xob_11.1 xob_11.2) (by decide)) (by have := (xtg_3_5 _ (xtg_11_5 _ xob_11.1 xob_11.2).1 (xtg_11_5 _ xob_11.1 xob_11.2).2).1.1; omega) (n := 43) rfl ?_
        refine xw_iload_n (n := 44) (show xlook 121 43 = some (43, .iload_n 1, 1, 0, 0, 0, 0) from xlk (by decide +kernel)) rfl rfl ?_
        refine xw_bipush (n := 46) (show xlook 121 44 = some (44, .bipush 7, 2, 0, 0, 0, 0) from xlk (by decide +kernel)) rfl (by decide) ?_
        refine xw_imul (n := 47) (show xlook 121 46 = some (46, .imul, 1, 0, 0, 0, 0) from xlk (by decide +kernel)) rfl ?_
        refine xw_iload_n (n := 48) (show xlook 121 47 = some (47, .iload_n 2, 1, 0, 0, 0, 0) from xlk (by decide +kernel)) rfl rfl ?_
        refine xw_iadd (n := 49) (show xlook 121 48 = some (48, .iadd, 1, 0, 0, 0, 0) from xlk (by decide +kernel)) rfl ?_
        obtain ⟨q1, t⟩ := t
        refine xw_iald (show xlook 121 49 = some (49, .iaload, 1, 0, 0, 0, 0) from xlk (by decide +kernel)) (xtg_3_5 _ (xtg_11_5 _ xob_11.1 xob_11.2).1 (xtg_11_5 _ xob_11.1 xob_11.2).2).1 (by rw [(xtg_3_5 _ (xtg_11_5 _ xob_11.1 xob_11.2).1 (xtg_11_5 _ xob_11.1 xob_11.2).2).2]; exact q1) (n := 50) rfl ?_
        exact xw_ireturn hG3 (show xlook 121 50 = some (50, .ireturn, 1, 0, 0, 0, 0) from xlk (by decide +kernel)) rfl (t hG3)
      · replace t := t.2 c
        refine xw_bipush (n := 20) (show xlook 121 18 = some (18, .bipush (-2), 2, 0, 0, 0, 0) from xlk (by decide +kernel)) rfl (by decide) ?_
        exact xw_ireturn hG1 (show xlook 121 20 = some (20, .ireturn, 1, 0, 0, 0, 0) from xlk (by decide +kernel)) rfl (t hG1)
theorem m121 {X : List Int32} {d : Nat} {F : XF} {Q : Int → XF → Prop} {x1 : Int} {x2 : Int} (hPT : xPT F)  (t : ∃ (j1 : Nat), j1 < d ∧ xMI X j1 128 [.ref (0), vi (x1)] (F) (fun (y1 : Int) (G1 : XF) => (inR (y1) ∧ ((((y1) = (0)) → (xPT (G1) → Q ((-2)) (G1))) ∧ (¬ ((y1) = (0)) → (inR (x2) ∧ ((((x2) < (0)) → (xPT (G1) → Q ((-2)) (G1))) ∧ (¬ ((x2) < (0)) → (inR (x2) ∧ ((((x2) < (7)) → (∃ t2 : Nat, (G1) (0) 0 = (t2 : Int) ∧ xob 9 t2 ∧ (∃ (j3 : Nat), j3 < d ∧ xMV X j3 20 [.ref (98), .ref (t2), .ref (70)] (G1) (fun (G3 : XF) => ((0 ≤ (((x1) * (7)) + (x2)) ∧ (((x1) * (7)) + (x2)) < 210) ∧ (xPT (G3) → Q ((G3) (99) (((x1) * (7)) + (x2))) (G3))))))) ∧ (¬ ((x2) < (7)) → (xPT (G1) → Q ((-2)) (G1))))))))))))) : xMI X d 121 [.ref (0), vi (x1), vi (x2)] F Q := by
  show xW X d 121 0 [.ref (0), vi (x1), vi (x2)] [] F (xqi Q)
  exact s121_0 hPT  t

theorem s122_0 {X : List Int32} {d : Nat} {F : XF} {Q : Int → XF → Prop} {x1 : Int} (hPT : xPT F)  (t : ∃ t1 : Nat, (F) (0) 0 = (t1 : Int) ∧ xob 9 t1 ∧ (inR ((F) (t1) 6) ∧ (((¬ ((F) (t1) 6) = (0)) → (inR (x1) ∧ ((((x1) < (0)) → (xPT (F) → Q ((-3)) (F))) ∧ (¬ ((x1) < (0)) → (inR (x1) ∧ ((((x1) ≤ (2000)) → (∃ t2 : Nat, (F) (0) 0 = (t2 : Int) ∧ xob 9 t2 ∧ (∃ (j3 : Nat), j3 < d ∧ xMI X j3 91 [.ref (104), .ref (t2), .ref (70), vi (x1)] (F) (fun (y3 : Int) (G3 : XF) => (xPT (G3) → Q (y3) (G3)))))) ∧ (¬ ((x1) ≤ (2000)) → (xPT (F) → Q ((-3)) (F))))))))) ∧ (¬ (¬ ((F) (t1) 6) = (0)) → (xPT (F) → Q ((-5)) (F)))))) : xW X d 122 0 [.ref (0), vi (x1)] [] F (xqi Q) := by
  refine xw_aload_n (n := 1) (show xlook 122 0 = some (0, .aload_n 0, 1, 0, 0, 0, 0) from xlk (by decide +kernel)) rfl rfl ?_
  obtain ⟨t1, q1, ht1, t⟩ := t
  refine xw_getr (q := t1) (show xlook 122 1 = some (1, .getfield 10, 3, 11, 0, 0, 159) from xlk (by decide +kernel)) (by decide) (xobf xob_11 (by decide) (by decide)) rfl q1 (by have := ht1.1; omega) (n := 4) rfl ?_
  refine xw_geti (show xlook 122 4 = some (4, .getfield 99, 3, 9, 6, 0, 171) from xlk (by decide +kernel)) (by decide) (xobf ht1 (by decide) (by decide)) rfl (n := 7) rfl ?_
  obtain ⟨q0, t⟩ := t
  refine xw_if_ne (n := 10) (m := 13) (show xlook 122 7 = some (7, .ifCond .ne 6, 3, 13, 0, 0, 0) from xlk (by decide +kernel)) rfl rfl q0 ⟨fun c => ?_, fun c => ?_⟩
  · replace t := t.1 c
    refine xw_iload_n (n := 14) (show xlook 122 13 = some (13, .iload_n 1, 1, 0, 0, 0, 0) from xlk (by decide +kernel)) rfl rfl ?_
    obtain ⟨q0, t⟩ := t
    refine xw_if_lt (n := 17) (m := 24) (show xlook 122 14 = some (14, .ifCond .lt 10, 3, 24, 0, 0, 0) from xlk (by decide +kernel)) rfl rfl q0 ⟨fun c => ?_, fun c => ?_⟩
    · replace t := t.1 c
      refine xw_bipush (n := 26) (show xlook 122 24 = some (24, .bipush (-3), 2, 0, 0, 0, 0) from xlk (by decide +kernel)) rfl (by decide) ?_
      exact xw_ireturn hPT (show xlook 122 26 = some (26, .ireturn, 1, 0, 0, 0, 0) from xlk (by decide +kernel)) rfl (t hPT)
    · replace t := t.2 c
      refine xw_iload_n (n := 18) (show xlook 122 17 = some (17, .iload_n 1, 1, 0, 0, 0, 0) from xlk (by decide +kernel)) rfl rfl ?_
      refine xw_sipush (n := 21) (show xlook 122 18 = some (18, .sipush 2000, 3, 0, 0, 0, 0) from xlk (by decide +kernel)) rfl (by decide) ?_
      obtain ⟨q0, t⟩ := t
      refine xw_icmp_le (n := 24) (m := 27) (show xlook 122 21 = some (21, .if_icmp .le 6, 3, 27, 0, 0, 0) from xlk (by decide +kernel)) rfl rfl q0 ⟨by decide, by decide⟩ ⟨fun c => ?_, fun c => ?_⟩
      · replace t := t.1 c
        refine xw_aload_n (n := 28) (show xlook 122 27 = some (27, .aload_n 0, 1, 0, 0, 0, 0) from xlk (by decide +kernel)) rfl rfl ?_
        refine xw_getr (q := 104) (show xlook 122 28 = some (28, .getfield 52, 3, 11, 6, 0, 165) from xlk (by decide +kernel)) (by decide) (xobf xob_11 (by decide) (by decide)) rfl (xPT_get (k := 6) (f := 104) hPT xob_11 (by decide)) (by have := (xtg_11_6 _ xob_11.1 xob_11.2).1; omega) (n := 31) rfl ?_
        refine xw_aload_n (n := 32) (show xlook 122 31 = some (31, .aload_n 0, 1, 0, 0, 0, 0) from xlk (by decide +kernel)) rfl rfl ?_
        obtain ⟨t2, q1, ht2, t⟩ := t
        refine xw_getr (q := t2) (show xlook 122 32 = some (32, .getfield 10, 3, 11, 0, 0, 159) from xlk (by decide +kernel)) (by decide) (xobf xob_11 (by decide) (by decide)) rfl q1 (by have := ht2.1; omega) (n := 35) rfl ?_
        refine xw_aload_n (n := 36) (show xlook 122 35 = some (35, .aload_n 0, 1, 0, 0, 0, 0) from xlk (by decide +kernel)) rfl rfl ?_
        refine xw_getr (q := 70) (show xlook 122 36 = some (36, .getfield 39, 3, 11, 4, 0, 163) from xlk (by decide +kernel)) (by decide) (xobf xob_11 (by decide) (by decide)) rfl (xPT_get (k := 4) (f := 70) hPT xob_11 (by decide)) (by have := (xtg_11_4 _ xob_11.1 xob_11.2).1; omega) (n := 39) rfl ?_
        refine xw_iload_n (n := 40) (show xlook 122 39 = some (39, .iload_n 1, 1, 0, 0, 0, 0) from xlk (by decide +kernel)) rfl rfl ?_
        obtain ⟨j3, hj3, rr3, G3, hm3, hG3, t⟩ := t
        obtain ⟨y3, rfl, t⟩ := t
        refine xw_callv (dk := j3) (o := 104) (as := [.ref (t2), .ref (70), vi (x1)]) (show xlook 122 40 = some (40, .invokevirtual 315, 3, 91, 4, 0, 145) from xlk (by decide +kernel)) (by decide) hj3 ⟨Nat.le_of_ble_eq_true rfl, Nat.le_of_ble_eq_true rfl, Nat.le_of_ble_eq_true rfl⟩ ⟨(xtg_11_6 _ xob_11.1 xob_11.2).1, (xtg_11_6 _ xob_11.1 xob_11.2).2, by decide⟩ rfl hm3 (n := 43) rfl ?_
        show xW X d 122 43 [.ref (0), vi (x1)] [vi (y3)] G3 (xqi Q)
        exact xw_ireturn hG3 (show xlook 122 43 = some (43, .ireturn, 1, 0, 0, 0, 0) from xlk (by decide +kernel)) rfl (t hG3)
      · replace t := t.2 c
        refine xw_bipush (n := 26) (show xlook 122 24 = some (24, .bipush (-3), 2, 0, 0, 0, 0) from xlk (by decide +kernel)) rfl (by decide) ?_
        exact xw_ireturn hPT (show xlook 122 26 = some (26, .ireturn, 1, 0, 0, 0, 0) from xlk (by decide +kernel)) rfl (t hPT)
  · replace t := t.2 c
    refine xw_bipush (n := 12) (show xlook 122 10 = some (10, .bipush (-5), 2, 0, 0, 0, 0) from xlk (by decide +kernel)) rfl (by decide) ?_
    exact xw_ireturn hPT (show xlook 122 12 = some (12, .ireturn, 1, 0, 0, 0, 0) from xlk (by decide +kernel)) rfl (t hPT)
theorem m122 {X : List Int32} {d : Nat} {F : XF} {Q : Int → XF → Prop} {x1 : Int} (hPT : xPT F)  (t : ∃ t1 : Nat, (F) (0) 0 = (t1 : Int) ∧ xob 9 t1 ∧ (inR ((F) (t1) 6) ∧ (((¬ ((F) (t1) 6) = (0)) → (inR (x1) ∧ ((((x1) < (0)) → (xPT (F) → Q ((-3)) (F))) ∧ (¬ ((x1) < (0)) → (inR (x1) ∧ ((((x1) ≤ (2000)) → (∃ t2 : Nat, (F) (0) 0 = (t2 : Int) ∧ xob 9 t2 ∧ (∃ (j3 : Nat), j3 < d ∧ xMI X j3 91 [.ref (104), .ref (t2), .ref (70), vi (x1)] (F) (fun (y3 : Int) (G3 : XF) => (xPT (G3) → Q (y3) (G3)))))) ∧ (¬ ((x1) ≤ (2000)) → (xPT (F) → Q ((-3)) (F))))))))) ∧ (¬ (¬ ((F) (t1) 6) = (0)) → (xPT (F) → Q ((-5)) (F)))))) : xMI X d 122 [.ref (0), vi (x1)] F Q := by
  show xW X d 122 0 [.ref (0), vi (x1)] [] F (xqi Q)
  exact s122_0 hPT  t

theorem s123_0 {X : List Int32} {d : Nat} {F : XF} {Q : Int → XF → Prop} {x1 : Int} (hPT : xPT F)  (t : ∃ (j1 : Nat), j1 < d ∧ xMI X j1 129 [.ref (0), vi (x1)] (F) (fun (y1 : Int) (G1 : XF) => (inR (y1) ∧ (((¬ (y1) = (0)) → (∃ t2 : Nat, (G1) (0) 0 = (t2 : Int) ∧ xob 9 t2 ∧ (∃ (j3 : Nat), j3 < d ∧ xMV X j3 20 [.ref (98), .ref (t2), .ref (70)] (G1) (fun (G3 : XF) => ((0 ≤ (x1) ∧ (x1) < 10) ∧ (xPT (G3) → Q ((G3) (100) (x1)) (G3))))))) ∧ (¬ (¬ (y1) = (0)) → (xPT (G1) → Q ((-2)) (G1))))))) : xW X d 123 0 [.ref (0), vi (x1)] [] F (xqi Q) := by
  refine xw_aload_n (n := 1) (show xlook 123 0 = some (0, .aload_n 0, 1, 0, 0, 0, 0) from xlk (by decide +kernel)) rfl rfl ?_
  refine xw_iload_n (n := 2) (show xlook 123 1 = some (1, .iload_n 1, 1, 0, 0, 0, 0) from xlk (by decide +kernel)) rfl rfl ?_
  obtain ⟨j1, hj1, rr1, G1, hm1, hG1, t⟩ := t
  obtain ⟨y1, rfl, t⟩ := t
  refine xw_callv (dk := j1) (o := 0) (as := [vi (x1)]) (show xlook 123 2 = some (2, .invokevirtual 175, 3, 129, 2, 0, 128) from xlk (by decide +kernel)) (by decide) hj1 ⟨Nat.le_of_ble_eq_true rfl, Nat.le_of_ble_eq_true rfl, Nat.le_of_ble_eq_true rfl⟩ ⟨xob_11.1, xob_11.2, by decide⟩ rfl hm1 (n := 5) rfl ?_
  show xW X d 123 5 [.ref (0), vi (x1)] [vi (y1)] G1 (xqi Q)
  obtain ⟨q0, t⟩ := t
  refine xw_if_ne (n := 8) (m := 11) (show xlook 123 5 = some (5, .ifCond .ne 6, 3, 11, 0, 0, 0) from xlk (by decide +kernel)) rfl rfl q0 ⟨fun c => ?_, fun c => ?_⟩
  · replace t := t.1 c
    refine xw_aload_n (n := 12) (show xlook 123 11 = some (11, .aload_n 0, 1, 0, 0, 0, 0) from xlk (by decide +kernel)) rfl rfl ?_
    refine xw_getr (q := 98) (show xlook 123 12 = some (12, .getfield 45, 3, 11, 5, 0, 164) from xlk (by decide +kernel)) (by decide) (xobf xob_11 (by decide) (by decide)) rfl (xPT_get (k := 5) (f := 98) hG1 xob_11 (by decide)) (by have := (xtg_11_5 _ xob_11.1 xob_11.2).1; omega) (n := 15) rfl ?_
    refine xw_aload_n (n := 16) (show xlook 123 15 = some (15, .aload_n 0, 1, 0, 0, 0, 0) from xlk (by decide +kernel)) rfl rfl ?_
    obtain ⟨t2, q1, ht2, t⟩ := t
    refine xw_getr (q := t2) (show xlook 123 16 = some (16, .getfield 10, 3, 11, 0, 0, 159) from xlk (by decide +kernel)) (by decide) (xobf xob_11 (by decide) (by decide)) rfl q1 (by have := ht2.1; omega) (n := 19) rfl ?_
    refine xw_aload_n (n := 20) (show xlook 123 19 = some (19, .aload_n 0, 1, 0, 0, 0, 0) from xlk (by decide +kernel)) rfl rfl ?_
    refine xw_getr (q := 70) (show xlook 123 20 = some (20, .getfield 39, 3, 11, 4, 0, 163) from xlk (by decide +kernel)) (by decide) (xobf xob_11 (by decide) (by decide)) rfl (xPT_get (k := 4) (f := 70) hG1 xob_11 (by decide)) (by have := (xtg_11_4 _ xob_11.1 xob_11.2).1; omega) (n := 23) rfl ?_
    obtain ⟨j3, hj3, rr3, G3, hm3, hG3, t⟩ := t
    obtain ⟨rfl, t⟩ := t
    refine xw_callv (dk := j3) (o := 98) (as := [.ref (t2), .ref (70)]) (show xlook 123 23 = some (23, .invokevirtual 264, 3, 20, 3, 0, 137) from xlk (by decide +kernel)) (by decide) hj3 ⟨Nat.le_of_ble_eq_true rfl, Nat.le_of_ble_eq_true rfl, Nat.le_of_ble_eq_true rfl⟩ ⟨(xtg_11_5 _ xob_11.1 xob_11.2).1, (xtg_11_5 _ xob_11.1 xob_11.2).2, by decide⟩ rfl hm3 (n := 26) rfl ?_
    show xW X d 123 26 [.ref (0), vi (x1)] [] G3 (xqi Q)
    refine xw_aload_n (n := 27) (show xlook 123 26 = some (26, .aload_n 0, 1, 0, 0, 0, 0) from xlk (by decide +kernel)) rfl rfl ?_
    refine xw_getr (q := 98) (show xlook 123 27 = some (27, .getfield 45, 3, 11, 5, 0, 164) from xlk (by decide +kernel)) (by decide) (xobf xob_11 (by decide) (by decide)) rfl (xPT_get (k := 5) (f := 98) hG3 xob_11 (by decide)) (by have := (xtg_11_5 _ xob_11.1 xob_11.2).1; omega) (n := 30) rfl ?_
    refine xw_getr (q := 100) (show xlook 123 30 = some (30, .getfield 318, 3, 3, 6, 0, 213) from xlk (by decide +kernel)) (by decide) (xobf (xtg_11_5 _ xob_11.1 xob_11.2) (by decide) (by decide)) rfl (xPT_get (k := 6) (f := 2) hG3 (xtg_11_5 _ xob_11.1 xob_11.2) (by decide)) (by have := (xtg_3_6 _ (xtg_11_5 _ xob_11.1 xob_11.2).1 (xtg_11_5 _ xob_11.1 xob_11.2).2).1.1; omega) (n := 33) rfl ?_
    refine xw_iload_n (n := 34) (show xlook 123 33 = some (33, .iload_n 1, 1, 0, 0, 0, 0) from xlk (by decide +kernel)) rfl rfl ?_
    obtain ⟨q1, t⟩ := t
    refine xw_iald (show xlook 123 34 = some (34, .iaload, 1, 0, 0, 0, 0) from xlk (by decide +kernel)) (xtg_3_6 _ (xtg_11_5 _ xob_11.1 xob_11.2).1 (xtg_11_5 _ xob_11.1 xob_11.2).2).1 (by rw [(xtg_3_6 _ (xtg_11_5 _ xob_11.1 xob_11.2).1 (xtg_11_5 _ xob_11.1 xob_11.2).2).2]; exact q1) (n := 35) rfl ?_
    exact xw_ireturn hG3 (show xlook 123 35 = some (35, .ireturn, 1, 0, 0, 0, 0) from xlk (by decide +kernel)) rfl (t hG3)
  · replace t := t.2 c
    refine xw_bipush (n := 10) (show xlook 123 8 = some (8, .bipush (-2), 2, 0, 0, 0, 0) from xlk (by decide +kernel)) rfl (by decide) ?_
    exact xw_ireturn hG1 (show xlook 123 10 = some (10, .ireturn, 1, 0, 0, 0, 0) from xlk (by decide +kernel)) rfl (t hG1)
theorem m123 {X : List Int32} {d : Nat} {F : XF} {Q : Int → XF → Prop} {x1 : Int} (hPT : xPT F)  (t : ∃ (j1 : Nat), j1 < d ∧ xMI X j1 129 [.ref (0), vi (x1)] (F) (fun (y1 : Int) (G1 : XF) => (inR (y1) ∧ (((¬ (y1) = (0)) → (∃ t2 : Nat, (G1) (0) 0 = (t2 : Int) ∧ xob 9 t2 ∧ (∃ (j3 : Nat), j3 < d ∧ xMV X j3 20 [.ref (98), .ref (t2), .ref (70)] (G1) (fun (G3 : XF) => ((0 ≤ (x1) ∧ (x1) < 10) ∧ (xPT (G3) → Q ((G3) (100) (x1)) (G3))))))) ∧ (¬ (¬ (y1) = (0)) → (xPT (G1) → Q ((-2)) (G1))))))) : xMI X d 123 [.ref (0), vi (x1)] F Q := by
  show xW X d 123 0 [.ref (0), vi (x1)] [] F (xqi Q)
  exact s123_0 hPT  t

theorem s124_0 {X : List Int32} {d : Nat} {F : XF} {Q : Int → XF → Prop} {x1 : Int} (hPT : xPT F)  (t : inR (x1) ∧ ((((x1) < (1)) → (xPT (F) → Q ((-3)) (F))) ∧ (¬ ((x1) < (1)) → (inR (x1) ∧ ((((x1) ≤ (50)) → (∃ t1 : Nat, (F) (0) 0 = (t1 : Int) ∧ xob 9 t1 ∧ (∃ (j2 : Nat), j2 < d ∧ xMV X j2 20 [.ref (98), .ref (t1), .ref (70)] (F) (fun (G2 : XF) => (∃ t3 : Nat, (G2) (0) 0 = (t3 : Int) ∧ xob 9 t3 ∧ (∃ (j4 : Nat), j4 < d ∧ xMI X j4 25 [.ref (128), .ref (t3), .ref (98), vi (x1)] (G2) (fun (y4 : Int) (G4 : XF) => (xPT (G4) → Q (y4) (G4))))))))) ∧ (¬ ((x1) ≤ (50)) → (xPT (F) → Q ((-3)) (F)))))))) : xW X d 124 0 [.ref (0), vi (x1)] [] F (xqi Q) := by
  refine xw_iload_n (n := 1) (show xlook 124 0 = some (0, .iload_n 1, 1, 0, 0, 0, 0) from xlk (by decide +kernel)) rfl rfl ?_
  refine xw_iconst (n := 2) (show xlook 124 1 = some (1, .iconst 1, 1, 0, 0, 0, 0) from xlk (by decide +kernel)) rfl ?_
  obtain ⟨q0, t⟩ := t
  refine xw_icmp_lt (n := 5) (m := 11) (show xlook 124 2 = some (2, .if_icmp .lt 9, 3, 11, 0, 0, 0) from xlk (by decide +kernel)) rfl rfl q0 ⟨by decide, by decide⟩ ⟨fun c => ?_, fun c => ?_⟩
  · replace t := t.1 c
    refine xw_bipush (n := 13) (show xlook 124 11 = some (11, .bipush (-3), 2, 0, 0, 0, 0) from xlk (by decide +kernel)) rfl (by decide) ?_
    exact xw_ireturn hPT (show xlook 124 13 = some (13, .ireturn, 1, 0, 0, 0, 0) from xlk (by decide +kernel)) rfl (t hPT)
  · replace t := t.2 c
    refine xw_iload_n (n := 6) (show xlook 124 5 = some (5, .iload_n 1, 1, 0, 0, 0, 0) from xlk (by decide +kernel)) rfl rfl ?_
    refine xw_bipush (n := 8) (show xlook 124 6 = some (6, .bipush 50, 2, 0, 0, 0, 0) from xlk (by decide +kernel)) rfl (by decide) ?_
    obtain ⟨q0, t⟩ := t
    refine xw_icmp_le (n := 11) (m := 14) (show xlook 124 8 = some (8, .if_icmp .le 6, 3, 14, 0, 0, 0) from xlk (by decide +kernel)) rfl rfl q0 ⟨by decide, by decide⟩ ⟨fun c => ?_, fun c => ?_⟩
    · replace t := t.1 c
      refine xw_aload_n (n := 15) (show xlook 124 14 = some (14, .aload_n 0, 1, 0, 0, 0, 0) from xlk (by decide +kernel)) rfl rfl ?_
      refine xw_getr (q := 98) (show xlook 124 15 = some (15, .getfield 45, 3, 11, 5, 0, 164) from xlk (by decide +kernel)) (by decide) (xobf xob_11 (by decide) (by decide)) rfl (xPT_get (k := 5) (f := 98) hPT xob_11 (by decide)) (by have := (xtg_11_5 _ xob_11.1 xob_11.2).1; omega) (n := 18) rfl ?_
      refine xw_aload_n (n := 19) (show xlook 124 18 = some (18, .aload_n 0, 1, 0, 0, 0, 0) from xlk (by decide +kernel)) rfl rfl ?_
      obtain ⟨t1, q1, ht1, t⟩ := t
      refine xw_getr (q := t1) (show xlook 124 19 = some (19, .getfield 10, 3, 11, 0, 0, 159) from xlk (by decide +kernel)) (by decide) (xobf xob_11 (by decide) (by decide)) rfl q1 (by have := ht1.1; omega) (n := 22) rfl ?_
      refine xw_aload_n (n := 23) (show xlook 124 22 = some (22, .aload_n 0, 1, 0, 0, 0, 0) from xlk (by decide +kernel)) rfl rfl ?_
      refine xw_getr (q := 70) (show xlook 124 23 = some (23, .getfield 39, 3, 11, 4, 0, 163) from xlk (by decide +kernel)) (by decide) (xobf xob_11 (by decide) (by decide)) rfl (xPT_get (k := 4) (f := 70) hPT xob_11 (by decide)) (by have := (xtg_11_4 _ xob_11.1 xob_11.2).1; omega) (n := 26) rfl ?_
      obtain ⟨j2, hj2, rr2, G2, hm2, hG2, t⟩ := t
      obtain ⟨rfl, t⟩ := t
      refine xw_callv (dk := j2) (o := 98) (as := [.ref (t1), .ref (70)]) (show xlook 124 26 = some (26, .invokevirtual 264, 3, 20, 3, 0, 137) from xlk (by decide +kernel)) (by decide) hj2 ⟨Nat.le_of_ble_eq_true rfl, Nat.le_of_ble_eq_true rfl, Nat.le_of_ble_eq_true rfl⟩ ⟨(xtg_11_5 _ xob_11.1 xob_11.2).1, (xtg_11_5 _ xob_11.1 xob_11.2).2, by decide⟩ rfl hm2 (n := 29) rfl ?_
      show xW X d 124 29 [.ref (0), vi (x1)] [] G2 (xqi Q)
      refine xw_aload_n (n := 30) (show xlook 124 29 = some (29, .aload_n 0, 1, 0, 0, 0, 0) from xlk (by decide +kernel)) rfl rfl ?_
      refine xw_getr (q := 128) (show xlook 124 30 = some (30, .getfield 59, 3, 11, 7, 0, 166) from xlk (by decide +kernel)) (by decide) (xobf xob_11 (by decide) (by decide)) rfl (xPT_get (k := 7) (f := 128) hG2 xob_11 (by decide)) (by have := (xtg_11_7 _ xob_11.1 xob_11.2).1; omega) (n := 33) rfl ?_
      refine xw_aload_n (n := 34) (show xlook 124 33 = some (33, .aload_n 0, 1, 0, 0, 0, 0) from xlk (by decide +kernel)) rfl rfl ?_
      obtain ⟨t3, q1, ht3, t⟩ := t
      refine xw_getr (q := t3) (show xlook 124 34 = some (34, .getfield 10, 3, 11, 0, 0, 159) from xlk (by decide +kernel)) (by decide) (xobf xob_11 (by decide) (by decide)) rfl q1 (by have := ht3.1; omega) (n := 37) rfl ?_
      refine xw_aload_n (n := 38) (show xlook 124 37 = some (37, .aload_n 0, 1, 0, 0, 0, 0) from xlk (by decide +kernel)) rfl rfl ?_
      refine xw_getr (q := 98) (show xlook 124 38 = some (38, .getfield 45, 3, 11, 5, 0, 164) from xlk (by decide +kernel)) (by decide) (xobf xob_11 (by decide) (by decide)) rfl (xPT_get (k := 5) (f := 98) hG2 xob_11 (by decide)) (by have := (xtg_11_5 _ xob_11.1 xob_11.2).1; omega) (n := 41) rfl ?_
      refine xw_iload_n (n := 42) (show xlook 124 41 = some (41, .iload_n 1, 1, 0, 0, 0, 0) from xlk (by decide +kernel)) rfl rfl ?_
      obtain ⟨j4, hj4, rr4, G4, hm4, hG4, t⟩ := t
      obtain ⟨y4, rfl, t⟩ := t
      refine xw_callv (dk := j4) (o := 128) (as := [.ref (t3), .ref (98), vi (x1)]) (show xlook 124 42 = some (42, .invokevirtual 321, 3, 25, 4, 0, 146) from xlk (by decide +kernel)) (by decide) hj4 ⟨Nat.le_of_ble_eq_true rfl, Nat.le_of_ble_eq_true rfl, Nat.le_of_ble_eq_true rfl⟩ ⟨(xtg_11_7 _ xob_11.1 xob_11.2).1, (xtg_11_7 _ xob_11.1 xob_11.2).2, by decide⟩ rfl hm4 (n := 45) rfl ?_
      show xW X d 124 45 [.ref (0), vi (x1)] [vi (y4)] G4 (xqi Q)
      exact xw_ireturn hG4 (show xlook 124 45 = some (45, .ireturn, 1, 0, 0, 0, 0) from xlk (by decide +kernel)) rfl (t hG4)
    · replace t := t.2 c
      refine xw_bipush (n := 13) (show xlook 124 11 = some (11, .bipush (-3), 2, 0, 0, 0, 0) from xlk (by decide +kernel)) rfl (by decide) ?_
      exact xw_ireturn hPT (show xlook 124 13 = some (13, .ireturn, 1, 0, 0, 0, 0) from xlk (by decide +kernel)) rfl (t hPT)
theorem m124 {X : List Int32} {d : Nat} {F : XF} {Q : Int → XF → Prop} {x1 : Int} (hPT : xPT F)  (t : inR (x1) ∧ ((((x1) < (1)) → (xPT (F) → Q ((-3)) (F))) ∧ (¬ ((x1) < (1)) → (inR (x1) ∧ ((((x1) ≤ (50)) → (∃ t1 : Nat, (F) (0) 0 = (t1 : Int) ∧ xob 9 t1 ∧ (∃ (j2 : Nat), j2 < d ∧ xMV X j2 20 [.ref (98), .ref (t1), .ref (70)] (F) (fun (G2 : XF) => (∃ t3 : Nat, (G2) (0) 0 = (t3 : Int) ∧ xob 9 t3 ∧ (∃ (j4 : Nat), j4 < d ∧ xMI X j4 25 [.ref (128), .ref (t3), .ref (98), vi (x1)] (G2) (fun (y4 : Int) (G4 : XF) => (xPT (G4) → Q (y4) (G4))))))))) ∧ (¬ ((x1) ≤ (50)) → (xPT (F) → Q ((-3)) (F)))))))) : xMI X d 124 [.ref (0), vi (x1)] F Q := by
  show xW X d 124 0 [.ref (0), vi (x1)] [] F (xqi Q)
  exact s124_0 hPT  t

theorem s125_0 {X : List Int32} {d : Nat} {F : XF} {Q : Int → XF → Prop} {l1 : Int} {l3 : Int} {w5 : Value} {w6 : Value} {w7 : Value} {w8 : Value} (hPT : xPT F)  (t : inL (l1) ∧ inL (0) ∧ (inR (xcmp (l1) (0)) ∧ ((((xcmp (l1) (0)) < (0)) → (xPT (F) → Q ((-3)) (F))) ∧ (¬ ((xcmp (l1) (0)) < (0)) → (inL (l3) ∧ inL (0) ∧ (inR (xcmp (l3) (0)) ∧ ((((0) ≤ (xcmp (l3) (0))) → (∃ t1 : Nat, (F) (0) 0 = (t1 : Int) ∧ xob 9 t1 ∧ (∃ (j2 : Nat), j2 < d ∧ xMV X j2 20 [.ref (98), .ref (t1), .ref (70)] (F) (fun (G2 : XF) => (inR ((G2) (98) 1) ∧ (((¬ ((G2) (98) 1) = ((-1))) → (∃ (j3 : Nat), j3 < d ∧ xMI X j3 126 [vl (l1), vi ((G2) (98) 1)] (G2) (fun (y3 : Int) (G3 : XF) => (inR (y3) ∧ (((¬ (y3) = (0)) → (xPT (G3) → Q ((-6)) (G3))) ∧ (¬ (¬ (y3) = (0)) → (∃ (j4 : Nat), j4 < d ∧ xMI X j4 126 [vl (l3), vi ((G3) (98) 2)] (G3) (fun (y4 : Int) (G4 : XF) => (inR (y4) ∧ ((((y4) = (0)) → ((inR ((G4) (98) 1)) ∧ ((inR ((G4) (98) 2)) ∧ (inL ((l1) * ((G4) (98) 1)) ∧ inL ((9223372036854775807) - ((l3) * ((G4) (98) 2))) ∧ (inR (xcmp ((l1) * ((G4) (98) 1)) ((9223372036854775807) - ((l3) * ((G4) (98) 2)))) ∧ ((((xcmp ((l1) * ((G4) (98) 1)) ((9223372036854775807) - ((l3) * ((G4) (98) 2)))) ≤ (0)) → (xPT (G4) → Q (((l1) * ((G4) (98) 1)) + ((l3) * ((G4) (98) 2))) (G4))) ∧ (¬ ((xcmp ((l1) * ((G4) (98) 1)) ((9223372036854775807) - ((l3) * ((G4) (98) 2)))) ≤ (0)) → (xPT (G4) → Q ((-6)) (G4))))))))) ∧ (¬ ((y4) = (0)) → (xPT (G4) → Q ((-6)) (G4))))))))))))) ∧ (¬ (¬ ((G2) (98) 1) = ((-1))) → (xPT (G2) → Q ((-1)) (G2))))))))) ∧ (¬ ((0) ≤ (xcmp (l3) (0))) → (xPT (F) → Q ((-3)) (F)))))))))) : xW X d 125 0 [.ref (0), vl (l1), xU0, vl (l3), xU0, w5, w6, w7, w8] [] F (xql Q) := by
  refine xw_lload_n (n := 1) (show xlook 125 0 = some (0, .lload_n 1, 1, 0, 0, 0, 0) from xlk (by decide +kernel)) rfl rfl ?_
  refine xw_lconst (n := 2) (show xlook 125 1 = some (1, .lconst 0, 1, 0, 0, 0, 0) from xlk (by decide +kernel)) rfl (k := 0) (by decide) ?_
  obtain ⟨q1, q2, t⟩ := t
  refine xw_lcmp (n := 3) (show xlook 125 2 = some (2, .lcmp, 1, 0, 0, 0, 0) from xlk (by decide +kernel)) rfl q1 q2 ?_
  obtain ⟨q0, t⟩ := t
  refine xw_if_lt (n := 6) (m := 12) (show xlook 125 3 = some (3, .ifCond .lt 9, 3, 12, 0, 0, 0) from xlk (by decide +kernel)) rfl rfl q0 ⟨fun c => ?_, fun c => ?_⟩
  · replace t := t.1 c
    refine xw_ldc2 (n := 15) (show xlook 125 12 = some (12, .ldc2_w 325, 3, 0, 0, (-3), 0) from xlk (by decide +kernel)) rfl ?_
    exact xw_lreturn hPT (show xlook 125 15 = some (15, .lreturn, 1, 0, 0, 0, 0) from xlk (by decide +kernel)) rfl (t hPT)
  · replace t := t.2 c
    refine xw_lload_n (n := 7) (show xlook 125 6 = some (6, .lload_n 3, 1, 0, 0, 0, 0) from xlk (by decide +kernel)) rfl rfl ?_
    refine xw_lconst (n := 8) (show xlook 125 7 = some (7, .lconst 0, 1, 0, 0, 0, 0) from xlk (by decide +kernel)) rfl (k := 0) (by decide) ?_
    obtain ⟨q1, q2, t⟩ := t
    refine xw_lcmp (n := 9) (show xlook 125 8 = some (8, .lcmp, 1, 0, 0, 0, 0) from xlk (by decide +kernel)) rfl q1 q2 ?_
    obtain ⟨q0, t⟩ := t
    refine xw_if_ge (n := 12) (m := 16) (show xlook 125 9 = some (9, .ifCond .ge 7, 3, 16, 0, 0, 0) from xlk (by decide +kernel)) rfl rfl q0 ⟨fun c => ?_, fun c => ?_⟩
    · replace t := t.1 c
      refine xw_aload_n (n := 17) (show xlook 125 16 = some (16, .aload_n 0, 1, 0, 0, 0, 0) from xlk (by decide +kernel)) rfl rfl ?_
      refine xw_getr (q := 98) (show xlook 125 17 = some (17, .getfield 45, 3, 11, 5, 0, 164) from xlk (by decide +kernel)) (by decide) (xobf xob_11 (by decide) (by decide)) rfl (xPT_get (k := 5) (f := 98) hPT xob_11 (by decide)) (by have := (xtg_11_5 _ xob_11.1 xob_11.2).1; omega) (n := 20) rfl ?_
      refine xw_aload_n (n := 21) (show xlook 125 20 = some (20, .aload_n 0, 1, 0, 0, 0, 0) from xlk (by decide +kernel)) rfl rfl ?_
      obtain ⟨t1, q1, ht1, t⟩ := t
      refine xw_getr (q := t1) (show xlook 125 21 = some (21, .getfield 10, 3, 11, 0, 0, 159) from xlk (by decide +kernel)) (by decide) (xobf xob_11 (by decide) (by decide)) rfl q1 (by have := ht1.1; omega) (n := 24) rfl ?_
      refine xw_aload_n (n := 25) (show xlook 125 24 = some (24, .aload_n 0, 1, 0, 0, 0, 0) from xlk (by decide +kernel)) rfl rfl ?_
      refine xw_getr (q := 70) (show xlook 125 25 = some (25, .getfield 39, 3, 11, 4, 0, 163) from xlk (by decide +kernel)) (by decide) (xobf xob_11 (by decide) (by decide)) rfl (xPT_get (k := 4) (f := 70) hPT xob_11 (by decide)) (by have := (xtg_11_4 _ xob_11.1 xob_11.2).1; omega) (n := 28) rfl ?_
      obtain ⟨j2, hj2, rr2, G2, hm2, hG2, t⟩ := t
      obtain ⟨rfl, t⟩ := t
      refine xw_callv (dk := j2) (o := 98) (as := [.ref (t1), .ref (70)]) (show xlook 125 28 = some (28, .invokevirtual 264, 3, 20, 3, 0, 137) from xlk (by decide +kernel)) (by decide) hj2 ⟨Nat.le_of_ble_eq_true rfl, Nat.le_of_ble_eq_true rfl, Nat.le_of_ble_eq_true rfl⟩ ⟨(xtg_11_5 _ xob_11.1 xob_11.2).1, (xtg_11_5 _ xob_11.1 xob_11.2).2, by decide⟩ rfl hm2 (n := 31) rfl ?_
      show xW X d 125 31 [.ref (0), vl (l1), xU0, vl (l3), xU0, w5, w6, w7, w8] [] G2 (xql Q)
      refine xw_aload_n (n := 32) (show xlook 125 31 = some (31, .aload_n 0, 1, 0, 0, 0, 0) from xlk (by decide +kernel)) rfl rfl ?_
      refine xw_getr (q := 98) (show xlook 125 32 = some (32, .getfield 45, 3, 11, 5, 0, 164) from xlk (by decide +kernel)) (by decide) (xobf xob_11 (by decide) (by decide)) rfl (xPT_get (k := 5) (f := 98) hG2 xob_11 (by decide)) (by have := (xtg_11_5 _ xob_11.1 xob_11.2).1; omega) (n := 35) rfl ?_
      refine xw_geti (show xlook 125 35 = some (35, .getfield 268, 3, 3, 1, 0, 205) from xlk (by decide +kernel)) (by decide) (xobf (xtg_11_5 _ xob_11.1 xob_11.2) (by decide) (by decide)) rfl (n := 38) rfl ?_
      refine xw_iconst (n := 39) (show xlook 125 38 = some (38, .iconst (-1), 1, 0, 0, 0, 0) from xlk (by decide +kernel)) rfl ?_
      obtain ⟨q0, t⟩ := t
      refine xw_icmp_ne (n := 42) (m := 46) (show xlook 125 39 = some (39, .if_icmp .ne 7, 3, 46, 0, 0, 0) from xlk (by decide +kernel)) rfl rfl q0 ⟨by decide, by decide⟩ ⟨fun c => ?_, fun c => ?_⟩
      · replace t := t.1 c
        refine xw_lload_n (n := 47) (show xlook 125 46 = some (46, .lload_n 1, 1, 0, 0, 0, 0) from xlk (by decide +kernel)) rfl rfl ?_
        refine xw_aload_n (n := 48) (show xlook 125 47 = some (47, .aload_n 0, 1, 0, 0, 0, 0) from xlk (by decide +kernel)) rfl rfl ?_
        refine xw_getr (q := 98) (show xlook 125 48 = some (48, .getfield 45, 3, 11, 5, 0, 164) from xlk (by decide +kernel)) (by decide) (xobf xob_11 (by decide) (by decide)) rfl (xPT_get (k := 5) (f := 98) hG2 xob_11 (by decide)) (by have := (xtg_11_5 _ xob_11.1 xob_11.2).1; omega) (n := 51) rfl ?_
        refine xw_geti (show xlook 125 51 = some (51, .getfield 268, 3, 3, 1, 0, 205) from xlk (by decide +kernel)) (by decide) (xobf (xtg_11_5 _ xob_11.1 xob_11.2) (by decide) (by decide)) rfl (n := 54) rfl ?_
        obtain ⟨j3, hj3, rr3, G3, hm3, hG3, t⟩ := t
        obtain ⟨y3, rfl, t⟩ := t
        refine xw_calls (dk := j3) (as := [vl (l1), vi ((G2) (98) 1)]) (show xlook 125 54 = some (54, .invokestatic 329, 3, 126, 2, 0, 147) from xlk (by decide +kernel)) (by decide) hj3 ⟨Nat.le_of_ble_eq_true rfl, Nat.le_of_ble_eq_true rfl, Nat.le_of_ble_eq_true rfl, by decide⟩ rfl hm3 (n := 57) rfl ?_
        show xW X d 125 57 [.ref (0), vl (l1), xU0, vl (l3), xU0, w5, w6, w7, w8] [vi (y3)] G3 (xql Q)
        obtain ⟨q0, t⟩ := t
        refine xw_if_ne (n := 60) (m := 74) (show xlook 125 57 = some (57, .ifCond .ne 17, 3, 74, 0, 0, 0) from xlk (by decide +kernel)) rfl rfl q0 ⟨fun c => ?_, fun c => ?_⟩
        · replace t := t.1 c
          refine xw_ldc2 (n := 77) (show xlook 125 74 = some (74, .ldc2_w 334, 3, 0, 0, (-6), 2) from xlk (by decide +kernel)) rfl ?_
          exact xw_lreturn hG3 (show xlook 125 77 = some (77, .lreturn, 1, 0, 0, 0, 0) from xlk (by decide +kernel)) rfl (t hG3)
        · replace t := t.2 c
          refine xw_lload_n (n := 61) (show xlook 125 60 = some (60, .lload_n 3, 1, 0, 0, 0, 0) from xlk (by decide +kernel)) rfl rfl ?_
          refine xw_aload_n (n := 62) (show xlook 125 61 = some (61, .aload_n 0, 1, 0, 0, 0, 0) from xlk (by decide +kernel)) rfl rfl ?_
          refine xw_getr (q := 98) (show xlook 125 62 = some (62, .getfield 45, 3, 11, 5, 0, 164) from xlk (by decide +kernel)) (by decide) (xobf xob_11 (by decide) (by decide)) rfl (xPT_get (k := 5) (f := 98) hG3 xob_11 (by decide)) (by have := (xtg_11_5 _ xob_11.1 xob_11.2).1; omega) (n := 65) rfl ?_
          refine xw_geti (show xlook 125 65 = some (65, .getfield 333, 3, 3, 2, 0, 214) from xlk (by decide +kernel)) (by decide) (xobf (xtg_11_5 _ xob_11.1 xob_11.2) (by decide) (by decide)) rfl (n := 68) rfl ?_
          obtain ⟨j4, hj4, rr4, G4, hm4, hG4, t⟩ := t
          obtain ⟨y4, rfl, t⟩ := t
          refine xw_calls (dk := j4) (as := [vl (l3), vi ((G3) (98) 2)]) (show xlook 125 68 = some (68, .invokestatic 329, 3, 126, 2, 0, 147) from xlk (by decide +kernel)) (by decide) hj4 ⟨Nat.le_of_ble_eq_true rfl, Nat.le_of_ble_eq_true rfl, Nat.le_of_ble_eq_true rfl, by decide⟩ rfl hm4 (n := 71) rfl ?_
          show xW X d 125 71 [.ref (0), vl (l1), xU0, vl (l3), xU0, w5, w6, w7, w8] [vi (y4)] G4 (xql Q)
          obtain ⟨q0, t⟩ := t
          refine xw_if_eq (n := 74) (m := 78) (show xlook 125 71 = some (71, .ifCond .eq 7, 3, 78, 0, 0, 0) from xlk (by decide +kernel)) rfl rfl q0 ⟨fun c => ?_, fun c => ?_⟩
          · replace t := t.1 c
            refine xw_lload_n (n := 79) (show xlook 125 78 = some (78, .lload_n 1, 1, 0, 0, 0, 0) from xlk (by decide +kernel)) rfl rfl ?_
            refine xw_aload_n (n := 80) (show xlook 125 79 = some (79, .aload_n 0, 1, 0, 0, 0, 0) from xlk (by decide +kernel)) rfl rfl ?_
            refine xw_getr (q := 98) (show xlook 125 80 = some (80, .getfield 45, 3, 11, 5, 0, 164) from xlk (by decide +kernel)) (by decide) (xobf xob_11 (by decide) (by decide)) rfl (xPT_get (k := 5) (f := 98) hG4 xob_11 (by decide)) (by have := (xtg_11_5 _ xob_11.1 xob_11.2).1; omega) (n := 83) rfl ?_
            refine xw_geti (show xlook 125 83 = some (83, .getfield 268, 3, 3, 1, 0, 205) from xlk (by decide +kernel)) (by decide) (xobf (xtg_11_5 _ xob_11.1 xob_11.2) (by decide) (by decide)) rfl (n := 86) rfl ?_
            obtain ⟨q1, t⟩ := t
            refine xw_i2l (n := 87) (show xlook 125 86 = some (86, .i2l, 1, 0, 0, 0, 0) from xlk (by decide +kernel)) rfl q1 ?_
            refine xw_lmul (n := 88) (show xlook 125 87 = some (87, .lmul, 1, 0, 0, 0, 0) from xlk (by decide +kernel)) rfl ?_
            refine xw_lstore (n := 90) (show xlook 125 88 = some (88, .lstore 5, 2, 0, 0, 0, 0) from xlk (by decide +kernel)) rfl (ls' := [.ref (0), vl (l1), xU0, vl (l3), xU0, vl ((l1) * ((G4) (98) 1)), xU0, w7, w8]) (Nat.le_of_ble_eq_true rfl) rfl ?_
            refine xw_lload_n (n := 91) (show xlook 125 90 = some (90, .lload_n 3, 1, 0, 0, 0, 0) from xlk (by decide +kernel)) rfl rfl ?_
            refine xw_aload_n (n := 92) (show xlook 125 91 = some (91, .aload_n 0, 1, 0, 0, 0, 0) from xlk (by decide +kernel)) rfl rfl ?_
            refine xw_getr (q := 98) (show xlook 125 92 = some (92, .getfield 45, 3, 11, 5, 0, 164) from xlk (by decide +kernel)) (by decide) (xobf xob_11 (by decide) (by decide)) rfl (xPT_get (k := 5) (f := 98) hG4 xob_11 (by decide)) (by have := (xtg_11_5 _ xob_11.1 xob_11.2).1; omega) (n := 95) rfl ?_
            refine xw_geti (show xlook 125 95 = some (95, .getfield 333, 3, 3, 2, 0, 214) from xlk (by decide +kernel)) (by decide) (xobf (xtg_11_5 _ xob_11.1 xob_11.2) (by decide) (by decide)) rfl (n := 98) rfl ?_
            obtain ⟨q1, t⟩ := t
            refine xw_i2l (n := 99) (show xlook 125 98 = some (98, .i2l, 1, 0, 0, 0, 0) from xlk (by decide +kernel)) rfl q1 ?_
            refine xw_lmul (n := 100) (show xlook 125 99 = some (99, .lmul, 1, 0, 0, 0, 0) from xlk (by decide +kernel)) rfl ?_
            refine xw_lstore (n := 102) (show xlook 125 100 = some (100, .lstore 7, 2, 0, 0, 0, 0) from xlk (by decide +kernel)) rfl (ls' := [.ref (0), vl (l1), xU0, vl (l3), xU0, vl ((l1) * ((G4) (98) 1)), xU0, vl ((l3) * ((G4) (98) 2)), xU0]) (Nat.le_of_ble_eq_true rfl) rfl ?_
            refine xw_lload (n := 104) (show xlook 125 102 = some (102, .lload 5, 2, 0, 0, 0, 0) from xlk (by decide +kernel)) rfl rfl ?_
            refine xw_ldc2 (n := 107) (show xlook 125 104 = some (104, .ldc2_w 336, 3, 0, 0, 9223372036854775807, 3) from xlk (by decide +kernel)) rfl ?_
            refine xw_lload (n := 109) (show xlook 125 107 = some (107, .lload 7, 2, 0, 0, 0, 0) from xlk (by decide +kernel)) rfl rfl ?_
            refine xw_lsub (n := 110) (show xlook 125 109 = some (109, .lsub, 1, 0, 0, 0, 0) from xlk (by decide +kernel)) rfl ?_
            obtain ⟨q1, q2, t⟩ := t
            refine xw_lcmp (n := 111) (show xlook 125 110 = some (110, .lcmp, 1, 0, 0, 0, 0) from xlk (by decide +kernel)) rfl q1 q2 ?_
            obtain ⟨q0, t⟩ := t
            refine xw_if_le (n := 114) (m := 120) (show xlook 125 111 = some (111, .ifCond .le 9, 3, 120, 0, 0, 0) from xlk (by decide +kernel)) rfl rfl q0 ⟨fun c => ?_, fun c => ?_⟩
            · replace t := t.1 c
              refine xw_lload (n := 122) (show xlook 125 120 = some (120, .lload 5, 2, 0, 0, 0, 0) from xlk (by decide +kernel)) rfl rfl ?_
              refine xw_lload (n := 124) (show xlook 125 122 = some (122, .lload 7, 2, 0, 0, 0, 0) from xlk (by decide +kernel)) rfl rfl ?_
              refine xw_ladd (n := 125) (show xlook 125 124 = some (124, .ladd, 1, 0, 0, 0, 0) from xlk (by decide +kernel)) rfl ?_
              exact xw_lreturn hG4 (show xlook 125 125 = some (125, .lreturn, 1, 0, 0, 0, 0) from xlk (by decide +kernel)) rfl (t hG4)
            · replace t := t.2 c
              refine xw_ldc2 (n := 117) (show xlook 125 114 = some (114, .ldc2_w 334, 3, 0, 0, (-6), 2) from xlk (by decide +kernel)) rfl ?_
              refine xw_goto (m := 125) (show xlook 125 117 = some (117, .goto 8, 3, 125, 0, 0, 0) from xlk (by decide +kernel)) rfl ?_
              exact xw_lreturn hG4 (show xlook 125 125 = some (125, .lreturn, 1, 0, 0, 0, 0) from xlk (by decide +kernel)) rfl (t hG4)
          · replace t := t.2 c
            refine xw_ldc2 (n := 77) (show xlook 125 74 = some (74, .ldc2_w 334, 3, 0, 0, (-6), 2) from xlk (by decide +kernel)) rfl ?_
            exact xw_lreturn hG4 (show xlook 125 77 = some (77, .lreturn, 1, 0, 0, 0, 0) from xlk (by decide +kernel)) rfl (t hG4)
      · replace t := t.2 c
        refine xw_ldc2 (n := 45) (show xlook 125 42 = some (42, .ldc2_w 327, 3, 0, 0, (-1), 1) from xlk (by decide +kernel)) rfl ?_
        exact xw_lreturn hG2 (show xlook 125 45 = some (45, .lreturn, 1, 0, 0, 0, 0) from xlk (by decide +kernel)) rfl (t hG2)
    · replace t := t.2 c
      refine xw_ldc2 (n := 15) (show xlook 125 12 = some (12, .ldc2_w 325, 3, 0, 0, (-3), 0) from xlk (by decide +kernel)) rfl ?_
      exact xw_lreturn hPT (show xlook 125 15 = some (15, .lreturn, 1, 0, 0, 0, 0) from xlk (by decide +kernel)) rfl (t hPT)
theorem m125 {X : List Int32} {d : Nat} {F : XF} {Q : Int → XF → Prop} {l1 : Int} {l3 : Int} (hPT : xPT F)  (t : inL (l1) ∧ inL (0) ∧ (inR (xcmp (l1) (0)) ∧ ((((xcmp (l1) (0)) < (0)) → (xPT (F) → Q ((-3)) (F))) ∧ (¬ ((xcmp (l1) (0)) < (0)) → (inL (l3) ∧ inL (0) ∧ (inR (xcmp (l3) (0)) ∧ ((((0) ≤ (xcmp (l3) (0))) → (∃ t1 : Nat, (F) (0) 0 = (t1 : Int) ∧ xob 9 t1 ∧ (∃ (j2 : Nat), j2 < d ∧ xMV X j2 20 [.ref (98), .ref (t1), .ref (70)] (F) (fun (G2 : XF) => (inR ((G2) (98) 1) ∧ (((¬ ((G2) (98) 1) = ((-1))) → (∃ (j3 : Nat), j3 < d ∧ xMI X j3 126 [vl (l1), vi ((G2) (98) 1)] (G2) (fun (y3 : Int) (G3 : XF) => (inR (y3) ∧ (((¬ (y3) = (0)) → (xPT (G3) → Q ((-6)) (G3))) ∧ (¬ (¬ (y3) = (0)) → (∃ (j4 : Nat), j4 < d ∧ xMI X j4 126 [vl (l3), vi ((G3) (98) 2)] (G3) (fun (y4 : Int) (G4 : XF) => (inR (y4) ∧ ((((y4) = (0)) → ((inR ((G4) (98) 1)) ∧ ((inR ((G4) (98) 2)) ∧ (inL ((l1) * ((G4) (98) 1)) ∧ inL ((9223372036854775807) - ((l3) * ((G4) (98) 2))) ∧ (inR (xcmp ((l1) * ((G4) (98) 1)) ((9223372036854775807) - ((l3) * ((G4) (98) 2)))) ∧ ((((xcmp ((l1) * ((G4) (98) 1)) ((9223372036854775807) - ((l3) * ((G4) (98) 2)))) ≤ (0)) → (xPT (G4) → Q (((l1) * ((G4) (98) 1)) + ((l3) * ((G4) (98) 2))) (G4))) ∧ (¬ ((xcmp ((l1) * ((G4) (98) 1)) ((9223372036854775807) - ((l3) * ((G4) (98) 2)))) ≤ (0)) → (xPT (G4) → Q ((-6)) (G4))))))))) ∧ (¬ ((y4) = (0)) → (xPT (G4) → Q ((-6)) (G4))))))))))))) ∧ (¬ (¬ ((G2) (98) 1) = ((-1))) → (xPT (G2) → Q ((-1)) (G2))))))))) ∧ (¬ ((0) ≤ (xcmp (l3) (0))) → (xPT (F) → Q ((-3)) (F)))))))))) : xML X d 125 [.ref (0), vl (l1), vl (l3)] F Q := by
  show xW X d 125 0 [.ref (0), vl (l1), xU0, vl (l3), xU0, xU0, xU0, xU0, xU0] [] F (xql Q)
  exact s125_0 hPT  t

theorem s126_0 {X : List Int32} {d : Nat} {F : XF} {Q : Int → XF → Prop} {l0 : Int} {x2 : Int} (hPT : xPT F)  (t : inR (x2) ∧ ((((x2) ≤ (0)) → (xPT (F) → Q (0) (F))) ∧ (¬ ((x2) ≤ (0)) → ((inR (x2)) ∧ ((0 ≤ (9223372036854775807 : Int) ∧ (9223372036854775807 : Int) ≤ 9223372036854775807) ∧ (0 < (x2 : Int) ∧ (x2 : Int) ≤ 9223372036854775807) ∧ (inL (l0) ∧ inL ((9223372036854775807) / (x2)) ∧ (inR (xcmp (l0) ((9223372036854775807) / (x2))) ∧ ((((xcmp (l0) ((9223372036854775807) / (x2))) ≤ (0)) → (xPT (F) → Q (0) (F))) ∧ (¬ ((xcmp (l0) ((9223372036854775807) / (x2))) ≤ (0)) → (xPT (F) → Q (1) (F))))))))))) : xW X d 126 0 [vl (l0), xU0, vi (x2)] [] F (xqi Q) := by
  refine xw_iload_n (n := 1) (show xlook 126 0 = some (0, .iload_n 2, 1, 0, 0, 0, 0) from xlk (by decide +kernel)) rfl rfl ?_
  obtain ⟨q0, t⟩ := t
  refine xw_if_le (n := 4) (m := 19) (show xlook 126 1 = some (1, .ifCond .le 18, 3, 19, 0, 0, 0) from xlk (by decide +kernel)) rfl rfl q0 ⟨fun c => ?_, fun c => ?_⟩
  · replace t := t.1 c
    refine xw_iconst (n := 20) (show xlook 126 19 = some (19, .iconst 0, 1, 0, 0, 0, 0) from xlk (by decide +kernel)) rfl ?_
    exact xw_zreturn hPT (show xlook 126 20 = some (20, .ireturn, 1, 0, 0, 0, 0) from xlk (by decide +kernel)) rfl (by decide) (t hPT)
  · replace t := t.2 c
    refine xw_lload_n (n := 5) (show xlook 126 4 = some (4, .lload_n 0, 1, 0, 0, 0, 0) from xlk (by decide +kernel)) rfl rfl ?_
    refine xw_ldc2 (n := 8) (show xlook 126 5 = some (5, .ldc2_w 336, 3, 0, 0, 9223372036854775807, 3) from xlk (by decide +kernel)) rfl ?_
    refine xw_iload_n (n := 9) (show xlook 126 8 = some (8, .iload_n 2, 1, 0, 0, 0, 0) from xlk (by decide +kernel)) rfl rfl ?_
    obtain ⟨q1, t⟩ := t
    refine xw_i2l (n := 10) (show xlook 126 9 = some (9, .i2l, 1, 0, 0, 0, 0) from xlk (by decide +kernel)) rfl q1 ?_
    obtain ⟨q1, q2, t⟩ := t
    refine xw_ldiv (n := 11) (show xlook 126 10 = some (10, .ldiv, 1, 0, 0, 0, 0) from xlk (by decide +kernel)) rfl q1 q2 ?_
    obtain ⟨q1, q2, t⟩ := t
    refine xw_lcmp (n := 12) (show xlook 126 11 = some (11, .lcmp, 1, 0, 0, 0, 0) from xlk (by decide +kernel)) rfl q1 q2 ?_
    obtain ⟨q0, t⟩ := t
    refine xw_if_le (n := 15) (m := 19) (show xlook 126 12 = some (12, .ifCond .le 7, 3, 19, 0, 0, 0) from xlk (by decide +kernel)) rfl rfl q0 ⟨fun c => ?_, fun c => ?_⟩
    · replace t := t.1 c
      refine xw_iconst (n := 20) (show xlook 126 19 = some (19, .iconst 0, 1, 0, 0, 0, 0) from xlk (by decide +kernel)) rfl ?_
      exact xw_zreturn hPT (show xlook 126 20 = some (20, .ireturn, 1, 0, 0, 0, 0) from xlk (by decide +kernel)) rfl (by decide) (t hPT)
    · replace t := t.2 c
      refine xw_iconst (n := 16) (show xlook 126 15 = some (15, .iconst 1, 1, 0, 0, 0, 0) from xlk (by decide +kernel)) rfl ?_
      refine xw_goto (m := 20) (show xlook 126 16 = some (16, .goto 4, 3, 20, 0, 0, 0) from xlk (by decide +kernel)) rfl ?_
      exact xw_zreturn hPT (show xlook 126 20 = some (20, .ireturn, 1, 0, 0, 0, 0) from xlk (by decide +kernel)) rfl (by decide) (t hPT)
theorem m126 {X : List Int32} {d : Nat} {F : XF} {Q : Int → XF → Prop} {l0 : Int} {x2 : Int} (hPT : xPT F)  (t : inR (x2) ∧ ((((x2) ≤ (0)) → (xPT (F) → Q (0) (F))) ∧ (¬ ((x2) ≤ (0)) → ((inR (x2)) ∧ ((0 ≤ (9223372036854775807 : Int) ∧ (9223372036854775807 : Int) ≤ 9223372036854775807) ∧ (0 < (x2 : Int) ∧ (x2 : Int) ≤ 9223372036854775807) ∧ (inL (l0) ∧ inL ((9223372036854775807) / (x2)) ∧ (inR (xcmp (l0) ((9223372036854775807) / (x2))) ∧ ((((xcmp (l0) ((9223372036854775807) / (x2))) ≤ (0)) → (xPT (F) → Q (0) (F))) ∧ (¬ ((xcmp (l0) ((9223372036854775807) / (x2))) ≤ (0)) → (xPT (F) → Q (1) (F))))))))))) : xMI X d 126 [vl (l0), vi (x2)] F Q := by
  show xW X d 126 0 [vl (l0), xU0, vi (x2)] [] F (xqi Q)
  exact s126_0 hPT  t

theorem s127_0 {X : List Int32} {d : Nat} {F : XF} {Q : Int → XF → Prop} {x1 : Int} (hPT : xPT F)  (t : inR (x1) ∧ ((x1 < 0 ∨ 13 < x1) → (xPT (F) → Q ((-1)) (F))) ∧ (((x1) = 0) → (∃ t1 : Nat, (F) (0) 0 = (t1 : Int) ∧ xob 9 t1 ∧ (xPT (F) → Q ((F) (t1) 0) (F)))) ∧ (((x1) = 1) → (∃ t2 : Nat, (F) (0) 0 = (t2 : Int) ∧ xob 9 t2 ∧ (xPT (F) → Q ((F) (t2) 1) (F)))) ∧ (((x1) = 2) → (∃ t3 : Nat, (F) (0) 0 = (t3 : Int) ∧ xob 9 t3 ∧ (xPT (F) → Q ((F) (t3) 2) (F)))) ∧ (((x1) = 3) → (∃ t4 : Nat, (F) (0) 0 = (t4 : Int) ∧ xob 9 t4 ∧ (xPT (F) → Q ((F) (t4) 3) (F)))) ∧ (((x1) = 4) → (∃ t5 : Nat, (F) (0) 0 = (t5 : Int) ∧ xob 9 t5 ∧ (xPT (F) → Q ((F) (t5) 4) (F)))) ∧ (((x1) = 5) → (∃ t6 : Nat, (F) (0) 0 = (t6 : Int) ∧ xob 9 t6 ∧ (xPT (F) → Q ((F) (t6) 6) (F)))) ∧ (((x1) = 6) → (xPT (F) → Q ((F) (43) 0) (F))) ∧ (((x1) = 7) → (∃ t7 : Nat, (F) (0) 0 = (t7 : Int) ∧ xob 9 t7 ∧ (xPT (F) → Q ((F) (t7) 9) (F)))) ∧ (((x1) = 8) → (∃ t8 : Nat, (F) (0) 0 = (t8 : Int) ∧ xob 9 t8 ∧ (xPT (F) → Q ((F) (t8) 11) (F)))) ∧ (((x1) = 9) → (xPT (F) → Q ((F) (42) 2) (F))) ∧ (((x1) = 10) → (xPT (F) → Q ((F) (42) 3) (F))) ∧ (((x1) = 11) → (xPT (F) → Q ((F) (55) 0) (F))) ∧ (((x1) = 12) → (xPT (F) → Q ((F) (37) 0) (F))) ∧ (((x1) = 13) → (xPT (F) → Q ((F) (18) 0) (F)))) : xW X d 127 0 [.ref (0), vi (x1)] [] F (xqi Q) := by
  refine xw_iload_n (n := 1) (show xlook 127 0 = some (0, .iload_n 1, 1, 0, 0, 0, 0) from xlk (by decide +kernel)) rfl rfl ?_
  obtain ⟨q1, td, u0, u1, u2, u3, u4, u5, u6, u7, u8, u9, u10, u11, u12, u13⟩ := t
  by_cases hq : (x1 < 0 ∨ 13 < x1)
  · replace t := td hq
    refine xw_tabOut (t := 190) (show xlook 127 1 = some (1, .tableswitch 189 0 13 #[71, 79, 87, 95, 103, 111, 119, 130, 138, 146, 154, 162, 173, 181], 71, 0, 0, 0, 0) from xlk (by decide +kernel)) q1 hq rfl ?_
    refine xw_iconst (n := 191) (show xlook 127 190 = some (190, .iconst (-1), 1, 0, 0, 0, 0) from xlk (by decide +kernel)) rfl ?_
    exact xw_ireturn hPT (show xlook 127 191 = some (191, .ireturn, 1, 0, 0, 0, 0) from xlk (by decide +kernel)) rfl (t hPT)
  rcases (show (x1) = 0 ∨ (x1) = 1 ∨ (x1) = 2 ∨ (x1) = 3 ∨ (x1) = 4 ∨ (x1) = 5 ∨ (x1) = 6 ∨ (x1) = 7 ∨ (x1) = 8 ∨ (x1) = 9 ∨ (x1) = 10 ∨ (x1) = 11 ∨ (x1) = 12 ∨ (x1) = 13 by omega) with e | e | e | e | e | e | e | e | e | e | e | e | e | e
  · replace t := u0 e
    refine xw_tabIn (off := 71) (t := 72) (show xlook 127 1 = some (1, .tableswitch 189 0 13 #[71, 79, 87, 95, 103, 111, 119, 130, 138, 146, 154, 162, 173, 181], 71, 0, 0, 0, 0) from xlk (by decide +kernel)) q1 hq (by show (#[71, 79, 87, 95, 103, 111, 119, 130, 138, 146, 154, 162, 173, 181] : Array Int)[((x1 : Int) - (0)).toNat]? = some (71); rw [e]; rfl) rfl ?_
    refine xw_aload_n (n := 73) (show xlook 127 72 = some (72, .aload_n 0, 1, 0, 0, 0, 0) from xlk (by decide +kernel)) rfl rfl ?_
    obtain ⟨t1, q1, ht1, t⟩ := t
    refine xw_getr (q := t1) (show xlook 127 73 = some (73, .getfield 10, 3, 11, 0, 0, 159) from xlk (by decide +kernel)) (by decide) (xobf xob_11 (by decide) (by decide)) rfl q1 (by have := ht1.1; omega) (n := 76) rfl ?_
    refine xw_geti (show xlook 127 76 = some (76, .getfield 338, 3, 9, 0, 0, 215) from xlk (by decide +kernel)) (by decide) (xobf ht1 (by decide) (by decide)) rfl (n := 79) rfl ?_
    exact xw_ireturn hPT (show xlook 127 79 = some (79, .ireturn, 1, 0, 0, 0, 0) from xlk (by decide +kernel)) rfl (t hPT)
  · replace t := u1 e
    refine xw_tabIn (off := 79) (t := 80) (show xlook 127 1 = some (1, .tableswitch 189 0 13 #[71, 79, 87, 95, 103, 111, 119, 130, 138, 146, 154, 162, 173, 181], 71, 0, 0, 0, 0) from xlk (by decide +kernel)) q1 hq (by show (#[71, 79, 87, 95, 103, 111, 119, 130, 138, 146, 154, 162, 173, 181] : Array Int)[((x1 : Int) - (0)).toNat]? = some (79); rw [e]; rfl) rfl ?_
    refine xw_aload_n (n := 81) (show xlook 127 80 = some (80, .aload_n 0, 1, 0, 0, 0, 0) from xlk (by decide +kernel)) rfl rfl ?_
    obtain ⟨t2, q1, ht2, t⟩ := t
    refine xw_getr (q := t2) (show xlook 127 81 = some (81, .getfield 10, 3, 11, 0, 0, 159) from xlk (by decide +kernel)) (by decide) (xobf xob_11 (by decide) (by decide)) rfl q1 (by have := ht2.1; omega) (n := 84) rfl ?_
    refine xw_geti (show xlook 127 84 = some (84, .getfield 341, 3, 9, 1, 0, 216) from xlk (by decide +kernel)) (by decide) (xobf ht2 (by decide) (by decide)) rfl (n := 87) rfl ?_
    exact xw_ireturn hPT (show xlook 127 87 = some (87, .ireturn, 1, 0, 0, 0, 0) from xlk (by decide +kernel)) rfl (t hPT)
  · replace t := u2 e
    refine xw_tabIn (off := 87) (t := 88) (show xlook 127 1 = some (1, .tableswitch 189 0 13 #[71, 79, 87, 95, 103, 111, 119, 130, 138, 146, 154, 162, 173, 181], 71, 0, 0, 0, 0) from xlk (by decide +kernel)) q1 hq (by show (#[71, 79, 87, 95, 103, 111, 119, 130, 138, 146, 154, 162, 173, 181] : Array Int)[((x1 : Int) - (0)).toNat]? = some (87); rw [e]; rfl) rfl ?_
    refine xw_aload_n (n := 89) (show xlook 127 88 = some (88, .aload_n 0, 1, 0, 0, 0, 0) from xlk (by decide +kernel)) rfl rfl ?_
    obtain ⟨t3, q1, ht3, t⟩ := t
    refine xw_getr (q := t3) (show xlook 127 89 = some (89, .getfield 10, 3, 11, 0, 0, 159) from xlk (by decide +kernel)) (by decide) (xobf xob_11 (by decide) (by decide)) rfl q1 (by have := ht3.1; omega) (n := 92) rfl ?_
    refine xw_geti (show xlook 127 92 = some (92, .getfield 344, 3, 9, 2, 0, 217) from xlk (by decide +kernel)) (by decide) (xobf ht3 (by decide) (by decide)) rfl (n := 95) rfl ?_
    exact xw_ireturn hPT (show xlook 127 95 = some (95, .ireturn, 1, 0, 0, 0, 0) from xlk (by decide +kernel)) rfl (t hPT)
  · replace t := u3 e
    refine xw_tabIn (off := 95) (t := 96) (show xlook 127 1 = some (1, .tableswitch 189 0 13 #[71, 79, 87, 95, 103, 111, 119, 130, 138, 146, 154, 162, 173, 181], 71, 0, 0, 0, 0) from xlk (by decide +kernel)) q1 hq (by show (#[71, 79, 87, 95, 103, 111, 119, 130, 138, 146, 154, 162, 173, 181] : Array Int)[((x1 : Int) - (0)).toNat]? = some (95); rw [e]; rfl) rfl ?_
    refine xw_aload_n (n := 97) (show xlook 127 96 = some (96, .aload_n 0, 1, 0, 0, 0, 0) from xlk (by decide +kernel)) rfl rfl ?_
    obtain ⟨t4, q1, ht4, t⟩ := t
    refine xw_getr (q := t4) (show xlook 127 97 = some (97, .getfield 10, 3, 11, 0, 0, 159) from xlk (by decide +kernel)) (by decide) (xobf xob_11 (by decide) (by decide)) rfl q1 (by have := ht4.1; omega) (n := 100) rfl ?_
    refine xw_geti (show xlook 127 100 = some (100, .getfield 118, 3, 9, 3, 0, 175) from xlk (by decide +kernel)) (by decide) (xobf ht4 (by decide) (by decide)) rfl (n := 103) rfl ?_
    exact xw_ireturn hPT (show xlook 127 103 = some (103, .ireturn, 1, 0, 0, 0, 0) from xlk (by decide +kernel)) rfl (t hPT)
  · replace t := u4 e
    refine xw_tabIn (off := 103) (t := 104) (show xlook 127 1 = some (1, .tableswitch 189 0 13 #[71, 79, 87, 95, 103, 111, 119, 130, 138, 146, 154, 162, 173, 181], 71, 0, 0, 0, 0) from xlk (by decide +kernel)) q1 hq (by show (#[71, 79, 87, 95, 103, 111, 119, 130, 138, 146, 154, 162, 173, 181] : Array Int)[((x1 : Int) - (0)).toNat]? = some (103); rw [e]; rfl) rfl ?_
    refine xw_aload_n (n := 105) (show xlook 127 104 = some (104, .aload_n 0, 1, 0, 0, 0, 0) from xlk (by decide +kernel)) rfl rfl ?_
    obtain ⟨t5, q1, ht5, t⟩ := t
    refine xw_getr (q := t5) (show xlook 127 105 = some (105, .getfield 10, 3, 11, 0, 0, 159) from xlk (by decide +kernel)) (by decide) (xobf xob_11 (by decide) (by decide)) rfl q1 (by have := ht5.1; omega) (n := 108) rfl ?_
    refine xw_geti (show xlook 127 108 = some (108, .getfield 347, 3, 9, 4, 0, 218) from xlk (by decide +kernel)) (by decide) (xobf ht5 (by decide) (by decide)) rfl (n := 111) rfl ?_
    exact xw_ireturn hPT (show xlook 127 111 = some (111, .ireturn, 1, 0, 0, 0, 0) from xlk (by decide +kernel)) rfl (t hPT)
  · replace t := u5 e
    refine xw_tabIn (off := 111) (t := 112) (show xlook 127 1 = some (1, .tableswitch 189 0 13 #[71, 79, 87, 95, 103, 111, 119, 130, 138, 146, 154, 162, 173, 181], 71, 0, 0, 0, 0) from xlk (by decide +kernel)) q1 hq (by show (#[71, 79, 87, 95, 103, 111, 119, 130, 138, 146, 154, 162, 173, 181] : Array Int)[((x1 : Int) - (0)).toNat]? = some (111); rw [e]; rfl) rfl ?_
    refine xw_aload_n (n := 113) (show xlook 127 112 = some (112, .aload_n 0, 1, 0, 0, 0, 0) from xlk (by decide +kernel)) rfl rfl ?_
    obtain ⟨t6, q1, ht6, t⟩ := t
    refine xw_getr (q := t6) (show xlook 127 113 = some (113, .getfield 10, 3, 11, 0, 0, 159) from xlk (by decide +kernel)) (by decide) (xobf xob_11 (by decide) (by decide)) rfl q1 (by have := ht6.1; omega) (n := 116) rfl ?_
    refine xw_geti (show xlook 127 116 = some (116, .getfield 99, 3, 9, 6, 0, 171) from xlk (by decide +kernel)) (by decide) (xobf ht6 (by decide) (by decide)) rfl (n := 119) rfl ?_
    exact xw_ireturn hPT (show xlook 127 119 = some (119, .ireturn, 1, 0, 0, 0, 0) from xlk (by decide +kernel)) rfl (t hPT)
  · replace t := u6 e
    refine xw_tabIn (off := 119) (t := 120) (show xlook 127 1 = some (1, .tableswitch 189 0 13 #[71, 79, 87, 95, 103, 111, 119, 130, 138, 146, 154, 162, 173, 181], 71, 0, 0, 0, 0) from xlk (by decide +kernel)) q1 hq (by show (#[71, 79, 87, 95, 103, 111, 119, 130, 138, 146, 154, 162, 173, 181] : Array Int)[((x1 : Int) - (0)).toNat]? = some (119); rw [e]; rfl) rfl ?_
    refine xw_aload_n (n := 121) (show xlook 127 120 = some (120, .aload_n 0, 1, 0, 0, 0, 0) from xlk (by decide +kernel)) rfl rfl ?_
    refine xw_getr (q := 42) (show xlook 127 121 = some (121, .getfield 35, 3, 11, 3, 0, 162) from xlk (by decide +kernel)) (by decide) (xobf xob_11 (by decide) (by decide)) rfl (xPT_get (k := 3) (f := 42) hPT xob_11 (by decide)) (by have := (xtg_11_3 _ xob_11.1 xob_11.2).1; omega) (n := 124) rfl ?_
    refine xw_getr (q := 43) (show xlook 127 124 = some (124, .getfield 109, 3, 6, 1, 0, 173) from xlk (by decide +kernel)) (by decide) (xobf (xtg_11_3 _ xob_11.1 xob_11.2) (by decide) (by decide)) rfl (xPT_get (k := 1) (f := 1) hPT (xtg_11_3 _ xob_11.1 xob_11.2) (by decide)) (by have := (xtg_6_1 _ (xtg_11_3 _ xob_11.1 xob_11.2).1 (xtg_11_3 _ xob_11.1 xob_11.2).2).1; omega) (n := 127) rfl ?_
    refine xw_geti (show xlook 127 127 = some (127, .getfield 113, 3, 7, 0, 0, 174) from xlk (by decide +kernel)) (by decide) (xobf (xtg_6_1 _ (xtg_11_3 _ xob_11.1 xob_11.2).1 (xtg_11_3 _ xob_11.1 xob_11.2).2) (by decide) (by decide)) rfl (n := 130) rfl ?_
    exact xw_ireturn hPT (show xlook 127 130 = some (130, .ireturn, 1, 0, 0, 0, 0) from xlk (by decide +kernel)) rfl (t hPT)
  · replace t := u7 e
    refine xw_tabIn (off := 130) (t := 131) (show xlook 127 1 = some (1, .tableswitch 189 0 13 #[71, 79, 87, 95, 103, 111, 119, 130, 138, 146, 154, 162, 173, 181], 71, 0, 0, 0, 0) from xlk (by decide +kernel)) q1 hq (by show (#[71, 79, 87, 95, 103, 111, 119, 130, 138, 146, 154, 162, 173, 181] : Array Int)[((x1 : Int) - (0)).toNat]? = some (130); rw [e]; rfl) rfl ?_
    refine xw_aload_n (n := 132) (show xlook 127 131 = some (131, .aload_n 0, 1, 0, 0, 0, 0) from xlk (by decide +kernel)) rfl rfl ?_
    obtain ⟨t7, q1, ht7, t⟩ := t
    refine xw_getr (q := t7) (show xlook 127 132 = some (132, .getfield 10, 3, 11, 0, 0, 159) from xlk (by decide +kernel)) (by decide) (xobf xob_11 (by decide) (by decide)) rfl q1 (by have := ht7.1; omega) (n := 135) rfl ?_
    refine xw_geti (show xlook 127 135 = some (135, .getfield 350, 3, 9, 9, 0, 219) from xlk (by decide +kernel)) (by decide) (xobf ht7 (by decide) (by decide)) rfl (n := 138) rfl ?_
    exact xw_ireturn hPT (show xlook 127 138 = some (138, .ireturn, 1, 0, 0, 0, 0) from xlk (by decide +kernel)) rfl (t hPT)
  · replace t := u8 e
    refine xw_tabIn (off := 138) (t := 139) (show xlook 127 1 = some (1, .tableswitch 189 0 13 #[71, 79, 87, 95, 103, 111, 119, 130, 138, 146, 154, 162, 173, 181], 71, 0, 0, 0, 0) from xlk (by decide +kernel)) q1 hq (by show (#[71, 79, 87, 95, 103, 111, 119, 130, 138, 146, 154, 162, 173, 181] : Array Int)[((x1 : Int) - (0)).toNat]? = some (138); rw [e]; rfl) rfl ?_
    refine xw_aload_n (n := 140) (show xlook 127 139 = some (139, .aload_n 0, 1, 0, 0, 0, 0) from xlk (by decide +kernel)) rfl rfl ?_
    obtain ⟨t8, q1, ht8, t⟩ := t
    refine xw_getr (q := t8) (show xlook 127 140 = some (140, .getfield 10, 3, 11, 0, 0, 159) from xlk (by decide +kernel)) (by decide) (xobf xob_11 (by decide) (by decide)) rfl q1 (by have := ht8.1; omega) (n := 143) rfl ?_
    refine xw_geti (show xlook 127 143 = some (143, .getfield 128, 3, 9, 11, 0, 176) from xlk (by decide +kernel)) (by decide) (xobf ht8 (by decide) (by decide)) rfl (n := 146) rfl ?_
    exact xw_ireturn hPT (show xlook 127 146 = some (146, .ireturn, 1, 0, 0, 0, 0) from xlk (by decide +kernel)) rfl (t hPT)
  · replace t := u9 e
    refine xw_tabIn (off := 146) (t := 147) (show xlook 127 1 = some (1, .tableswitch 189 0 13 #[71, 79, 87, 95, 103, 111, 119, 130, 138, 146, 154, 162, 173, 181], 71, 0, 0, 0, 0) from xlk (by decide +kernel)) q1 hq (by show (#[71, 79, 87, 95, 103, 111, 119, 130, 138, 146, 154, 162, 173, 181] : Array Int)[((x1 : Int) - (0)).toNat]? = some (146); rw [e]; rfl) rfl ?_
    refine xw_aload_n (n := 148) (show xlook 127 147 = some (147, .aload_n 0, 1, 0, 0, 0, 0) from xlk (by decide +kernel)) rfl rfl ?_
    refine xw_getr (q := 42) (show xlook 127 148 = some (148, .getfield 35, 3, 11, 3, 0, 162) from xlk (by decide +kernel)) (by decide) (xobf xob_11 (by decide) (by decide)) rfl (xPT_get (k := 3) (f := 42) hPT xob_11 (by decide)) (by have := (xtg_11_3 _ xob_11.1 xob_11.2).1; omega) (n := 151) rfl ?_
    refine xw_geti (show xlook 127 151 = some (151, .getfield 149, 3, 6, 2, 0, 181) from xlk (by decide +kernel)) (by decide) (xobf (xtg_11_3 _ xob_11.1 xob_11.2) (by decide) (by decide)) rfl (n := 154) rfl ?_
    exact xw_ireturn hPT (show xlook 127 154 = some (154, .ireturn, 1, 0, 0, 0, 0) from xlk (by decide +kernel)) rfl (t hPT)
  · replace t := u10 e
    refine xw_tabIn (off := 154) (t := 155) (show xlook 127 1 = some (1, .tableswitch 189 0 13 #[71, 79, 87, 95, 103, 111, 119, 130, 138, 146, 154, 162, 173, 181], 71, 0, 0, 0, 0) from xlk (by decide +kernel)) q1 hq (by show (#[71, 79, 87, 95, 103, 111, 119, 130, 138, 146, 154, 162, 173, 181] : Array Int)[((x1 : Int) - (0)).toNat]? = some (154); rw [e]; rfl) rfl ?_
    refine xw_aload_n (n := 156) (show xlook 127 155 = some (155, .aload_n 0, 1, 0, 0, 0, 0) from xlk (by decide +kernel)) rfl rfl ?_
    refine xw_getr (q := 42) (show xlook 127 156 = some (156, .getfield 35, 3, 11, 3, 0, 162) from xlk (by decide +kernel)) (by decide) (xobf xob_11 (by decide) (by decide)) rfl (xPT_get (k := 3) (f := 42) hPT xob_11 (by decide)) (by have := (xtg_11_3 _ xob_11.1 xob_11.2).1; omega) (n := 159) rfl ?_
    refine xw_geti (show xlook 127 159 = some (159, .getfield 172, 3, 6, 3, 0, 186) from xlk (by decide +kernel)) (by decide) (xobf (xtg_11_3 _ xob_11.1 xob_11.2) (by decide) (by decide)) rfl (n := 162) rfl ?_
    exact xw_ireturn hPT (show xlook 127 162 = some (162, .ireturn, 1, 0, 0, 0, 0) from xlk (by decide +kernel)) rfl (t hPT)
  · replace t := u11 e
    refine xw_tabIn (off := 162) (t := 163) (show xlook 127 1 = some (1, .tableswitch 189 0 13 #[71, 79, 87, 95, 103, 111, 119, 130, 138, 146, 154, 162, 173, 181], 71, 0, 0, 0, 0) from xlk (by decide +kernel)) q1 hq (by show (#[71, 79, 87, 95, 103, 111, 119, 130, 138, 146, 154, 162, 173, 181] : Array Int)[((x1 : Int) - (0)).toNat]? = some (162); rw [e]; rfl) rfl ?_
    refine xw_aload_n (n := 164) (show xlook 127 163 = some (163, .aload_n 0, 1, 0, 0, 0, 0) from xlk (by decide +kernel)) rfl rfl ?_
    refine xw_getr (q := 42) (show xlook 127 164 = some (164, .getfield 35, 3, 11, 3, 0, 162) from xlk (by decide +kernel)) (by decide) (xobf xob_11 (by decide) (by decide)) rfl (xPT_get (k := 3) (f := 42) hPT xob_11 (by decide)) (by have := (xtg_11_3 _ xob_11.1 xob_11.2).1; omega) (n := 167) rfl ?_
    refine xw_getr (q := 55) (show xlook 127 167 = some (167, .getfield 220, 3, 6, 12, 0, 198) from xlk (by decide +kernel)) (by decide) (xobf (xtg_11_3 _ xob_11.1 xob_11.2) (by decide) (by decide)) rfl (xPT_get (k := 12) (f := 13) hPT (xtg_11_3 _ xob_11.1 xob_11.2) (by decide)) (by have := (xtg_6_12 _ (xtg_11_3 _ xob_11.1 xob_11.2).1 (xtg_11_3 _ xob_11.1 xob_11.2).2).1; omega) (n := 170) rfl ?_
    refine xw_geti (show xlook 127 170 = some (170, .getfield 224, 3, 2, 0, 0, 199) from xlk (by decide +kernel)) (by decide) (xobf (xtg_6_12 _ (xtg_11_3 _ xob_11.1 xob_11.2).1 (xtg_11_3 _ xob_11.1 xob_11.2).2) (by decide) (by decide)) rfl (n := 173) rfl ?_
    exact xw_ireturn hPT (show xlook 127 173 = some (173, .ireturn, 1, 0, 0, 0, 0) from xlk (by decide +kernel)) rfl (t hPT)
  · replace t := u12 e
    refine xw_tabIn (off := 173) (t := 174) (show xlook 127 1 = some (1, .tableswitch 189 0 13 #[71, 79, 87, 95, 103, 111, 119, 130, 138, 146, 154, 162, 173, 181], 71, 0, 0, 0, 0) from xlk (by decide +kernel)) q1 hq (by show (#[71, 79, 87, 95, 103, 111, 119, 130, 138, 146, 154, 162, 173, 181] : Array Int)[((x1 : Int) - (0)).toNat]? = some (173); rw [e]; rfl) rfl ?_
    refine xw_aload_n (n := 175) (show xlook 127 174 = some (174, .aload_n 0, 1, 0, 0, 0, 0) from xlk (by decide +kernel)) rfl rfl ?_
    refine xw_getr (q := 37) (show xlook 127 175 = some (175, .getfield 26, 3, 11, 2, 0, 161) from xlk (by decide +kernel)) (by decide) (xobf xob_11 (by decide) (by decide)) rfl (xPT_get (k := 2) (f := 37) hPT xob_11 (by decide)) (by have := (xtg_11_2 _ xob_11.1 xob_11.2).1; omega) (n := 178) rfl ?_
    refine xw_geti (show xlook 127 178 = some (178, .getfield 145, 3, 0, 0, 0, 180) from xlk (by decide +kernel)) (by decide) (xobf (xtg_11_2 _ xob_11.1 xob_11.2) (by decide) (by decide)) rfl (n := 181) rfl ?_
    exact xw_ireturn hPT (show xlook 127 181 = some (181, .ireturn, 1, 0, 0, 0, 0) from xlk (by decide +kernel)) rfl (t hPT)
  · replace t := u13 e
    refine xw_tabIn (off := 181) (t := 182) (show xlook 127 1 = some (1, .tableswitch 189 0 13 #[71, 79, 87, 95, 103, 111, 119, 130, 138, 146, 154, 162, 173, 181], 71, 0, 0, 0, 0) from xlk (by decide +kernel)) q1 hq (by show (#[71, 79, 87, 95, 103, 111, 119, 130, 138, 146, 154, 162, 173, 181] : Array Int)[((x1 : Int) - (0)).toNat]? = some (181); rw [e]; rfl) rfl ?_
    refine xw_aload_n (n := 183) (show xlook 127 182 = some (182, .aload_n 0, 1, 0, 0, 0, 0) from xlk (by decide +kernel)) rfl rfl ?_
    refine xw_getr (q := 18) (show xlook 127 183 = some (183, .getfield 19, 3, 11, 1, 0, 160) from xlk (by decide +kernel)) (by decide) (xobf xob_11 (by decide) (by decide)) rfl (xPT_get (k := 1) (f := 18) hPT xob_11 (by decide)) (by have := (xtg_11_1 _ xob_11.1 xob_11.2).1; omega) (n := 186) rfl ?_
    refine xw_geti (show xlook 127 186 = some (186, .getfield 67, 3, 5, 0, 0, 167) from xlk (by decide +kernel)) (by decide) (xobf (xtg_11_1 _ xob_11.1 xob_11.2) (by decide) (by decide)) rfl (n := 189) rfl ?_
    exact xw_ireturn hPT (show xlook 127 189 = some (189, .ireturn, 1, 0, 0, 0, 0) from xlk (by decide +kernel)) rfl (t hPT)
theorem m127 {X : List Int32} {d : Nat} {F : XF} {Q : Int → XF → Prop} {x1 : Int} (hPT : xPT F)  (t : inR (x1) ∧ ((x1 < 0 ∨ 13 < x1) → (xPT (F) → Q ((-1)) (F))) ∧ (((x1) = 0) → (∃ t1 : Nat, (F) (0) 0 = (t1 : Int) ∧ xob 9 t1 ∧ (xPT (F) → Q ((F) (t1) 0) (F)))) ∧ (((x1) = 1) → (∃ t2 : Nat, (F) (0) 0 = (t2 : Int) ∧ xob 9 t2 ∧ (xPT (F) → Q ((F) (t2) 1) (F)))) ∧ (((x1) = 2) → (∃ t3 : Nat, (F) (0) 0 = (t3 : Int) ∧ xob 9 t3 ∧ (xPT (F) → Q ((F) (t3) 2) (F)))) ∧ (((x1) = 3) → (∃ t4 : Nat, (F) (0) 0 = (t4 : Int) ∧ xob 9 t4 ∧ (xPT (F) → Q ((F) (t4) 3) (F)))) ∧ (((x1) = 4) → (∃ t5 : Nat, (F) (0) 0 = (t5 : Int) ∧ xob 9 t5 ∧ (xPT (F) → Q ((F) (t5) 4) (F)))) ∧ (((x1) = 5) → (∃ t6 : Nat, (F) (0) 0 = (t6 : Int) ∧ xob 9 t6 ∧ (xPT (F) → Q ((F) (t6) 6) (F)))) ∧ (((x1) = 6) → (xPT (F) → Q ((F) (43) 0) (F))) ∧ (((x1) = 7) → (∃ t7 : Nat, (F) (0) 0 = (t7 : Int) ∧ xob 9 t7 ∧ (xPT (F) → Q ((F) (t7) 9) (F)))) ∧ (((x1) = 8) → (∃ t8 : Nat, (F) (0) 0 = (t8 : Int) ∧ xob 9 t8 ∧ (xPT (F) → Q ((F) (t8) 11) (F)))) ∧ (((x1) = 9) → (xPT (F) → Q ((F) (42) 2) (F))) ∧ (((x1) = 10) → (xPT (F) → Q ((F) (42) 3) (F))) ∧ (((x1) = 11) → (xPT (F) → Q ((F) (55) 0) (F))) ∧ (((x1) = 12) → (xPT (F) → Q ((F) (37) 0) (F))) ∧ (((x1) = 13) → (xPT (F) → Q ((F) (18) 0) (F)))) : xMI X d 127 [.ref (0), vi (x1)] F Q := by
  show xW X d 127 0 [.ref (0), vi (x1)] [] F (xqi Q)
  exact s127_0 hPT  t

theorem s128_0 {X : List Int32} {d : Nat} {F : XF} {Q : Int → XF → Prop} {x1 : Int} (hPT : xPT F)  (t : inR (x1) ∧ ((((x1) < (0)) → (xPT (F) → Q (0) (F))) ∧ (¬ ((x1) < (0)) → (∃ t1 : Nat, (F) (0) 0 = (t1 : Int) ∧ xob 9 t1 ∧ (inR (x1) ∧ inR ((F) (t1) 6) ∧ (((((F) (t1) 6) ≤ (x1)) → (xPT (F) → Q (0) (F))) ∧ (¬ (((F) (t1) 6) ≤ (x1)) → (xPT (F) → Q (1) (F))))))))) : xW X d 128 0 [.ref (0), vi (x1)] [] F (xqi Q) := by
  refine xw_iload_n (n := 1) (show xlook 128 0 = some (0, .iload_n 1, 1, 0, 0, 0, 0) from xlk (by decide +kernel)) rfl rfl ?_
  obtain ⟨q0, t⟩ := t
  refine xw_if_lt (n := 4) (m := 19) (show xlook 128 1 = some (1, .ifCond .lt 18, 3, 19, 0, 0, 0) from xlk (by decide +kernel)) rfl rfl q0 ⟨fun c => ?_, fun c => ?_⟩
  · replace t := t.1 c
    refine xw_iconst (n := 20) (show xlook 128 19 = some (19, .iconst 0, 1, 0, 0, 0, 0) from xlk (by decide +kernel)) rfl ?_
    exact xw_zreturn hPT (show xlook 128 20 = some (20, .ireturn, 1, 0, 0, 0, 0) from xlk (by decide +kernel)) rfl (by decide) (t hPT)
  · replace t := t.2 c
    refine xw_iload_n (n := 5) (show xlook 128 4 = some (4, .iload_n 1, 1, 0, 0, 0, 0) from xlk (by decide +kernel)) rfl rfl ?_
    refine xw_aload_n (n := 6) (show xlook 128 5 = some (5, .aload_n 0, 1, 0, 0, 0, 0) from xlk (by decide +kernel)) rfl rfl ?_
    obtain ⟨t1, q1, ht1, t⟩ := t
    refine xw_getr (q := t1) (show xlook 128 6 = some (6, .getfield 10, 3, 11, 0, 0, 159) from xlk (by decide +kernel)) (by decide) (xobf xob_11 (by decide) (by decide)) rfl q1 (by have := ht1.1; omega) (n := 9) rfl ?_
    refine xw_geti (show xlook 128 9 = some (9, .getfield 99, 3, 9, 6, 0, 171) from xlk (by decide +kernel)) (by decide) (xobf ht1 (by decide) (by decide)) rfl (n := 12) rfl ?_
    obtain ⟨q0, q1, t⟩ := t
    refine xw_icmp_ge (n := 15) (m := 19) (show xlook 128 12 = some (12, .if_icmp .ge 7, 3, 19, 0, 0, 0) from xlk (by decide +kernel)) rfl rfl q0 q1 ⟨fun c => ?_, fun c => ?_⟩
    · replace t := t.1 c
      refine xw_iconst (n := 20) (show xlook 128 19 = some (19, .iconst 0, 1, 0, 0, 0, 0) from xlk (by decide +kernel)) rfl ?_
      exact xw_zreturn hPT (show xlook 128 20 = some (20, .ireturn, 1, 0, 0, 0, 0) from xlk (by decide +kernel)) rfl (by decide) (t hPT)
    · replace t := t.2 c
      refine xw_iconst (n := 16) (show xlook 128 15 = some (15, .iconst 1, 1, 0, 0, 0, 0) from xlk (by decide +kernel)) rfl ?_
      refine xw_goto (m := 20) (show xlook 128 16 = some (16, .goto 4, 3, 20, 0, 0, 0) from xlk (by decide +kernel)) rfl ?_
      exact xw_zreturn hPT (show xlook 128 20 = some (20, .ireturn, 1, 0, 0, 0, 0) from xlk (by decide +kernel)) rfl (by decide) (t hPT)
theorem m128 {X : List Int32} {d : Nat} {F : XF} {Q : Int → XF → Prop} {x1 : Int} (hPT : xPT F)  (t : inR (x1) ∧ ((((x1) < (0)) → (xPT (F) → Q (0) (F))) ∧ (¬ ((x1) < (0)) → (∃ t1 : Nat, (F) (0) 0 = (t1 : Int) ∧ xob 9 t1 ∧ (inR (x1) ∧ inR ((F) (t1) 6) ∧ (((((F) (t1) 6) ≤ (x1)) → (xPT (F) → Q (0) (F))) ∧ (¬ (((F) (t1) 6) ≤ (x1)) → (xPT (F) → Q (1) (F))))))))) : xMI X d 128 [.ref (0), vi (x1)] F Q := by
  show xW X d 128 0 [.ref (0), vi (x1)] [] F (xqi Q)
  exact s128_0 hPT  t

theorem s129_0 {X : List Int32} {d : Nat} {F : XF} {Q : Int → XF → Prop} {x1 : Int} (hPT : xPT F)  (t : inR (x1) ∧ ((((x1) < (0)) → (xPT (F) → Q (0) (F))) ∧ (¬ ((x1) < (0)) → (∃ t1 : Nat, (F) (0) 0 = (t1 : Int) ∧ xob 9 t1 ∧ (inR (x1) ∧ inR ((F) (t1) 4) ∧ (((((F) (t1) 4) ≤ (x1)) → (xPT (F) → Q (0) (F))) ∧ (¬ (((F) (t1) 4) ≤ (x1)) → (xPT (F) → Q (1) (F))))))))) : xW X d 129 0 [.ref (0), vi (x1)] [] F (xqi Q) := by
  refine xw_iload_n (n := 1) (show xlook 129 0 = some (0, .iload_n 1, 1, 0, 0, 0, 0) from xlk (by decide +kernel)) rfl rfl ?_
  obtain ⟨q0, t⟩ := t
  refine xw_if_lt (n := 4) (m := 19) (show xlook 129 1 = some (1, .ifCond .lt 18, 3, 19, 0, 0, 0) from xlk (by decide +kernel)) rfl rfl q0 ⟨fun c => ?_, fun c => ?_⟩
  · replace t := t.1 c
    refine xw_iconst (n := 20) (show xlook 129 19 = some (19, .iconst 0, 1, 0, 0, 0, 0) from xlk (by decide +kernel)) rfl ?_
    exact xw_zreturn hPT (show xlook 129 20 = some (20, .ireturn, 1, 0, 0, 0, 0) from xlk (by decide +kernel)) rfl (by decide) (t hPT)
  · replace t := t.2 c
    refine xw_iload_n (n := 5) (show xlook 129 4 = some (4, .iload_n 1, 1, 0, 0, 0, 0) from xlk (by decide +kernel)) rfl rfl ?_
    refine xw_aload_n (n := 6) (show xlook 129 5 = some (5, .aload_n 0, 1, 0, 0, 0, 0) from xlk (by decide +kernel)) rfl rfl ?_
    obtain ⟨t1, q1, ht1, t⟩ := t
    refine xw_getr (q := t1) (show xlook 129 6 = some (6, .getfield 10, 3, 11, 0, 0, 159) from xlk (by decide +kernel)) (by decide) (xobf xob_11 (by decide) (by decide)) rfl q1 (by have := ht1.1; omega) (n := 9) rfl ?_
    refine xw_geti (show xlook 129 9 = some (9, .getfield 347, 3, 9, 4, 0, 218) from xlk (by decide +kernel)) (by decide) (xobf ht1 (by decide) (by decide)) rfl (n := 12) rfl ?_
    obtain ⟨q0, q1, t⟩ := t
    refine xw_icmp_ge (n := 15) (m := 19) (show xlook 129 12 = some (12, .if_icmp .ge 7, 3, 19, 0, 0, 0) from xlk (by decide +kernel)) rfl rfl q0 q1 ⟨fun c => ?_, fun c => ?_⟩
    · replace t := t.1 c
      refine xw_iconst (n := 20) (show xlook 129 19 = some (19, .iconst 0, 1, 0, 0, 0, 0) from xlk (by decide +kernel)) rfl ?_
      exact xw_zreturn hPT (show xlook 129 20 = some (20, .ireturn, 1, 0, 0, 0, 0) from xlk (by decide +kernel)) rfl (by decide) (t hPT)
    · replace t := t.2 c
      refine xw_iconst (n := 16) (show xlook 129 15 = some (15, .iconst 1, 1, 0, 0, 0, 0) from xlk (by decide +kernel)) rfl ?_
      refine xw_goto (m := 20) (show xlook 129 16 = some (16, .goto 4, 3, 20, 0, 0, 0) from xlk (by decide +kernel)) rfl ?_
      exact xw_zreturn hPT (show xlook 129 20 = some (20, .ireturn, 1, 0, 0, 0, 0) from xlk (by decide +kernel)) rfl (by decide) (t hPT)
theorem m129 {X : List Int32} {d : Nat} {F : XF} {Q : Int → XF → Prop} {x1 : Int} (hPT : xPT F)  (t : inR (x1) ∧ ((((x1) < (0)) → (xPT (F) → Q (0) (F))) ∧ (¬ ((x1) < (0)) → (∃ t1 : Nat, (F) (0) 0 = (t1 : Int) ∧ xob 9 t1 ∧ (inR (x1) ∧ inR ((F) (t1) 4) ∧ (((((F) (t1) 4) ≤ (x1)) → (xPT (F) → Q (0) (F))) ∧ (¬ (((F) (t1) 4) ≤ (x1)) → (xPT (F) → Q (1) (F))))))))) : xMI X d 129 [.ref (0), vi (x1)] F Q := by
  show xW X d 129 0 [.ref (0), vi (x1)] [] F (xqi Q)
  exact s129_0 hPT  t

theorem s130_0 {X : List Int32} {d : Nat} {F : XF} {Q : Int → XF → Prop} {x1 : Int} (hPT : xPT F)  (t : inR (x1) ∧ ((((x1) < (0)) → (xPT (F) → Q (0) (F))) ∧ (¬ ((x1) < (0)) → (inR (x1) ∧ inR ((F) (43) 0) ∧ (((((F) (43) 0) ≤ (x1)) → (xPT (F) → Q (0) (F))) ∧ (¬ (((F) (43) 0) ≤ (x1)) → (xPT (F) → Q (1) (F)))))))) : xW X d 130 0 [.ref (0), vi (x1)] [] F (xqi Q) := by
  refine xw_iload_n (n := 1) (show xlook 130 0 = some (0, .iload_n 1, 1, 0, 0, 0, 0) from xlk (by decide +kernel)) rfl rfl ?_
  obtain ⟨q0, t⟩ := t
  refine xw_if_lt (n := 4) (m := 22) (show xlook 130 1 = some (1, .ifCond .lt 21, 3, 22, 0, 0, 0) from xlk (by decide +kernel)) rfl rfl q0 ⟨fun c => ?_, fun c => ?_⟩
  · replace t := t.1 c
    refine xw_iconst (n := 23) (show xlook 130 22 = some (22, .iconst 0, 1, 0, 0, 0, 0) from xlk (by decide +kernel)) rfl ?_
    exact xw_zreturn hPT (show xlook 130 23 = some (23, .ireturn, 1, 0, 0, 0, 0) from xlk (by decide +kernel)) rfl (by decide) (t hPT)
  · replace t := t.2 c
    refine xw_iload_n (n := 5) (show xlook 130 4 = some (4, .iload_n 1, 1, 0, 0, 0, 0) from xlk (by decide +kernel)) rfl rfl ?_
    refine xw_aload_n (n := 6) (show xlook 130 5 = some (5, .aload_n 0, 1, 0, 0, 0, 0) from xlk (by decide +kernel)) rfl rfl ?_
    refine xw_getr (q := 42) (show xlook 130 6 = some (6, .getfield 35, 3, 11, 3, 0, 162) from xlk (by decide +kernel)) (by decide) (xobf xob_11 (by decide) (by decide)) rfl (xPT_get (k := 3) (f := 42) hPT xob_11 (by decide)) (by have := (xtg_11_3 _ xob_11.1 xob_11.2).1; omega) (n := 9) rfl ?_
    refine xw_getr (q := 43) (show xlook 130 9 = some (9, .getfield 109, 3, 6, 1, 0, 173) from xlk (by decide +kernel)) (by decide) (xobf (xtg_11_3 _ xob_11.1 xob_11.2) (by decide) (by decide)) rfl (xPT_get (k := 1) (f := 1) hPT (xtg_11_3 _ xob_11.1 xob_11.2) (by decide)) (by have := (xtg_6_1 _ (xtg_11_3 _ xob_11.1 xob_11.2).1 (xtg_11_3 _ xob_11.1 xob_11.2).2).1; omega) (n := 12) rfl ?_
    refine xw_geti (show xlook 130 12 = some (12, .getfield 113, 3, 7, 0, 0, 174) from xlk (by decide +kernel)) (by decide) (xobf (xtg_6_1 _ (xtg_11_3 _ xob_11.1 xob_11.2).1 (xtg_11_3 _ xob_11.1 xob_11.2).2) (by decide) (by decide)) rfl (n := 15) rfl ?_
    obtain ⟨q0, q1, t⟩ := t
    refine xw_icmp_ge (n := 18) (m := 22) (show xlook 130 15 = some (15, .if_icmp .ge 7, 3, 22, 0, 0, 0) from xlk (by decide +kernel)) rfl rfl q0 q1 ⟨fun c => ?_, fun c => ?_⟩
    · replace t := t.1 c
      refine xw_iconst (n := 23) (show xlook 130 22 = some (22, .iconst 0, 1, 0, 0, 0, 0) from xlk (by decide +kernel)) rfl ?_
      exact xw_zreturn hPT (show xlook 130 23 = some (23, .ireturn, 1, 0, 0, 0, 0) from xlk (by decide +kernel)) rfl (by decide) (t hPT)
    · replace t := t.2 c
      refine xw_iconst (n := 19) (show xlook 130 18 = some (18, .iconst 1, 1, 0, 0, 0, 0) from xlk (by decide +kernel)) rfl ?_
      refine xw_goto (m := 23) (show xlook 130 19 = some (19, .goto 4, 3, 23, 0, 0, 0) from xlk (by decide +kernel)) rfl ?_
      exact xw_zreturn hPT (show xlook 130 23 = some (23, .ireturn, 1, 0, 0, 0, 0) from xlk (by decide +kernel)) rfl (by decide) (t hPT)
theorem m130 {X : List Int32} {d : Nat} {F : XF} {Q : Int → XF → Prop} {x1 : Int} (hPT : xPT F)  (t : inR (x1) ∧ ((((x1) < (0)) → (xPT (F) → Q (0) (F))) ∧ (¬ ((x1) < (0)) → (inR (x1) ∧ inR ((F) (43) 0) ∧ (((((F) (43) 0) ≤ (x1)) → (xPT (F) → Q (0) (F))) ∧ (¬ (((F) (43) 0) ≤ (x1)) → (xPT (F) → Q (1) (F)))))))) : xMI X d 130 [.ref (0), vi (x1)] F Q := by
  show xW X d 130 0 [.ref (0), vi (x1)] [] F (xqi Q)
  exact s130_0 hPT  t

theorem s131_0 {X : List Int32} {d : Nat} {F : XF} {Q : Int → XF → Prop} {x0 : Int} (hPT : xPT F)  (t : inR (x0) ∧ ((((x0) < (0)) → (xPT (F) → Q (0) (F))) ∧ (¬ ((x0) < (0)) → (inR (x0) ∧ ((((2000) ≤ (x0)) → (xPT (F) → Q (0) (F))) ∧ (¬ ((2000) ≤ (x0)) → (xPT (F) → Q (1) (F)))))))) : xW X d 131 0 [vi (x0)] [] F (xqi Q) := by
  refine xw_iload_n (n := 1) (show xlook 131 0 = some (0, .iload_n 0, 1, 0, 0, 0, 0) from xlk (by decide +kernel)) rfl rfl ?_
  obtain ⟨q0, t⟩ := t
  refine xw_if_lt (n := 4) (m := 15) (show xlook 131 1 = some (1, .ifCond .lt 14, 3, 15, 0, 0, 0) from xlk (by decide +kernel)) rfl rfl q0 ⟨fun c => ?_, fun c => ?_⟩
  · replace t := t.1 c
    refine xw_iconst (n := 16) (show xlook 131 15 = some (15, .iconst 0, 1, 0, 0, 0, 0) from xlk (by decide +kernel)) rfl ?_
    exact xw_zreturn hPT (show xlook 131 16 = some (16, .ireturn, 1, 0, 0, 0, 0) from xlk (by decide +kernel)) rfl (by decide) (t hPT)
  · replace t := t.2 c
    refine xw_iload_n (n := 5) (show xlook 131 4 = some (4, .iload_n 0, 1, 0, 0, 0, 0) from xlk (by decide +kernel)) rfl rfl ?_
    refine xw_sipush (n := 8) (show xlook 131 5 = some (5, .sipush 2000, 3, 0, 0, 0, 0) from xlk (by decide +kernel)) rfl (by decide) ?_
    obtain ⟨q0, t⟩ := t
    refine xw_icmp_ge (n := 11) (m := 15) (show xlook 131 8 = some (8, .if_icmp .ge 7, 3, 15, 0, 0, 0) from xlk (by decide +kernel)) rfl rfl q0 ⟨by decide, by decide⟩ ⟨fun c => ?_, fun c => ?_⟩
    · replace t := t.1 c
      refine xw_iconst (n := 16) (show xlook 131 15 = some (15, .iconst 0, 1, 0, 0, 0, 0) from xlk (by decide +kernel)) rfl ?_
      exact xw_zreturn hPT (show xlook 131 16 = some (16, .ireturn, 1, 0, 0, 0, 0) from xlk (by decide +kernel)) rfl (by decide) (t hPT)
    · replace t := t.2 c
      refine xw_iconst (n := 12) (show xlook 131 11 = some (11, .iconst 1, 1, 0, 0, 0, 0) from xlk (by decide +kernel)) rfl ?_
      refine xw_goto (m := 16) (show xlook 131 12 = some (12, .goto 4, 3, 16, 0, 0, 0) from xlk (by decide +kernel)) rfl ?_
      exact xw_zreturn hPT (show xlook 131 16 = some (16, .ireturn, 1, 0, 0, 0, 0) from xlk (by decide +kernel)) rfl (by decide) (t hPT)
theorem m131 {X : List Int32} {d : Nat} {F : XF} {Q : Int → XF → Prop} {x0 : Int} (hPT : xPT F)  (t : inR (x0) ∧ ((((x0) < (0)) → (xPT (F) → Q (0) (F))) ∧ (¬ ((x0) < (0)) → (inR (x0) ∧ ((((2000) ≤ (x0)) → (xPT (F) → Q (0) (F))) ∧ (¬ ((2000) ≤ (x0)) → (xPT (F) → Q (1) (F)))))))) : xMI X d 131 [vi (x0)] F Q := by
  show xW X d 131 0 [vi (x0)] [] F (xqi Q)
  exact s131_0 hPT  t

theorem s132_0 {X : List Int32} {d : Nat} {F : XF} {Q : Int → XF → Prop} {l0 : Int} {l2 : Int} {l4 : Int} (hPT : xPT F)  (t : inL (l0) ∧ inL (l2) ∧ (inR (xcmp (l0) (l2)) ∧ ((((xcmp (l0) (l2)) < (0)) → (xPT (F) → Q (0) (F))) ∧ (¬ ((xcmp (l0) (l2)) < (0)) → (inL (l0) ∧ inL (l4) ∧ (inR (xcmp (l0) (l4)) ∧ ((((0) < (xcmp (l0) (l4))) → (xPT (F) → Q (0) (F))) ∧ (¬ ((0) < (xcmp (l0) (l4))) → (xPT (F) → Q (1) (F)))))))))) : xW X d 132 0 [vl (l0), xU0, vl (l2), xU0, vl (l4), xU0] [] F (xqi Q) := by
  refine xw_lload_n (n := 1) (show xlook 132 0 = some (0, .lload_n 0, 1, 0, 0, 0, 0) from xlk (by decide +kernel)) rfl rfl ?_
  refine xw_lload_n (n := 2) (show xlook 132 1 = some (1, .lload_n 2, 1, 0, 0, 0, 0) from xlk (by decide +kernel)) rfl rfl ?_
  obtain ⟨q1, q2, t⟩ := t
  refine xw_lcmp (n := 3) (show xlook 132 2 = some (2, .lcmp, 1, 0, 0, 0, 0) from xlk (by decide +kernel)) rfl q1 q2 ?_
  obtain ⟨q0, t⟩ := t
  refine xw_if_lt (n := 6) (m := 17) (show xlook 132 3 = some (3, .ifCond .lt 14, 3, 17, 0, 0, 0) from xlk (by decide +kernel)) rfl rfl q0 ⟨fun c => ?_, fun c => ?_⟩
  · replace t := t.1 c
    refine xw_iconst (n := 18) (show xlook 132 17 = some (17, .iconst 0, 1, 0, 0, 0, 0) from xlk (by decide +kernel)) rfl ?_
    exact xw_zreturn hPT (show xlook 132 18 = some (18, .ireturn, 1, 0, 0, 0, 0) from xlk (by decide +kernel)) rfl (by decide) (t hPT)
  · replace t := t.2 c
    refine xw_lload_n (n := 7) (show xlook 132 6 = some (6, .lload_n 0, 1, 0, 0, 0, 0) from xlk (by decide +kernel)) rfl rfl ?_
    refine xw_lload (n := 9) (show xlook 132 7 = some (7, .lload 4, 2, 0, 0, 0, 0) from xlk (by decide +kernel)) rfl rfl ?_
    obtain ⟨q1, q2, t⟩ := t
    refine xw_lcmp (n := 10) (show xlook 132 9 = some (9, .lcmp, 1, 0, 0, 0, 0) from xlk (by decide +kernel)) rfl q1 q2 ?_
    obtain ⟨q0, t⟩ := t
    refine xw_if_gt (n := 13) (m := 17) (show xlook 132 10 = some (10, .ifCond .gt 7, 3, 17, 0, 0, 0) from xlk (by decide +kernel)) rfl rfl q0 ⟨fun c => ?_, fun c => ?_⟩
    · replace t := t.1 c
      refine xw_iconst (n := 18) (show xlook 132 17 = some (17, .iconst 0, 1, 0, 0, 0, 0) from xlk (by decide +kernel)) rfl ?_
      exact xw_zreturn hPT (show xlook 132 18 = some (18, .ireturn, 1, 0, 0, 0, 0) from xlk (by decide +kernel)) rfl (by decide) (t hPT)
    · replace t := t.2 c
      refine xw_iconst (n := 14) (show xlook 132 13 = some (13, .iconst 1, 1, 0, 0, 0, 0) from xlk (by decide +kernel)) rfl ?_
      refine xw_goto (m := 18) (show xlook 132 14 = some (14, .goto 4, 3, 18, 0, 0, 0) from xlk (by decide +kernel)) rfl ?_
      exact xw_zreturn hPT (show xlook 132 18 = some (18, .ireturn, 1, 0, 0, 0, 0) from xlk (by decide +kernel)) rfl (by decide) (t hPT)
theorem m132 {X : List Int32} {d : Nat} {F : XF} {Q : Int → XF → Prop} {l0 : Int} {l2 : Int} {l4 : Int} (hPT : xPT F)  (t : inL (l0) ∧ inL (l2) ∧ (inR (xcmp (l0) (l2)) ∧ ((((xcmp (l0) (l2)) < (0)) → (xPT (F) → Q (0) (F))) ∧ (¬ ((xcmp (l0) (l2)) < (0)) → (inL (l0) ∧ inL (l4) ∧ (inR (xcmp (l0) (l4)) ∧ ((((0) < (xcmp (l0) (l4))) → (xPT (F) → Q (0) (F))) ∧ (¬ ((0) < (xcmp (l0) (l4))) → (xPT (F) → Q (1) (F)))))))))) : xMI X d 132 [vl (l0), vl (l2), vl (l4)] F Q := by
  show xW X d 132 0 [vl (l0), xU0, vl (l2), xU0, vl (l4), xU0] [] F (xqi Q)
  exact s132_0 hPT  t

theorem s134_0 {X : List Int32} {d : Nat} {F : XF} {Q : XF → Prop} {w1 : Value} (hPT : xPT F)  (t : xPT (F) → xW X d 134 2 [.ref (131), vi (0)] [] (F) (xqv Q)) : xW X d 134 0 [.ref (131), w1] [] F (xqv Q) := by
  refine xw_iconst (n := 1) (show xlook 134 0 = some (0, .iconst 0, 1, 0, 0, 0, 0) from xlk (by decide +kernel)) rfl ?_
  refine xw_istore_n (n := 2) (show xlook 134 1 = some (1, .istore_n 1, 1, 0, 0, 0, 0) from xlk (by decide +kernel)) rfl (ls' := [.ref (131), vi (0)]) (Nat.le_of_ble_eq_true rfl) rfl ?_
  exact t hPT
theorem m134 {X : List Int32} {d : Nat} {F : XF} {Q : XF → Prop}  (hPT : xPT F)  (t : xPT (F) → xW X d 134 2 [.ref (131), vi (0)] [] (F) (xqv Q)) : xMV X d 134 [.ref (131)] F Q := by
  show xW X d 134 0 [.ref (131), xU0] [] F (xqv Q)
  exact s134_0 hPT  t

theorem s134_2 {X : List Int32} {d : Nat} {F : XF} {Q : XF → Prop} {x1 : Int} (hPT : xPT F)  (t : inR (x1) ∧ ((((163) ≤ (x1)) → (xPT (xup (xup (xup (F) (133) 0 (100)) (133) 1 (10)) (133) 2 (2)) → Q (xup (xup (xup (F) (133) 0 (100)) (133) 1 (10)) (133) 2 (2)))) ∧ (¬ ((163) ≤ (x1)) → ((0 ≤ (x1) ∧ (x1) < 163) ∧ (xPT (xup (F) (133) (x1) (0)) → xW X d 134 2 [.ref (131), vi (x1 + 1)] [] (xup (F) (133) (x1) (0)) (xqv Q)))))) : xW X d 134 2 [.ref (131), vi (x1)] [] F (xqv Q) := by
  refine xw_iload_n (n := 3) (show xlook 134 2 = some (2, .iload_n 1, 1, 0, 0, 0, 0) from xlk (by decide +kernel)) rfl rfl ?_
  refine xw_sipush (n := 6) (show xlook 134 3 = some (3, .sipush 163, 3, 0, 0, 0, 0) from xlk (by decide +kernel)) rfl (by decide) ?_
  obtain ⟨q0, t⟩ := t
  refine xw_icmp_ge (n := 9) (m := 22) (show xlook 134 6 = some (6, .if_icmp .ge 16, 3, 22, 0, 0, 0) from xlk (by decide +kernel)) rfl rfl q0 ⟨by decide, by decide⟩ ⟨fun c => ?_, fun c => ?_⟩
  · replace t := t.1 c
    refine xw_aload_n (n := 23) (show xlook 134 22 = some (22, .aload_n 0, 1, 0, 0, 0, 0) from xlk (by decide +kernel)) rfl rfl ?_
    refine xw_getr (q := 133) (show xlook 134 23 = some (23, .getfield 17, 3, 12, 2, 0, 221) from xlk (by decide +kernel)) (by decide) (xobf xob_12 (by decide) (by decide)) rfl (xPT_get (k := 2) (f := 2) hPT xob_12 (by decide)) (by have := (xtg_12_2 _ xob_12.1 xob_12.2).1.1; omega) (n := 26) rfl ?_
    refine xw_iconst (n := 27) (show xlook 134 26 = some (26, .iconst 0, 1, 0, 0, 0, 0) from xlk (by decide +kernel)) rfl ?_
    refine xw_bipush (n := 29) (show xlook 134 27 = some (27, .bipush 100, 2, 0, 0, 0, 0) from xlk (by decide +kernel)) rfl (by decide) ?_
    refine xw_iast (show xlook 134 29 = some (29, .iastore, 1, 0, 0, 0, 0) from xlk (by decide +kernel)) (xtg_12_2 _ xob_12.1 xob_12.2).1 (by rw [(xtg_12_2 _ xob_12.1 xob_12.2).2]; decide) (n := 30) rfl ?_
    refine xw_aload_n (n := 31) (show xlook 134 30 = some (30, .aload_n 0, 1, 0, 0, 0, 0) from xlk (by decide +kernel)) rfl rfl ?_
    refine xw_getr (q := 133) (show xlook 134 31 = some (31, .getfield 17, 3, 12, 2, 0, 221) from xlk (by decide +kernel)) (by decide) (xobf xob_12 (by decide) (by decide)) rfl (xPT_get (k := 2) (f := 2) (xPT_arr hPT (Or.inl (xtg_12_2 _ xob_12.1 xob_12.2).1.2)) xob_12 (by decide)) (by have := (xtg_12_2 _ xob_12.1 xob_12.2).1.1; omega) (n := 34) rfl ?_
    refine xw_iconst (n := 35) (show xlook 134 34 = some (34, .iconst 1, 1, 0, 0, 0, 0) from xlk (by decide +kernel)) rfl ?_
    refine xw_bipush (n := 37) (show xlook 134 35 = some (35, .bipush 10, 2, 0, 0, 0, 0) from xlk (by decide +kernel)) rfl (by decide) ?_
    refine xw_iast (show xlook 134 37 = some (37, .iastore, 1, 0, 0, 0, 0) from xlk (by decide +kernel)) (xtg_12_2 _ xob_12.1 xob_12.2).1 (by rw [(xtg_12_2 _ xob_12.1 xob_12.2).2]; decide) (n := 38) rfl ?_
    refine xw_aload_n (n := 39) (show xlook 134 38 = some (38, .aload_n 0, 1, 0, 0, 0, 0) from xlk (by decide +kernel)) rfl rfl ?_
    refine xw_getr (q := 133) (show xlook 134 39 = some (39, .getfield 17, 3, 12, 2, 0, 221) from xlk (by decide +kernel)) (by decide) (xobf xob_12 (by decide) (by decide)) rfl (xPT_get (k := 2) (f := 2) (xPT_arr (xPT_arr hPT (Or.inl (xtg_12_2 _ xob_12.1 xob_12.2).1.2)) (Or.inl (xtg_12_2 _ xob_12.1 xob_12.2).1.2)) xob_12 (by decide)) (by have := (xtg_12_2 _ xob_12.1 xob_12.2).1.1; omega) (n := 42) rfl ?_
    refine xw_iconst (n := 43) (show xlook 134 42 = some (42, .iconst 2, 1, 0, 0, 0, 0) from xlk (by decide +kernel)) rfl ?_
    refine xw_iconst (n := 44) (show xlook 134 43 = some (43, .iconst 2, 1, 0, 0, 0, 0) from xlk (by decide +kernel)) rfl ?_
    refine xw_iast (show xlook 134 44 = some (44, .iastore, 1, 0, 0, 0, 0) from xlk (by decide +kernel)) (xtg_12_2 _ xob_12.1 xob_12.2).1 (by rw [(xtg_12_2 _ xob_12.1 xob_12.2).2]; decide) (n := 45) rfl ?_
    exact xw_return (xPT_arr (xPT_arr (xPT_arr hPT (Or.inl (xtg_12_2 _ xob_12.1 xob_12.2).1.2)) (Or.inl (xtg_12_2 _ xob_12.1 xob_12.2).1.2)) (Or.inl (xtg_12_2 _ xob_12.1 xob_12.2).1.2)) (show xlook 134 45 = some (45, .return_, 1, 0, 0, 0, 0) from xlk (by decide +kernel)) rfl (t (xPT_arr (xPT_arr (xPT_arr hPT (Or.inl (xtg_12_2 _ xob_12.1 xob_12.2).1.2)) (Or.inl (xtg_12_2 _ xob_12.1 xob_12.2).1.2)) (Or.inl (xtg_12_2 _ xob_12.1 xob_12.2).1.2)))
  · replace t := t.2 c
    refine xw_aload_n (n := 10) (show xlook 134 9 = some (9, .aload_n 0, 1, 0, 0, 0, 0) from xlk (by decide +kernel)) rfl rfl ?_
    refine xw_getr (q := 133) (show xlook 134 10 = some (10, .getfield 17, 3, 12, 2, 0, 221) from xlk (by decide +kernel)) (by decide) (xobf xob_12 (by decide) (by decide)) rfl (xPT_get (k := 2) (f := 2) hPT xob_12 (by decide)) (by have := (xtg_12_2 _ xob_12.1 xob_12.2).1.1; omega) (n := 13) rfl ?_
    refine xw_iload_n (n := 14) (show xlook 134 13 = some (13, .iload_n 1, 1, 0, 0, 0, 0) from xlk (by decide +kernel)) rfl rfl ?_
    refine xw_iconst (n := 15) (show xlook 134 14 = some (14, .iconst 0, 1, 0, 0, 0, 0) from xlk (by decide +kernel)) rfl ?_
    obtain ⟨q1, t⟩ := t
    refine xw_iast (show xlook 134 15 = some (15, .iastore, 1, 0, 0, 0, 0) from xlk (by decide +kernel)) (xtg_12_2 _ xob_12.1 xob_12.2).1 (by rw [(xtg_12_2 _ xob_12.1 xob_12.2).2]; exact q1) (n := 16) rfl ?_
    refine xw_iinc (n := 19) (show xlook 134 16 = some (16, .iinc 1 1, 3, 0, 0, 0, 0) from xlk (by decide +kernel)) rfl (ls' := [.ref (131), vi (x1 + 1)]) rfl rfl ?_
    refine xw_goto (m := 2) (show xlook 134 19 = some (19, .goto (-17), 3, 2, 0, 0, 0) from xlk (by decide +kernel)) rfl ?_
    exact t (xPT_arr hPT (Or.inl (xtg_12_2 _ xob_12.1 xob_12.2).1.2))

theorem s135_0 {X : List Int32} {d : Nat} {F : XF} {Q : Int → XF → Prop} {x1 : Int} {x2 : Int} {x3 : Int} {x4 : Int} {x5 : Int} {w6 : Value} {w7 : Value} (hPT : xPT F)  (t : inR (((F) (131) 4) + (20)) ∧ ((((((F) (131) 4) + (20)) ≤ (600)) → (xPT (xup (F) (131) 0 (0)) → xW X d 135 24 [.ref (131), vi (x1), vi (x2), vi (x3), vi (x4), vi (x5), vi (0), w7] [] (xup (F) (131) 0 (0)) (xqi Q))) ∧ (¬ ((((F) (131) 4) + (20)) ≤ (600)) → (xPT (xup (F) (131) 0 (0)) → Q ((-4)) (xup (F) (131) 0 (0)))))) : xW X d 135 0 [.ref (131), vi (x1), vi (x2), vi (x3), vi (x4), vi (x5), w6, w7] [] F (xqi Q) := by
  refine xw_aload_n (n := 1) (show xlook 135 0 = some (0, .aload_n 0, 1, 0, 0, 0, 0) from xlk (by decide +kernel)) rfl rfl ?_
  refine xw_iconst (n := 2) (show xlook 135 1 = some (1, .iconst 0, 1, 0, 0, 0, 0) from xlk (by decide +kernel)) rfl ?_
  refine xw_puti (show xlook 135 2 = some (2, .putfield 1, 3, 12, 0, 0, 235) from xlk (by decide +kernel)) (xobf xob_12 (by decide) (by decide)) rfl (n := 5) rfl ?_
  refine xw_aload_n (n := 6) (show xlook 135 5 = some (5, .aload_n 0, 1, 0, 0, 0, 0) from xlk (by decide +kernel)) rfl rfl ?_
  refine xw_geti2 (u := (F) (131) 4) (show xlook 135 6 = some (6, .getfield 67, 3, 12, 4, 0, 236) from xlk (by decide +kernel)) (by decide) (xobf xob_12 (by decide) (by decide)) rfl (xup_i (by decide)) (n := 9) rfl ?_
  refine xw_bipush (n := 11) (show xlook 135 9 = some (9, .bipush 20, 2, 0, 0, 0, 0) from xlk (by decide +kernel)) rfl (by decide) ?_
  refine xw_iadd (n := 12) (show xlook 135 11 = some (11, .iadd, 1, 0, 0, 0, 0) from xlk (by decide +kernel)) rfl ?_
  refine xw_sipush (n := 15) (show xlook 135 12 = some (12, .sipush 600, 3, 0, 0, 0, 0) from xlk (by decide +kernel)) rfl (by decide) ?_
  obtain ⟨q0, t⟩ := t
  refine xw_icmp_le (n := 18) (m := 21) (show xlook 135 15 = some (15, .if_icmp .le 6, 3, 21, 0, 0, 0) from xlk (by decide +kernel)) rfl rfl q0 ⟨by decide, by decide⟩ ⟨fun c => ?_, fun c => ?_⟩
  · replace t := t.1 c
    refine xw_iconst (n := 22) (show xlook 135 21 = some (21, .iconst 0, 1, 0, 0, 0, 0) from xlk (by decide +kernel)) rfl ?_
    refine xw_istore (n := 24) (show xlook 135 22 = some (22, .istore 6, 2, 0, 0, 0, 0) from xlk (by decide +kernel)) rfl (ls' := [.ref (131), vi (x1), vi (x2), vi (x3), vi (x4), vi (x5), vi (0), w7]) (Nat.le_of_ble_eq_true rfl) rfl ?_
    exact t (xPT_fld (k := 0) hPT xob_12 (by decide) (by decide))
  · replace t := t.2 c
    refine xw_bipush (n := 20) (show xlook 135 18 = some (18, .bipush (-4), 2, 0, 0, 0, 0) from xlk (by decide +kernel)) rfl (by decide) ?_
    exact xw_ireturn (xPT_fld (k := 0) hPT xob_12 (by decide) (by decide)) (show xlook 135 20 = some (20, .ireturn, 1, 0, 0, 0, 0) from xlk (by decide +kernel)) rfl (t (xPT_fld (k := 0) hPT xob_12 (by decide) (by decide)))
theorem m135 {X : List Int32} {d : Nat} {F : XF} {Q : Int → XF → Prop} {x1 : Int} {x2 : Int} {x3 : Int} {x4 : Int} {x5 : Int} (hPT : xPT F)  (t : inR (((F) (131) 4) + (20)) ∧ ((((((F) (131) 4) + (20)) ≤ (600)) → (xPT (xup (F) (131) 0 (0)) → xW X d 135 24 [.ref (131), vi (x1), vi (x2), vi (x3), vi (x4), vi (x5), vi (0), xU0] [] (xup (F) (131) 0 (0)) (xqi Q))) ∧ (¬ ((((F) (131) 4) + (20)) ≤ (600)) → (xPT (xup (F) (131) 0 (0)) → Q ((-4)) (xup (F) (131) 0 (0)))))) : xMI X d 135 [.ref (131), vi (x1), vi (x2), vi (x3), vi (x4), vi (x5)] F Q := by
  show xW X d 135 0 [.ref (131), vi (x1), vi (x2), vi (x3), vi (x4), vi (x5), xU0, xU0] [] F (xqi Q)
  exact s135_0 hPT  t

