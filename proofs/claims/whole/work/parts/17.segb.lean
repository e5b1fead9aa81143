set_option maxHeartbeats 4000000
set_option maxRecDepth 100000
theorem s39_28 {X : List Int32} {d : Nat} {F : XF} {Q : XF → Prop}  (hPT : xPT F)  (t : ∃ t1 : Nat, (F) (18) 5 = (t1 : Int) ∧ xob 9 t1 ∧ (∃ (j2 : Nat), j2 < d ∧ xMI X j2 40 [.ref (18), vi (1), vi (10), vi (1000)] (F) (fun (y2 : Int) (G2 : XF) => (∃ (j3 : Nat), j3 < d ∧ xMV X j3 38 [.ref (18)] (xup (G2) (t1) 0 (y2)) (fun (G3 : XF) => (xPT (G3) → Q (G3))))))) : xW X d 39 28 [.ref (18)] [] F (xqv Q) := by
  refine xw_aload_n (n := 29) (show xlook 39 28 = some (28, .aload_n 0, 1, 0, 0, 0, 0) from xlk (by decide +kernel)) rfl rfl ?_
  obtain ⟨t1, q1, ht1, t⟩ := t
  refine xw_getr (q := t1) (show xlook 39 29 = some (29, .getfield 22, 3, 5, 5, 0, 46) from xlk (by decide +kernel)) (by decide) (xobf xob_5 (by decide) (by decide)) rfl q1 (by have := ht1.1; omega) (n := 32) rfl ?_
  refine xw_aload_n (n := 33) (show xlook 39 32 = some (32, .aload_n 0, 1, 0, 0, 0, 0) from xlk (by decide +kernel)) rfl rfl ?_
  refine xw_iconst (n := 34) (show xlook 39 33 = some (33, .iconst 1, 1, 0, 0, 0, 0) from xlk (by decide +kernel)) rfl ?_
  refine xw_bipush (n := 36) (show xlook 39 34 = some (34, .bipush 10, 2, 0, 0, 0, 0) from xlk (by decide +kernel)) rfl (by decide) ?_
  refine xw_sipush (n := 39) (show xlook 39 36 = some (36, .sipush 1000, 3, 0, 0, 0, 0) from xlk (by decide +kernel)) rfl (by decide) ?_
  obtain ⟨j2, hj2, rr2, G2, hm2, hG2, t⟩ := t
  obtain ⟨y2, rfl, t⟩ := t
  refine xw_callv (dk := j2) (o := 18) (as := [vi (1), vi (10), vi (1000)]) (show xlook 39 39 = some (39, .invokevirtual 95, 3, 40, 4, 0, 38) from xlk (by decide +kernel)) (by decide) hj2 ⟨Nat.le_of_ble_eq_true rfl, Nat.le_of_ble_eq_true rfl, Nat.le_of_ble_eq_true rfl⟩ ⟨xob_5.1, xob_5.2, by decide⟩ rfl hm2 (n := 42) rfl ?_
  show xW X d 39 42 [.ref (18)] [vi (y2), .ref (t1)] G2 (xqv Q)
  refine xw_puti (show xlook 39 42 = some (42, .putfield 99, 3, 9, 0, 0, 56) from xlk (by decide +kernel)) (xobf ht1 (by decide) (by decide)) rfl (n := 45) rfl ?_
  refine xw_goto (m := 135) (show xlook 39 45 = some (45, .goto 90, 3, 135, 0, 0, 0) from xlk (by decide +kernel)) rfl ?_
  refine xw_aload_n (n := 136) (show xlook 39 135 = some (135, .aload_n 0, 1, 0, 0, 0, 0) from xlk (by decide +kernel)) rfl rfl ?_
  obtain ⟨j3, hj3, rr3, G3, hm3, hG3, t⟩ := t
  obtain ⟨rfl, t⟩ := t
  refine xw_callv (dk := j3) (o := 18) (as := []) (show xlook 39 136 = some (136, .invokevirtual 116, 3, 38, 1, 0, 40) from xlk (by decide +kernel)) (by decide) hj3 ⟨Nat.le_of_ble_eq_true rfl, Nat.le_of_ble_eq_true rfl, Nat.le_of_ble_eq_true rfl⟩ ⟨xob_5.1, xob_5.2, by decide⟩ rfl hm3 (n := 139) rfl ?_
  show xW X d 39 139 [.ref (18)] [] G3 (xqv Q)
  exact xw_return hG3 (show xlook 39 139 = some (139, .return_, 1, 0, 0, 0, 0) from xlk (by decide +kernel)) rfl (t hG3)

theorem s40_0 {X : List Int32} {d : Nat} {F : XF} {Q : Int → XF → Prop} {x1 : Int} {x2 : Int} {x3 : Int} (hPT : xPT F)  (t : inR (xand ((F) (18) 7) (x1)) ∧ ((((xand ((F) (18) 7) (x1)) = (0)) → (xPT (F) → xW X d 40 18 [.ref (18), vi (x1), vi (x2), vi (x3)] [] (F) (xqi Q))) ∧ (¬ ((xand ((F) (18) 7) (x1)) = (0)) → (∃ (j1 : Nat), j1 < d ∧ xMV X j1 31 [.ref (18), vi (1), vi ((F) (18) 9)] (F) (fun (G1 : XF) => (xPT (G1) → xW X d 40 18 [.ref (18), vi (x1), vi (x2), vi (x3)] [] (G1) (xqi Q))))))) : xW X d 40 0 [.ref (18), vi (x1), vi (x2), vi (x3)] [] F (xqi Q) := by
  refine xw_aload_n (n := 1) (show xlook 40 0 = some (0, .aload_n 0, 1, 0, 0, 0, 0) from xlk (by decide +kernel)) rfl rfl ?_
  refine xw_geti (show xlook 40 1 = some (1, .getfield 47, 3, 5, 7, 0, 51) from xlk (by decide +kernel)) (by decide) (xobf xob_5 (by decide) (by decide)) rfl (n := 4) rfl ?_
  refine xw_iload_n (n := 5) (show xlook 40 4 = some (4, .iload_n 1, 1, 0, 0, 0, 0) from xlk (by decide +kernel)) rfl rfl ?_
  refine xw_iand (n := 6) (show xlook 40 5 = some (5, .iand, 1, 0, 0, 0, 0) from xlk (by decide +kernel)) rfl ?_
  obtain ⟨q0, t⟩ := t
  refine xw_if_eq (n := 9) (m := 18) (show xlook 40 6 = some (6, .ifCond .eq 12, 3, 18, 0, 0, 0) from xlk (by decide +kernel)) rfl rfl q0 ⟨fun c => ?_, fun c => ?_⟩
  · replace t := t.1 c
    exact t hPT
  · replace t := t.2 c
    refine xw_aload_n (n := 10) (show xlook 40 9 = some (9, .aload_n 0, 1, 0, 0, 0, 0) from xlk (by decide +kernel)) rfl rfl ?_
    refine xw_iconst (n := 11) (show xlook 40 10 = some (10, .iconst 1, 1, 0, 0, 0, 0) from xlk (by decide +kernel)) rfl ?_
    refine xw_aload_n (n := 12) (show xlook 40 11 = some (11, .aload_n 0, 1, 0, 0, 0, 0) from xlk (by decide +kernel)) rfl rfl ?_
    refine xw_geti (show xlook 40 12 = some (12, .getfield 62, 3, 5, 9, 0, 54) from xlk (by decide +kernel)) (by decide) (xobf xob_5 (by decide) (by decide)) rfl (n := 15) rfl ?_
    obtain ⟨j1, hj1, rr1, G1, hm1, hG1, t⟩ := t
    obtain ⟨rfl, t⟩ := t
    refine xw_callv (dk := j1) (o := 18) (as := [vi (1), vi ((F) (18) 9)]) (show xlook 40 15 = some (15, .invokevirtual 89, 3, 31, 3, 0, 37) from xlk (by decide +kernel)) (by decide) hj1 ⟨Nat.le_of_ble_eq_true rfl, Nat.le_of_ble_eq_true rfl, Nat.le_of_ble_eq_true rfl⟩ ⟨xob_5.1, xob_5.2, by decide⟩ rfl hm1 (n := 18) rfl ?_
    show xW X d 40 18 [.ref (18), vi (x1), vi (x2), vi (x3)] [] G1 (xqi Q)
    exact t hG1
theorem m40 {X : List Int32} {d : Nat} {F : XF} {Q : Int → XF → Prop} {x1 : Int} {x2 : Int} {x3 : Int} (hPT : xPT F)  (t : inR (xand ((F) (18) 7) (x1)) ∧ ((((xand ((F) (18) 7) (x1)) = (0)) → (xPT (F) → xW X d 40 18 [.ref (18), vi (x1), vi (x2), vi (x3)] [] (F) (xqi Q))) ∧ (¬ ((xand ((F) (18) 7) (x1)) = (0)) → (∃ (j1 : Nat), j1 < d ∧ xMV X j1 31 [.ref (18), vi (1), vi ((F) (18) 9)] (F) (fun (G1 : XF) => (xPT (G1) → xW X d 40 18 [.ref (18), vi (x1), vi (x2), vi (x3)] [] (G1) (xqi Q))))))) : xMI X d 40 [.ref (18), vi (x1), vi (x2), vi (x3)] F Q := by
  show xW X d 40 0 [.ref (18), vi (x1), vi (x2), vi (x3)] [] F (xqi Q)
  exact s40_0 hPT  t

theorem s40_18 {X : List Int32} {d : Nat} {F : XF} {Q : Int → XF → Prop} {x1 : Int} {x2 : Int} {x3 : Int} (hPT : xPT F)  (t : inR ((F) (18) 1) ∧ (((((F) (18) 1) = (0)) → (∃ (j1 : Nat), j1 < d ∧ xMV X j1 32 [.ref (18)] (xup (F) (18) 7 (xior ((F) (18) 7) (x1))) (fun (G1 : XF) => (∃ (j2 : Nat), j2 < d ∧ xMI X j2 37 [.ref (18), vi (x2), vi (x3)] (G1) (fun (y2 : Int) (G2 : XF) => (xPT (G2) → Q (y2) (G2))))))) ∧ (¬ (((F) (18) 1) = (0)) → (xPT (xup (F) (18) 7 (xior ((F) (18) 7) (x1))) → Q (x2) (xup (F) (18) 7 (xior ((F) (18) 7) (x1))))))) : xW X d 40 18 [.ref (18), vi (x1), vi (x2), vi (x3)] [] F (xqi Q) := by
  refine xw_aload_n (n := 19) (show xlook 40 18 = some (18, .aload_n 0, 1, 0, 0, 0, 0) from xlk (by decide +kernel)) rfl rfl ?_
  refine xw_dupr (n := 20) (show xlook 40 19 = some (19, .dup, 1, 0, 0, 0, 0) from xlk (by decide +kernel)) rfl ?_
  refine xw_geti (show xlook 40 20 = some (20, .getfield 47, 3, 5, 7, 0, 51) from xlk (by decide +kernel)) (by decide) (xobf xob_5 (by decide) (by decide)) rfl (n := 23) rfl ?_
  refine xw_iload_n (n := 24) (show xlook 40 23 = some (23, .iload_n 1, 1, 0, 0, 0, 0) from xlk (by decide +kernel)) rfl rfl ?_
  refine xw_ior (n := 25) (show xlook 40 24 = some (24, .ior, 1, 0, 0, 0, 0) from xlk (by decide +kernel)) rfl ?_
  refine xw_puti (show xlook 40 25 = some (25, .putfield 47, 3, 5, 7, 0, 51) from xlk (by decide +kernel)) (xobf xob_5 (by decide) (by decide)) rfl (n := 28) rfl ?_
  refine xw_aload_n (n := 29) (show xlook 40 28 = some (28, .aload_n 0, 1, 0, 0, 0, 0) from xlk (by decide +kernel)) rfl rfl ?_
  refine xw_geti2 (u := (F) (18) 1) (show xlook 40 29 = some (29, .getfield 41, 3, 5, 1, 0, 49) from xlk (by decide +kernel)) (by decide) (xobf xob_5 (by decide) (by decide)) rfl (xup_i (by decide)) (n := 32) rfl ?_
  obtain ⟨q0, t⟩ := t
  refine xw_if_eq (n := 35) (m := 37) (show xlook 40 32 = some (32, .ifCond .eq 5, 3, 37, 0, 0, 0) from xlk (by decide +kernel)) rfl rfl q0 ⟨fun c => ?_, fun c => ?_⟩
  · replace t := t.1 c
    refine xw_aload_n (n := 38) (show xlook 40 37 = some (37, .aload_n 0, 1, 0, 0, 0, 0) from xlk (by decide +kernel)) rfl rfl ?_
    obtain ⟨j1, hj1, rr1, G1, hm1, hG1, t⟩ := t
    obtain ⟨rfl, t⟩ := t
    refine xw_callv (dk := j1) (o := 18) (as := []) (show xlook 40 38 = some (38, .invokevirtual 53, 3, 32, 1, 0, 30) from xlk (by decide +kernel)) (by decide) hj1 ⟨Nat.le_of_ble_eq_true rfl, Nat.le_of_ble_eq_true rfl, Nat.le_of_ble_eq_true rfl⟩ ⟨xob_5.1, xob_5.2, by decide⟩ rfl hm1 (n := 41) rfl ?_
    show xW X d 40 41 [.ref (18), vi (x1), vi (x2), vi (x3)] [] G1 (xqi Q)
    refine xw_aload_n (n := 42) (show xlook 40 41 = some (41, .aload_n 0, 1, 0, 0, 0, 0) from xlk (by decide +kernel)) rfl rfl ?_
    refine xw_iload_n (n := 43) (show xlook 40 42 = some (42, .iload_n 2, 1, 0, 0, 0, 0) from xlk (by decide +kernel)) rfl rfl ?_
    refine xw_iload_n (n := 44) (show xlook 40 43 = some (43, .iload_n 3, 1, 0, 0, 0, 0) from xlk (by decide +kernel)) rfl rfl ?_
    obtain ⟨j2, hj2, rr2, G2, hm2, hG2, t⟩ := t
    obtain ⟨y2, rfl, t⟩ := t
    refine xw_callv (dk := j2) (o := 18) (as := [vi (x2), vi (x3)]) (show xlook 40 44 = some (44, .invokevirtual 119, 3, 37, 3, 0, 41) from xlk (by decide +kernel)) (by decide) hj2 ⟨Nat.le_of_ble_eq_true rfl, Nat.le_of_ble_eq_true rfl, Nat.le_of_ble_eq_true rfl⟩ ⟨xob_5.1, xob_5.2, by decide⟩ rfl hm2 (n := 47) rfl ?_
    show xW X d 40 47 [.ref (18), vi (x1), vi (x2), vi (x3)] [vi (y2)] G2 (xqi Q)
    exact xw_ireturn hG2 (show xlook 40 47 = some (47, .ireturn, 1, 0, 0, 0, 0) from xlk (by decide +kernel)) rfl (t hG2)
  · replace t := t.2 c
    refine xw_iload_n (n := 36) (show xlook 40 35 = some (35, .iload_n 2, 1, 0, 0, 0, 0) from xlk (by decide +kernel)) rfl rfl ?_
    exact xw_ireturn (xPT_fld (k := 7) hPT xob_5 (by decide) (by decide)) (show xlook 40 36 = some (36, .ireturn, 1, 0, 0, 0, 0) from xlk (by decide +kernel)) rfl (t (xPT_fld (k := 7) hPT xob_5 (by decide) (by decide)))

theorem s41_0 {X : List Int32} {d : Nat} {F : XF} {Q : XF → Prop}  (hPT : xPT F)  (t : ∃ (j1 : Nat), j1 < d ∧ xMI X j1 35 [.ref (18), .ref (xSB + 2 * 4)] (xup (F) (18) 7 (xior ((F) (18) 7) (16))) (fun (y1 : Int) (G1 : XF) => (inR (y1) ∧ ((((y1) = (0)) → (∃ (j2 : Nat), j2 < d ∧ xMI X j2 35 [.ref (18), .ref (xSB + 2 * 11)] (G1) (fun (y2 : Int) (G2 : XF) => (inR (y2) ∧ ((((y2) = (0)) → (∃ (j3 : Nat), j3 < d ∧ xMI X j3 35 [.ref (18), .ref (xSB + 2 * 13)] (G2) (fun (y3 : Int) (G3 : XF) => (inR (y3) ∧ ((((y3) = (0)) → (∃ (j4 : Nat), j4 < d ∧ xMI X j4 35 [.ref (18), .ref (xSB + 2 * 14)] (G3) (fun (y4 : Int) (G4 : XF) => (inR (y4) ∧ ((((y4) = (0)) → (∃ (j5 : Nat), j5 < d ∧ xMI X j5 35 [.ref (18), .ref (xSB + 2 * 15)] (G4) (fun (y5 : Int) (G5 : XF) => (inR (y5) ∧ ((((y5) = (0)) → (∃ (j6 : Nat), j6 < d ∧ xMV X j6 31 [.ref (18), vi (1), vi ((G5) (18) 9)] (G5) (fun (G6 : XF) => (xPT (G6) → Q (G6))))) ∧ (¬ ((y5) = (0)) → (∃ (j7 : Nat), j7 < d ∧ xMV X j7 46 [.ref (18)] (G5) (fun (G7 : XF) => (xPT (G7) → Q (G7)))))))))) ∧ (¬ ((y4) = (0)) → (∃ (j8 : Nat), j8 < d ∧ xMV X j8 45 [.ref (18)] (G4) (fun (G8 : XF) => (xPT (G8) → Q (G8)))))))))) ∧ (¬ ((y3) = (0)) → (∃ (j9 : Nat), j9 < d ∧ xMV X j9 44 [.ref (18)] (G3) (fun (G9 : XF) => (xPT (G9) → Q (G9)))))))))) ∧ (¬ ((y2) = (0)) → (∃ (j10 : Nat), j10 < d ∧ xMV X j10 43 [.ref (18)] (G2) (fun (G10 : XF) => (xPT (G10) → Q (G10)))))))))) ∧ (¬ ((y1) = (0)) → (∃ (j11 : Nat), j11 < d ∧ xMV X j11 42 [.ref (18)] (G1) (fun (G11 : XF) => (xPT (G11) → Q (G11))))))))) : xW X d 41 0 [.ref (18)] [] F (xqv Q) := by
  refine xw_aload_n (n := 1) (show xlook 41 0 = some (0, .aload_n 0, 1, 0, 0, 0, 0) from xlk (by decide +kernel)) rfl rfl ?_
  refine xw_dupr (n := 2) (show xlook 41 1 = some (1, .dup, 1, 0, 0, 0, 0) from xlk (by decide +kernel)) rfl ?_
  refine xw_geti (show xlook 41 2 = some (2, .getfield 47, 3, 5, 7, 0, 51) from xlk (by decide +kernel)) (by decide) (xobf xob_5 (by decide) (by decide)) rfl (n := 5) rfl ?_
  refine xw_bipush (n := 7) (show xlook 41 5 = some (5, .bipush 16, 2, 0, 0, 0, 0) from xlk (by decide +kernel)) rfl (by decide) ?_
  refine xw_ior (n := 8) (show xlook 41 7 = some (7, .ior, 1, 0, 0, 0, 0) from xlk (by decide +kernel)) rfl ?_
  refine xw_puti (show xlook 41 8 = some (8, .putfield 47, 3, 5, 7, 0, 51) from xlk (by decide +kernel)) (xobf xob_5 (by decide) (by decide)) rfl (n := 11) rfl ?_
  refine xw_aload_n (n := 12) (show xlook 41 11 = some (11, .aload_n 0, 1, 0, 0, 0, 0) from xlk (by decide +kernel)) rfl rfl ?_
  refine xw_ldcs (n := 14) (show xlook 41 12 = some (12, .ldc 122, 2, 4, 1, 0, 0) from xlk (by decide +kernel)) rfl (by decide) ?_
  obtain ⟨j1, hj1, rr1, G1, hm1, hG1, t⟩ := t
  obtain ⟨y1, rfl, t⟩ := t
  refine xw_callv (dk := j1) (o := 18) (as := [.ref (xSB + 2 * 4)]) (show xlook 41 14 = some (14, .invokevirtual 85, 3, 35, 2, 0, 36) from xlk (by decide +kernel)) (by decide) hj1 ⟨Nat.le_of_ble_eq_true rfl, Nat.le_of_ble_eq_true rfl, Nat.le_of_ble_eq_true rfl⟩ ⟨xob_5.1, xob_5.2, by decide⟩ rfl hm1 (n := 17) rfl ?_
  show xW X d 41 17 [.ref (18)] [vi (y1)] G1 (xqv Q)
  obtain ⟨q0, t⟩ := t
  refine xw_if_eq (n := 20) (m := 27) (show xlook 41 17 = some (17, .ifCond .eq 10, 3, 27, 0, 0, 0) from xlk (by decide +kernel)) rfl rfl q0 ⟨fun c => ?_, fun c => ?_⟩
  · replace t := t.1 c
    refine xw_aload_n (n := 28) (show xlook 41 27 = some (27, .aload_n 0, 1, 0, 0, 0, 0) from xlk (by decide +kernel)) rfl rfl ?_
    refine xw_ldcs (n := 30) (show xlook 41 28 = some (28, .ldc 127, 2, 11, 1, 0, 0) from xlk (by decide +kernel)) rfl (by decide) ?_
    obtain ⟨j2, hj2, rr2, G2, hm2, hG2, t⟩ := t
    obtain ⟨y2, rfl, t⟩ := t
    refine xw_callv (dk := j2) (o := 18) (as := [.ref (xSB + 2 * 11)]) (show xlook 41 30 = some (30, .invokevirtual 85, 3, 35, 2, 0, 36) from xlk (by decide +kernel)) (by decide) hj2 ⟨Nat.le_of_ble_eq_true rfl, Nat.le_of_ble_eq_true rfl, Nat.le_of_ble_eq_true rfl⟩ ⟨xob_5.1, xob_5.2, by decide⟩ rfl hm2 (n := 33) rfl ?_
    show xW X d 41 33 [.ref (18)] [vi (y2)] G2 (xqv Q)
    obtain ⟨q0, t⟩ := t
    refine xw_if_eq (n := 36) (m := 43) (show xlook 41 33 = some (33, .ifCond .eq 10, 3, 43, 0, 0, 0) from xlk (by decide +kernel)) rfl rfl q0 ⟨fun c => ?_, fun c => ?_⟩
    · replace t := t.1 c
      refine xw_aload_n (n := 44) (show xlook 41 43 = some (43, .aload_n 0, 1, 0, 0, 0, 0) from xlk (by decide +kernel)) rfl rfl ?_
      refine xw_ldcs (n := 46) (show xlook 41 44 = some (44, .ldc 132, 2, 13, 1, 0, 0) from xlk (by decide +kernel)) rfl (by decide) ?_
      obtain ⟨j3, hj3, rr3, G3, hm3, hG3, t⟩ := t
      obtain ⟨y3, rfl, t⟩ := t
      refine xw_callv (dk := j3) (o := 18) (as := [.ref (xSB + 2 * 13)]) (show xlook 41 46 = some (46, .invokevirtual 85, 3, 35, 2, 0, 36) from xlk (by decide +kernel)) (by decide) hj3 ⟨Nat.le_of_ble_eq_true rfl, Nat.le_of_ble_eq_true rfl, Nat.le_of_ble_eq_true rfl⟩ ⟨xob_5.1, xob_5.2, by decide⟩ rfl hm3 (n := 49) rfl ?_
      show xW X d 41 49 [.ref (18)] [vi (y3)] G3 (xqv Q)
      obtain ⟨q0, t⟩ := t
      refine xw_if_eq (n := 52) (m := 59) (show xlook 41 49 = some (49, .ifCond .eq 10, 3, 59, 0, 0, 0) from xlk (by decide +kernel)) rfl rfl q0 ⟨fun c => ?_, fun c => ?_⟩
      · replace t := t.1 c
        refine xw_aload_n (n := 60) (show xlook 41 59 = some (59, .aload_n 0, 1, 0, 0, 0, 0) from xlk (by decide +kernel)) rfl rfl ?_
        refine xw_ldcs (n := 62) (show xlook 41 60 = some (60, .ldc 137, 2, 14, 1, 0, 0) from xlk (by decide +kernel)) rfl (by decide) ?_
        obtain ⟨j4, hj4, rr4, G4, hm4, hG4, t⟩ := t
        obtain ⟨y4, rfl, t⟩ := t
        refine xw_callv (dk := j4) (o := 18) (as := [.ref (xSB + 2 * 14)]) (show xlook 41 62 = some (62, .invokevirtual 85, 3, 35, 2, 0, 36) from xlk (by decide +kernel)) (by decide) hj4 ⟨Nat.le_of_ble_eq_true rfl, Nat.le_of_ble_eq_true rfl, Nat.le_of_ble_eq_true rfl⟩ ⟨xob_5.1, xob_5.2, by decide⟩ rfl hm4 (n := 65) rfl ?_
        show xW X d 41 65 [.ref (18)] [vi (y4)] G4 (xqv Q)
        obtain ⟨q0, t⟩ := t
        refine xw_if_eq (n := 68) (m := 75) (show xlook 41 65 = some (65, .ifCond .eq 10, 3, 75, 0, 0, 0) from xlk (by decide +kernel)) rfl rfl q0 ⟨fun c => ?_, fun c => ?_⟩
        · replace t := t.1 c
          refine xw_aload_n (n := 76) (show xlook 41 75 = some (75, .aload_n 0, 1, 0, 0, 0, 0) from xlk (by decide +kernel)) rfl rfl ?_
          refine xw_ldcs (n := 78) (show xlook 41 76 = some (76, .ldc 142, 2, 15, 1, 0, 0) from xlk (by decide +kernel)) rfl (by decide) ?_
          obtain ⟨j5, hj5, rr5, G5, hm5, hG5, t⟩ := t
          obtain ⟨y5, rfl, t⟩ := t
          refine xw_callv (dk := j5) (o := 18) (as := [.ref (xSB + 2 * 15)]) (show xlook 41 78 = some (78, .invokevirtual 85, 3, 35, 2, 0, 36) from xlk (by decide +kernel)) (by decide) hj5 ⟨Nat.le_of_ble_eq_true rfl, Nat.le_of_ble_eq_true rfl, Nat.le_of_ble_eq_true rfl⟩ ⟨xob_5.1, xob_5.2, by decide⟩ rfl hm5 (n := 81) rfl ?_
          show xW X d 41 81 [.ref (18)] [vi (y5)] G5 (xqv Q)
          obtain ⟨q0, t⟩ := t
          refine xw_if_eq (n := 84) (m := 91) (show xlook 41 81 = some (81, .ifCond .eq 10, 3, 91, 0, 0, 0) from xlk (by decide +kernel)) rfl rfl q0 ⟨fun c => ?_, fun c => ?_⟩
          · replace t := t.1 c
            refine xw_aload_n (n := 92) (show xlook 41 91 = some (91, .aload_n 0, 1, 0, 0, 0, 0) from xlk (by decide +kernel)) rfl rfl ?_
            refine xw_iconst (n := 93) (show xlook 41 92 = some (92, .iconst 1, 1, 0, 0, 0, 0) from xlk (by decide +kernel)) rfl ?_
            refine xw_aload_n (n := 94) (show xlook 41 93 = some (93, .aload_n 0, 1, 0, 0, 0, 0) from xlk (by decide +kernel)) rfl rfl ?_
            refine xw_geti (show xlook 41 94 = some (94, .getfield 62, 3, 5, 9, 0, 54) from xlk (by decide +kernel)) (by decide) (xobf xob_5 (by decide) (by decide)) rfl (n := 97) rfl ?_
            obtain ⟨j6, hj6, rr6, G6, hm6, hG6, t⟩ := t
            obtain ⟨rfl, t⟩ := t
            refine xw_callv (dk := j6) (o := 18) (as := [vi (1), vi ((G5) (18) 9)]) (show xlook 41 97 = some (97, .invokevirtual 89, 3, 31, 3, 0, 37) from xlk (by decide +kernel)) (by decide) hj6 ⟨Nat.le_of_ble_eq_true rfl, Nat.le_of_ble_eq_true rfl, Nat.le_of_ble_eq_true rfl⟩ ⟨xob_5.1, xob_5.2, by decide⟩ rfl hm6 (n := 100) rfl ?_
            show xW X d 41 100 [.ref (18)] [] G6 (xqv Q)
            exact xw_return hG6 (show xlook 41 100 = some (100, .return_, 1, 0, 0, 0, 0) from xlk (by decide +kernel)) rfl (t hG6)
          · replace t := t.2 c
            refine xw_aload_n (n := 85) (show xlook 41 84 = some (84, .aload_n 0, 1, 0, 0, 0, 0) from xlk (by decide +kernel)) rfl rfl ?_
            obtain ⟨j7, hj7, rr7, G7, hm7, hG7, t⟩ := t
            obtain ⟨rfl, t⟩ := t
            refine xw_callv (dk := j7) (o := 18) (as := []) (show xlook 41 85 = some (85, .invokevirtual 144, 3, 46, 1, 0, 46) from xlk (by decide +kernel)) (by decide) hj7 ⟨Nat.le_of_ble_eq_true rfl, Nat.le_of_ble_eq_true rfl, Nat.le_of_ble_eq_true rfl⟩ ⟨xob_5.1, xob_5.2, by decide⟩ rfl hm7 (n := 88) rfl ?_
            show xW X d 41 88 [.ref (18)] [] G7 (xqv Q)
            refine xw_goto (m := 100) (show xlook 41 88 = some (88, .goto 12, 3, 100, 0, 0, 0) from xlk (by decide +kernel)) rfl ?_
            exact xw_return hG7 (show xlook 41 100 = some (100, .return_, 1, 0, 0, 0, 0) from xlk (by decide +kernel)) rfl (t hG7)
        · replace t := t.2 c
          refine xw_aload_n (n := 69) (show xlook 41 68 = some (68, .aload_n 0, 1, 0, 0, 0, 0) from xlk (by decide +kernel)) rfl rfl ?_
          obtain ⟨j8, hj8, rr8, G8, hm8, hG8, t⟩ := t
          obtain ⟨rfl, t⟩ := t
          refine xw_callv (dk := j8) (o := 18) (as := []) (show xlook 41 69 = some (69, .invokevirtual 139, 3, 45, 1, 0, 45) from xlk (by decide +kernel)) (by decide) hj8 ⟨Nat.le_of_ble_eq_true rfl, Nat.le_of_ble_eq_true rfl, Nat.le_of_ble_eq_true rfl⟩ ⟨xob_5.1, xob_5.2, by decide⟩ rfl hm8 (n := 72) rfl ?_
          show xW X d 41 72 [.ref (18)] [] G8 (xqv Q)
          refine xw_goto (m := 100) (show xlook 41 72 = some (72, .goto 28, 3, 100, 0, 0, 0) from xlk (by decide +kernel)) rfl ?_
          exact xw_return hG8 (show xlook 41 100 = some (100, .return_, 1, 0, 0, 0, 0) from xlk (by decide +kernel)) rfl (t hG8)
      · replace t := t.2 c
        refine xw_aload_n (n := 53) (show xlook 41 52 = some (52, .aload_n 0, 1, 0, 0, 0, 0) from xlk (by decide +kernel)) rfl rfl ?_
        obtain ⟨j9, hj9, rr9, G9, hm9, hG9, t⟩ := t
        obtain ⟨rfl, t⟩ := t
        refine xw_callv (dk := j9) (o := 18) (as := []) (show xlook 41 53 = some (53, .invokevirtual 134, 3, 44, 1, 0, 44) from xlk (by decide +kernel)) (by decide) hj9 ⟨Nat.le_of_ble_eq_true rfl, Nat.le_of_ble_eq_true rfl, Nat.le_of_ble_eq_true rfl⟩ ⟨xob_5.1, xob_5.2, by decide⟩ rfl hm9 (n := 56) rfl ?_
        show xW X d 41 56 [.ref (18)] [] G9 (xqv Q)
        refine xw_goto (m := 100) (show xlook 41 56 = some (56, .goto 44, 3, 100, 0, 0, 0) from xlk (by decide +kernel)) rfl ?_
        exact xw_return hG9 (show xlook 41 100 = some (100, .return_, 1, 0, 0, 0, 0) from xlk (by decide +kernel)) rfl (t hG9)
    · replace t := t.2 c
      refine xw_aload_n (n := 37) (show xlook 41 36 = some (36, .aload_n 0, 1, 0, 0, 0, 0) from xlk (by decide +kernel)) rfl rfl ?_
      obtain ⟨j10, hj10, rr10, G10, hm10, hG10, t⟩ := t
      obtain ⟨rfl, t⟩ := t
      refine xw_callv (dk := j10) (o := 18) (as := []) (show xlook 41 37 = some (37, .invokevirtual 129, 3, 43, 1, 0, 43) from xlk (by decide +kernel)) (by decide) hj10 ⟨Nat.le_of_ble_eq_true rfl, Nat.le_of_ble_eq_true rfl, Nat.le_of_ble_eq_true rfl⟩ ⟨xob_5.1, xob_5.2, by decide⟩ rfl hm10 (n := 40) rfl ?_
      show xW X d 41 40 [.ref (18)] [] G10 (xqv Q)
      refine xw_goto (m := 100) (show xlook 41 40 = some (40, .goto 60, 3, 100, 0, 0, 0) from xlk (by decide +kernel)) rfl ?_
      exact xw_return hG10 (show xlook 41 100 = some (100, .return_, 1, 0, 0, 0, 0) from xlk (by decide +kernel)) rfl (t hG10)
  · replace t := t.2 c
    refine xw_aload_n (n := 21) (show xlook 41 20 = some (20, .aload_n 0, 1, 0, 0, 0, 0) from xlk (by decide +kernel)) rfl rfl ?_
    obtain ⟨j11, hj11, rr11, G11, hm11, hG11, t⟩ := t
    obtain ⟨rfl, t⟩ := t
    refine xw_callv (dk := j11) (o := 18) (as := []) (show xlook 41 21 = some (21, .invokevirtual 124, 3, 42, 1, 0, 42) from xlk (by decide +kernel)) (by decide) hj11 ⟨Nat.le_of_ble_eq_true rfl, Nat.le_of_ble_eq_true rfl, Nat.le_of_ble_eq_true rfl⟩ ⟨xob_5.1, xob_5.2, by decide⟩ rfl hm11 (n := 24) rfl ?_
    show xW X d 41 24 [.ref (18)] [] G11 (xqv Q)
    refine xw_goto (m := 100) (show xlook 41 24 = some (24, .goto 76, 3, 100, 0, 0, 0) from xlk (by decide +kernel)) rfl ?_
    exact xw_return hG11 (show xlook 41 100 = some (100, .return_, 1, 0, 0, 0, 0) from xlk (by decide +kernel)) rfl (t hG11)
theorem m41 {X : List Int32} {d : Nat} {F : XF} {Q : XF → Prop}  (hPT : xPT F)  (t : ∃ (j1 : Nat), j1 < d ∧ xMI X j1 35 [.ref (18), .ref (xSB + 2 * 4)] (xup (F) (18) 7 (xior ((F) (18) 7) (16))) (fun (y1 : Int) (G1 : XF) => (inR (y1) ∧ ((((y1) = (0)) → (∃ (j2 : Nat), j2 < d ∧ xMI X j2 35 [.ref (18), .ref (xSB + 2 * 11)] (G1) (fun (y2 : Int) (G2 : XF) => (inR (y2) ∧ ((((y2) = (0)) → (∃ (j3 : Nat), j3 < d ∧ xMI X j3 35 [.ref (18), .ref (xSB + 2 * 13)] (G2) (fun (y3 : Int) (G3 : XF) => (inR (y3) ∧ ((((y3) = (0)) → (∃ (j4 : Nat), j4 < d ∧ xMI X j4 35 [.ref (18), .ref (xSB + 2 * 14)] (G3) (fun (y4 : Int) (G4 : XF) => (inR (y4) ∧ ((((y4) = (0)) → (∃ (j5 : Nat), j5 < d ∧ xMI X j5 35 [.ref (18), .ref (xSB + 2 * 15)] (G4) (fun (y5 : Int) (G5 : XF) => (inR (y5) ∧ ((((y5) = (0)) → (∃ (j6 : Nat), j6 < d ∧ xMV X j6 31 [.ref (18), vi (1), vi ((G5) (18) 9)] (G5) (fun (G6 : XF) => (xPT (G6) → Q (G6))))) ∧ (¬ ((y5) = (0)) → (∃ (j7 : Nat), j7 < d ∧ xMV X j7 46 [.ref (18)] (G5) (fun (G7 : XF) => (xPT (G7) → Q (G7)))))))))) ∧ (¬ ((y4) = (0)) → (∃ (j8 : Nat), j8 < d ∧ xMV X j8 45 [.ref (18)] (G4) (fun (G8 : XF) => (xPT (G8) → Q (G8)))))))))) ∧ (¬ ((y3) = (0)) → (∃ (j9 : Nat), j9 < d ∧ xMV X j9 44 [.ref (18)] (G3) (fun (G9 : XF) => (xPT (G9) → Q (G9)))))))))) ∧ (¬ ((y2) = (0)) → (∃ (j10 : Nat), j10 < d ∧ xMV X j10 43 [.ref (18)] (G2) (fun (G10 : XF) => (xPT (G10) → Q (G10)))))))))) ∧ (¬ ((y1) = (0)) → (∃ (j11 : Nat), j11 < d ∧ xMV X j11 42 [.ref (18)] (G1) (fun (G11 : XF) => (xPT (G11) → Q (G11))))))))) : xMV X d 41 [.ref (18)] F Q := by
  show xW X d 41 0 [.ref (18)] [] F (xqv Q)
  exact s41_0 hPT  t

theorem s42_0 {X : List Int32} {d : Nat} {F : XF} {Q : XF → Prop} {w1 : Value} {w2 : Value} (hPT : xPT F)  (t : ∃ t1 : Nat, (F) (18) 5 = (t1 : Int) ∧ xob 9 t1 ∧ (inR ((F) (t1) 4) ∧ (((((F) (t1) 4) < (10)) → (∃ (j2 : Nat), j2 < d ∧ xMV X j2 32 [.ref (18)] (F) (fun (G2 : XF) => (∃ t3 : Nat, (G2) (18) 5 = (t3 : Int) ∧ xob 9 t3 ∧ (∃ t4 : Nat, (G2) (18) 5 = (t4 : Int) ∧ xob 9 t4 ∧ ((0 ≤ ((G2) (t4) 4 : Int) ∧ ((G2) (t4) 4 : Int) < 10) ∧ (∃ t6 : Nat, (G2) (18) 5 = (t6 : Int) ∧ xob 9 t6 ∧ (inR ((G2) (t6) 4) ∧ (((¬ ((G2) (t6) 4) = (0)) → (∃ t7 : Nat, (G2) (18) 5 = (t7 : Int) ∧ xob 9 t7 ∧ (∃ t8 : Nat, (G2) (18) 5 = (t8 : Int) ∧ xob 9 t8 ∧ ((0 ≤ (((G2) (t8) 4) - (1) : Int) ∧ (((G2) (t8) 4) - (1) : Int) < 10) ∧ (∃ t10 : Nat, (G2) (18) 5 = (t10 : Int) ∧ xob 9 t10 ∧ (∃ (j11 : Nat), j11 < d ∧ xMI X j11 37 [.ref (18), vi ((G2) (t7 + 1 + 6 + (((G2) (t8) 4) - (1) : Int).toNat) 1), vi (((G2) (t10) 0) - (1))] (G2) (fun (y11 : Int) (G11 : XF) => (∃ (j12 : Nat), j12 < d ∧ xMV X j12 36 [.ref (18), .ref (xSB + 2 * 5)] (xup (G11) (t3 + 1 + 6 + ((G2) (t4) 4 : Int).toNat) 0 (y11)) (fun (G12 : XF) => (∃ t13 : Nat, (G12) (18) 5 = (t13 : Int) ∧ xob 9 t13 ∧ (inR (((G12) (t13) 0) - ((G12) (t3 + 1 + 6 + ((G2) (t4) 4 : Int).toNat) 0)) ∧ (∃ (j14 : Nat), j14 < d ∧ xMI X j14 37 [.ref (18), vi (1), vi (min (50) (((G12) (t13) 0) - ((G12) (t3 + 1 + 6 + ((G2) (t4) 4 : Int).toNat) 0)))] (G12) (fun (y14 : Int) (G14 : XF) => (∃ (j15 : Nat), j15 < d ∧ xMV X j15 36 [.ref (18), .ref (xSB + 2 * 6)] (xup (G14) (t3 + 1 + 6 + ((G2) (t4) 4 : Int).toNat) 1 (((G12) (t3 + 1 + 6 + ((G2) (t4) 4 : Int).toNat) 0) + (y14))) (fun (G15 : XF) => (∃ (j16 : Nat), j16 < d ∧ xMI X j16 37 [.ref (18), vi (1), vi (200)] (G15) (fun (y16 : Int) (G16 : XF) => (∃ (j17 : Nat), j17 < d ∧ xMV X j17 36 [.ref (18), .ref (xSB + 2 * 7)] (xup (G16) (t3 + 1 + 6 + ((G2) (t4) 4 : Int).toNat) 2 (y16)) (fun (G17 : XF) => (∃ (j18 : Nat), j18 < d ∧ xMI X j18 37 [.ref (18), vi (0), vi (((G17) (t3 + 1 + 6 + ((G2) (t4) 4 : Int).toNat) 2) - (1))] (G17) (fun (y18 : Int) (G18 : XF) => (∃ (j19 : Nat), j19 < d ∧ xMV X j19 36 [.ref (18), .ref (xSB + 2 * 8)] (xup (G18) (t3 + 1 + 6 + ((G2) (t4) 4 : Int).toNat) 3 (y18)) (fun (G19 : XF) => (∃ (j20 : Nat), j20 < d ∧ xMI X j20 37 [.ref (18), vi (((G19) (t3 + 1 + 6 + ((G2) (t4) 4 : Int).toNat) 3) + (1)), vi ((G19) (t3 + 1 + 6 + ((G2) (t4) 4 : Int).toNat) 2)] (G19) (fun (y20 : Int) (G20 : XF) => (∃ (j21 : Nat), j21 < d ∧ xMV X j21 36 [.ref (18), .ref (xSB + 2 * 9)] (xup (G20) (t3 + 1 + 6 + ((G2) (t4) 4 : Int).toNat) 4 (y20)) (fun (G21 : XF) => (∃ (j22 : Nat), j22 < d ∧ xMI X j22 37 [.ref (18), vi (0), vi (99)] (G21) (fun (y22 : Int) (G22 : XF) => (∃ (j23 : Nat), j23 < d ∧ xMV X j23 36 [.ref (18), .ref (xSB + 2 * 10)] (xup (G22) (t3 + 1 + 6 + ((G2) (t4) 4 : Int).toNat) 5 (y22)) (fun (G23 : XF) => (∃ (j24 : Nat), j24 < d ∧ xMI X j24 37 [.ref (18), vi (1), vi (20)] (G23) (fun (y24 : Int) (G24 : XF) => (∃ t25 : Nat, (xup (G24) (t3 + 1 + 6 + ((G2) (t4) 4 : Int).toNat) 6 (y24)) (18) 5 = (t25 : Int) ∧ xob 9 t25 ∧ (xPT (xup (xup (G24) (t3 + 1 + 6 + ((G2) (t4) 4 : Int).toNat) 6 (y24)) (t25) 4 (((xup (G24) (t3 + 1 + 6 + ((G2) (t4) 4 : Int).toNat) 6 (y24)) (t25) 4) + (1))) → Q (xup (xup (G24) (t3 + 1 + 6 + ((G2) (t4) 4 : Int).toNat) 6 (y24)) (t25) 4 (((xup (G24) (t3 + 1 + 6 + ((G2) (t4) 4 : Int).toNat) 6 (y24)) (t25) 4) + (1)))))))))))))))))))))))))))))))))))))) ∧ (¬ (¬ ((G2) (t6) 4) = (0)) → (∃ t26 : Nat, (G2) (18) 5 = (t26 : Int) ∧ xob 9 t26 ∧ (∃ (j27 : Nat), j27 < d ∧ xMI X j27 37 [.ref (18), vi (0), vi (((G2) (t26) 0) - (1))] (G2) (fun (y27 : Int) (G27 : XF) => (∃ (j28 : Nat), j28 < d ∧ xMV X j28 36 [.ref (18), .ref (xSB + 2 * 5)] (xup (G27) (t3 + 1 + 6 + ((G2) (t4) 4 : Int).toNat) 0 (y27)) (fun (G28 : XF) => (∃ t29 : Nat, (G28) (18) 5 = (t29 : Int) ∧ xob 9 t29 ∧ (inR (((G28) (t29) 0) - ((G28) (t3 + 1 + 6 + ((G2) (t4) 4 : Int).toNat) 0)) ∧ (∃ (j30 : Nat), j30 < d ∧ xMI X j30 37 [.ref (18), vi (1), vi (min (50) (((G28) (t29) 0) - ((G28) (t3 + 1 + 6 + ((G2) (t4) 4 : Int).toNat) 0)))] (G28) (fun (y30 : Int) (G30 : XF) => (∃ (j31 : Nat), j31 < d ∧ xMV X j31 36 [.ref (18), .ref (xSB + 2 * 6)] (xup (G30) (t3 + 1 + 6 + ((G2) (t4) 4 : Int).toNat) 1 (((G28) (t3 + 1 + 6 + ((G2) (t4) 4 : Int).toNat) 0) + (y30))) (fun (G31 : XF) => (∃ (j32 : Nat), j32 < d ∧ xMI X j32 37 [.ref (18), vi (1), vi (200)] (G31) (fun (y32 : Int) (G32 : XF) => (∃ (j33 : Nat), j33 < d ∧ xMV X j33 36 [.ref (18), .ref (xSB + 2 * 7)] (xup (G32) (t3 + 1 + 6 + ((G2) (t4) 4 : Int).toNat) 2 (y32)) (fun (G33 : XF) => (∃ (j34 : Nat), j34 < d ∧ xMI X j34 37 [.ref (18), vi (0), vi (((G33) (t3 + 1 + 6 + ((G2) (t4) 4 : Int).toNat) 2) - (1))] (G33) (fun (y34 : Int) (G34 : XF) => (∃ (j35 : Nat), j35 < d ∧ xMV X j35 36 [.ref (18), .ref (xSB + 2 * 8)] (xup (G34) (t3 + 1 + 6 + ((G2) (t4) 4 : Int).toNat) 3 (y34)) (fun (G35 : XF) => (∃ (j36 : Nat), j36 < d ∧ xMI X j36 37 [.ref (18), vi (((G35) (t3 + 1 + 6 + ((G2) (t4) 4 : Int).toNat) 3) + (1)), vi ((G35) (t3 + 1 + 6 + ((G2) (t4) 4 : Int).toNat) 2)] (G35) (fun (y36 : Int) (G36 : XF) => (∃ (j37 : Nat), j37 < d ∧ xMV X j37 36 [.ref (18), .ref (xSB + 2 * 9)] (xup (G36) (t3 + 1 + 6 + ((G2) (t4) 4 : Int).toNat) 4 (y36)) (fun (G37 : XF) => (∃ (j38 : Nat), j38 < d ∧ xMI X j38 37 [.ref (18), vi (0), vi (99)] (G37) (fun (y38 : Int) (G38 : XF) => (∃ (j39 : Nat), j39 < d ∧ xMV X j39 36 [.ref (18), .ref (xSB + 2 * 10)] (xup (G38) (t3 + 1 + 6 + ((G2) (t4) 4 : Int).toNat) 5 (y38)) (fun (G39 : XF) => (∃ (j40 : Nat), j40 < d ∧ xMI X j40 37 [.ref (18), vi (1), vi (20)] (G39) (fun (y40 : Int) (G40 : XF) => (∃ t41 : Nat, (xup (G40) (t3 + 1 + 6 + ((G2) (t4) 4 : Int).toNat) 6 (y40)) (18) 5 = (t41 : Int) ∧ xob 9 t41 ∧ (xPT (xup (xup (G40) (t3 + 1 + 6 + ((G2) (t4) 4 : Int).toNat) 6 (y40)) (t41) 4 (((xup (G40) (t3 + 1 + 6 + ((G2) (t4) 4 : Int).toNat) 6 (y40)) (t41) 4) + (1))) → Q (xup (xup (G40) (t3 + 1 + 6 + ((G2) (t4) 4 : Int).toNat) 6 (y40)) (t41) 4 (((xup (G40) (t3 + 1 + 6 + ((G2) (t4) 4 : Int).toNat) 6 (y40)) (t41) 4) + (1)))))))))))))))))))))))))))))))))))))))))))) ∧ (¬ (((F) (t1) 4) < (10)) → (∃ (j42 : Nat), j42 < d ∧ xMV X j42 31 [.ref (18), vi (3), vi ((F) (18) 9)] (F) (fun (G42 : XF) => (xPT (G42) → Q (G42)))))))) : xW X d 42 0 [.ref (18), w1, w2] [] F (xqv Q) := by
  refine xw_aload_n (n := 1) (show xlook 42 0 = some (0, .aload_n 0, 1, 0, 0, 0, 0) from xlk (by decide +kernel)) rfl rfl ?_
  obtain ⟨t1, q1, ht1, t⟩ := t
  refine xw_getr (q := t1) (show xlook 42 1 = some (1, .getfield 22, 3, 5, 5, 0, 46) from xlk (by decide +kernel)) (by decide) (xobf xob_5 (by decide) (by decide)) rfl q1 (by have := ht1.1; omega) (n := 4) rfl ?_
  refine xw_geti (show xlook 42 4 = some (4, .getfield 147, 3, 9, 4, 0, 60) from xlk (by decide +kernel)) (by decide) (xobf ht1 (by decide) (by decide)) rfl (n := 7) rfl ?_
  refine xw_bipush (n := 9) (show xlook 42 7 = some (7, .bipush 10, 2, 0, 0, 0, 0) from xlk (by decide +kernel)) rfl (by decide) ?_
  obtain ⟨q0, t⟩ := t
  refine xw_icmp_lt (n := 12) (m := 22) (show xlook 42 9 = some (9, .if_icmp .lt 13, 3, 22, 0, 0, 0) from xlk (by decide +kernel)) rfl rfl q0 ⟨by decide, by decide⟩ ⟨fun c => ?_, fun c => ?_⟩
  · replace t := t.1 c
    refine xw_aload_n (n := 23) (show xlook 42 22 = some (22, .aload_n 0, 1, 0, 0, 0, 0) from xlk (by decide +kernel)) rfl rfl ?_
    obtain ⟨j2, hj2, rr2, G2, hm2, hG2, t⟩ := t
    obtain ⟨rfl, t⟩ := t
    refine xw_callv (dk := j2) (o := 18) (as := []) (show xlook 42 23 = some (23, .invokevirtual 53, 3, 32, 1, 0, 30) from xlk (by decide +kernel)) (by decide) hj2 ⟨Nat.le_of_ble_eq_true rfl, Nat.le_of_ble_eq_true rfl, Nat.le_of_ble_eq_true rfl⟩ ⟨xob_5.1, xob_5.2, by decide⟩ rfl hm2 (n := 26) rfl ?_
    show xW X d 42 26 [.ref (18), w1, w2] [] G2 (xqv Q)
    refine xw_aload_n (n := 27) (show xlook 42 26 = some (26, .aload_n 0, 1, 0, 0, 0, 0) from xlk (by decide +kernel)) rfl rfl ?_
    obtain ⟨t3, q1, ht3, t⟩ := t
    refine xw_getr (q := t3) (show xlook 42 27 = some (27, .getfield 22, 3, 5, 5, 0, 46) from xlk (by decide +kernel)) (by decide) (xobf xob_5 (by decide) (by decide)) rfl q1 (by have := ht3.1; omega) (n := 30) rfl ?_
    refine xw_getr (q := t3 + 1) (show xlook 42 30 = some (30, .getfield 150, 3, 9, 5, 0, 61) from xlk (by decide +kernel)) (by decide) (xobf ht3 (by decide) (by decide)) rfl (xPT_get (k := 5) (f := 1) hG2 ht3 (by decide)) (by have := (xtg_9_5 _ ht3.1 ht3.2).1.1; omega) (n := 33) rfl ?_
    refine xw_aload_n (n := 34) (show xlook 42 33 = some (33, .aload_n 0, 1, 0, 0, 0, 0) from xlk (by decide +kernel)) rfl rfl ?_
    obtain ⟨t4, q1, ht4, t⟩ := t
    refine xw_getr (q := t4) (show xlook 42 34 = some (34, .getfield 22, 3, 5, 5, 0, 46) from xlk (by decide +kernel)) (by decide) (xobf xob_5 (by decide) (by decide)) rfl q1 (by have := ht4.1; omega) (n := 37) rfl ?_
    refine xw_geti (show xlook 42 37 = some (37, .getfield 147, 3, 9, 4, 0, 60) from xlk (by decide +kernel)) (by decide) (xobf ht4 (by decide) (by decide)) rfl (n := 40) rfl ?_
    obtain ⟨q1, t⟩ := t
    have hb5 : xob 1 (t3 + 1 + 6 + ((G2) (t4) 4 : Int).toNat) := xel15 _ (xtg_9_5 _ ht3.1 ht3.2).1.1 (xtg_9_5 _ ht3.1 ht3.2).1.2 _ (xidx10 q1)
    refine xw_aald (q := t3 + 1 + 6 + ((G2) (t4) 4 : Int).toNat) (show xlook 42 40 = some (40, .aaload, 1, 0, 0, 0, 0) from xlk (by decide +kernel)) ⟨(xtg_9_5 _ ht3.1 ht3.2).1.1, (Or.inl (xtg_9_5 _ ht3.1 ht3.2).1.2)⟩ (by rw [xln15 _ (xtg_9_5 _ ht3.1 ht3.2).1.1 (Or.inl (xtg_9_5 _ ht3.1 ht3.2).1.2)]; exact q1) (xPT_el hG2 (Or.inl (xtg_9_5 _ ht3.1 ht3.2).1) q1.1 q1.2) (by have := hb5.1; omega) (n := 41) rfl ?_
    refine xw_astore_n (n := 42) (show xlook 42 41 = some (41, .astore_n 1, 1, 0, 0, 0, 0) from xlk (by decide +kernel)) rfl (ls' := [.ref (18), .ref (t3 + 1 + 6 + ((G2) (t4) 4 : Int).toNat), w2]) (Nat.le_of_ble_eq_true rfl) rfl ?_
    refine xw_aload_n (n := 43) (show xlook 42 42 = some (42, .aload_n 0, 1, 0, 0, 0, 0) from xlk (by decide +kernel)) rfl rfl ?_
    obtain ⟨t6, q1, ht6, t⟩ := t
    refine xw_getr (q := t6) (show xlook 42 43 = some (43, .getfield 22, 3, 5, 5, 0, 46) from xlk (by decide +kernel)) (by decide) (xobf xob_5 (by decide) (by decide)) rfl q1 (by have := ht6.1; omega) (n := 46) rfl ?_
    refine xw_geti (show xlook 42 46 = some (46, .getfield 147, 3, 9, 4, 0, 60) from xlk (by decide +kernel)) (by decide) (xobf ht6 (by decide) (by decide)) rfl (n := 49) rfl ?_
    obtain ⟨q0, t⟩ := t
    refine xw_if_ne (n := 52) (m := 56) (show xlook 42 49 = some (49, .ifCond .ne 7, 3, 56, 0, 0, 0) from xlk (by decide +kernel)) rfl rfl q0 ⟨fun c => ?_, fun c => ?_⟩
    · replace t := t.1 c
      refine xw_aload_n (n := 57) (show xlook 42 56 = some (56, .aload_n 0, 1, 0, 0, 0, 0) from xlk (by decide +kernel)) rfl rfl ?_
      obtain ⟨t7, q1, ht7, t⟩ := t
      refine xw_getr (q := t7) (show xlook 42 57 = some (57, .getfield 22, 3, 5, 5, 0, 46) from xlk (by decide +kernel)) (by decide) (xobf xob_5 (by decide) (by decide)) rfl q1 (by have := ht7.1; omega) (n := 60) rfl ?_
      refine xw_getr (q := t7 + 1) (show xlook 42 60 = some (60, .getfield 150, 3, 9, 5, 0, 61) from xlk (by decide +kernel)) (by decide) (xobf ht7 (by decide) (by decide)) rfl (xPT_get (k := 5) (f := 1) hG2 ht7 (by decide)) (by have := (xtg_9_5 _ ht7.1 ht7.2).1.1; omega) (n := 63) rfl ?_
      refine xw_aload_n (n := 64) (show xlook 42 63 = some (63, .aload_n 0, 1, 0, 0, 0, 0) from xlk (by decide +kernel)) rfl rfl ?_
      obtain ⟨t8, q1, ht8, t⟩ := t
      refine xw_getr (q := t8) (show xlook 42 64 = some (64, .getfield 22, 3, 5, 5, 0, 46) from xlk (by decide +kernel)) (by decide) (xobf xob_5 (by decide) (by decide)) rfl q1 (by have := ht8.1; omega) (n := 67) rfl ?_
      refine xw_geti (show xlook 42 67 = some (67, .getfield 147, 3, 9, 4, 0, 60) from xlk (by decide +kernel)) (by decide) (xobf ht8 (by decide) (by decide)) rfl (n := 70) rfl ?_
      refine xw_iconst (n := 71) (show xlook 42 70 = some (70, .iconst 1, 1, 0, 0, 0, 0) from xlk (by decide +kernel)) rfl ?_
      refine xw_isub (n := 72) (show xlook 42 71 = some (71, .isub, 1, 0, 0, 0, 0) from xlk (by decide +kernel)) rfl ?_
      obtain ⟨q1, t⟩ := t
      have hb9 : xob 1 (t7 + 1 + 6 + (((G2) (t8) 4) - (1) : Int).toNat) := xel15 _ (xtg_9_5 _ ht7.1 ht7.2).1.1 (xtg_9_5 _ ht7.1 ht7.2).1.2 _ (xidx10 q1)
      refine xw_aald (q := t7 + 1 + 6 + (((G2) (t8) 4) - (1) : Int).toNat) (show xlook 42 72 = some (72, .aaload, 1, 0, 0, 0, 0) from xlk (by decide +kernel)) ⟨(xtg_9_5 _ ht7.1 ht7.2).1.1, (Or.inl (xtg_9_5 _ ht7.1 ht7.2).1.2)⟩ (by rw [xln15 _ (xtg_9_5 _ ht7.1 ht7.2).1.1 (Or.inl (xtg_9_5 _ ht7.1 ht7.2).1.2)]; exact q1) (xPT_el hG2 (Or.inl (xtg_9_5 _ ht7.1 ht7.2).1) q1.1 q1.2) (by have := hb9.1; omega) (n := 73) rfl ?_
      refine xw_geti (show xlook 42 73 = some (73, .getfield 153, 3, 1, 1, 0, 62) from xlk (by decide +kernel)) (by decide) (xobf hb9 (by decide) (by decide)) rfl (n := 76) rfl ?_
      refine xw_istore_n (n := 77) (show xlook 42 76 = some (76, .istore_n 2, 1, 0, 0, 0, 0) from xlk (by decide +kernel)) rfl (ls' := [.ref (18), .ref (t3 + 1 + 6 + ((G2) (t4) 4 : Int).toNat), vi ((G2) (t7 + 1 + 6 + (((G2) (t8) 4) - (1) : Int).toNat) 1)]) (Nat.le_of_ble_eq_true rfl) rfl ?_
      refine xw_aload_n (n := 78) (show xlook 42 77 = some (77, .aload_n 1, 1, 0, 0, 0, 0) from xlk (by decide +kernel)) rfl rfl ?_
      refine xw_aload_n (n := 79) (show xlook 42 78 = some (78, .aload_n 0, 1, 0, 0, 0, 0) from xlk (by decide +kernel)) rfl rfl ?_
      refine xw_iload_n (n := 80) (show xlook 42 79 = some (79, .iload_n 2, 1, 0, 0, 0, 0) from xlk (by decide +kernel)) rfl rfl ?_
      refine xw_aload_n (n := 81) (show xlook 42 80 = some (80, .aload_n 0, 1, 0, 0, 0, 0) from xlk (by decide +kernel)) rfl rfl ?_
      obtain ⟨t10, q1, ht10, t⟩ := t
      refine xw_getr (q := t10) (show xlook 42 81 = some (81, .getfield 22, 3, 5, 5, 0, 46) from xlk (by decide +kernel)) (by decide) (xobf xob_5 (by decide) (by decide)) rfl q1 (by have := ht10.1; omega) (n := 84) rfl ?_
      refine xw_geti (show xlook 42 84 = some (84, .getfield 99, 3, 9, 0, 0, 56) from xlk (by decide +kernel)) (by decide) (xobf ht10 (by decide) (by decide)) rfl (n := 87) rfl ?_
      refine xw_iconst (n := 88) (show xlook 42 87 = some (87, .iconst 1, 1, 0, 0, 0, 0) from xlk (by decide +kernel)) rfl ?_
      refine xw_isub (n := 89) (show xlook 42 88 = some (88, .isub, 1, 0, 0, 0, 0) from xlk (by decide +kernel)) rfl ?_
      obtain ⟨j11, hj11, rr11, G11, hm11, hG11, t⟩ := t
      obtain ⟨y11, rfl, t⟩ := t
      refine xw_callv (dk := j11) (o := 18) (as := [vi ((G2) (t7 + 1 + 6 + (((G2) (t8) 4) - (1) : Int).toNat) 1), vi (((G2) (t10) 0) - (1))]) (show xlook 42 89 = some (89, .invokevirtual 119, 3, 37, 3, 0, 41) from xlk (by decide +kernel)) (by decide) hj11 ⟨Nat.le_of_ble_eq_true rfl, Nat.le_of_ble_eq_true rfl, Nat.le_of_ble_eq_true rfl⟩ ⟨xob_5.1, xob_5.2, by decide⟩ rfl hm11 (n := 92) rfl ?_
      show xW X d 42 92 [.ref (18), .ref (t3 + 1 + 6 + ((G2) (t4) 4 : Int).toNat), vi ((G2) (t7 + 1 + 6 + (((G2) (t8) 4) - (1) : Int).toNat) 1)] [vi (y11), .ref (t3 + 1 + 6 + ((G2) (t4) 4 : Int).toNat)] G11 (xqv Q)
      refine xw_puti (show xlook 42 92 = some (92, .putfield 158, 3, 1, 0, 0, 63) from xlk (by decide +kernel)) (xobf hb5 (by decide) (by decide)) rfl (n := 95) rfl ?_
      refine xw_aload_n (n := 96) (show xlook 42 95 = some (95, .aload_n 0, 1, 0, 0, 0, 0) from xlk (by decide +kernel)) rfl rfl ?_
      refine xw_ldcs (n := 98) (show xlook 42 96 = some (96, .ldc 159, 2, 5, 1, 0, 0) from xlk (by decide +kernel)) rfl (by decide) ?_
      obtain ⟨j12, hj12, rr12, G12, hm12, hG12, t⟩ := t
      obtain ⟨rfl, t⟩ := t
      refine xw_callv (dk := j12) (o := 18) (as := [.ref (xSB + 2 * 5)]) (show xlook 42 98 = some (98, .invokevirtual 161, 3, 36, 2, 0, 47) from xlk (by decide +kernel)) (by decide) hj12 ⟨Nat.le_of_ble_eq_true rfl, Nat.le_of_ble_eq_true rfl, Nat.le_of_ble_eq_true rfl⟩ ⟨xob_5.1, xob_5.2, by decide⟩ rfl hm12 (n := 101) rfl ?_
      show xW X d 42 101 [.ref (18), .ref (t3 + 1 + 6 + ((G2) (t4) 4 : Int).toNat), vi ((G2) (t7 + 1 + 6 + (((G2) (t8) 4) - (1) : Int).toNat) 1)] [] G12 (xqv Q)
      refine xw_aload_n (n := 102) (show xlook 42 101 = some (101, .aload_n 1, 1, 0, 0, 0, 0) from xlk (by decide +kernel)) rfl rfl ?_
      refine xw_aload_n (n := 103) (show xlook 42 102 = some (102, .aload_n 1, 1, 0, 0, 0, 0) from xlk (by decide +kernel)) rfl rfl ?_
      refine xw_geti (show xlook 42 103 = some (103, .getfield 158, 3, 1, 0, 0, 63) from xlk (by decide +kernel)) (by decide) (xobf hb5 (by decide) (by decide)) rfl (n := 106) rfl ?_
      refine xw_aload_n (n := 107) (show xlook 42 106 = some (106, .aload_n 0, 1, 0, 0, 0, 0) from xlk (by decide +kernel)) rfl rfl ?_
      refine xw_iconst (n := 108) (show xlook 42 107 = some (107, .iconst 1, 1, 0, 0, 0, 0) from xlk (by decide +kernel)) rfl ?_
      refine xw_bipush (n := 110) (show xlook 42 108 = some (108, .bipush 50, 2, 0, 0, 0, 0) from xlk (by decide +kernel)) rfl (by decide) ?_
      refine xw_aload_n (n := 111) (show xlook 42 110 = some (110, .aload_n 0, 1, 0, 0, 0, 0) from xlk (by decide +kernel)) rfl rfl ?_
      obtain ⟨t13, q1, ht13, t⟩ := t
      refine xw_getr (q := t13) (show xlook 42 111 = some (111, .getfield 22, 3, 5, 5, 0, 46) from xlk (by decide +kernel)) (by decide) (xobf xob_5 (by decide) (by decide)) rfl q1 (by have := ht13.1; omega) (n := 114) rfl ?_
      refine xw_geti (show xlook 42 114 = some (114, .getfield 99, 3, 9, 0, 0, 56) from xlk (by decide +kernel)) (by decide) (xobf ht13 (by decide) (by decide)) rfl (n := 117) rfl ?_
      refine xw_aload_n (n := 118) (show xlook 42 117 = some (117, .aload_n 1, 1, 0, 0, 0, 0) from xlk (by decide +kernel)) rfl rfl ?_
      refine xw_geti (show xlook 42 118 = some (118, .getfield 158, 3, 1, 0, 0, 63) from xlk (by decide +kernel)) (by decide) (xobf hb5 (by decide) (by decide)) rfl (n := 121) rfl ?_
      refine xw_isub (n := 122) (show xlook 42 121 = some (121, .isub, 1, 0, 0, 0, 0) from xlk (by decide +kernel)) rfl ?_
      obtain ⟨q1, t⟩ := t
      refine xw_min (show xlook 42 122 = some (122, .invokestatic 29, 3, 1002, 2, 0, 28) from xlk (by decide +kernel)) rfl (Nat.le_of_ble_eq_true rfl) ⟨by decide, by decide⟩ q1 (n := 125) rfl ?_
      obtain ⟨j14, hj14, rr14, G14, hm14, hG14, t⟩ := t
      obtain ⟨y14, rfl, t⟩ := t
      refine xw_callv (dk := j14) (o := 18) (as := [vi (1), vi (min (50) (((G12) (t13) 0) - ((G12) (t3 + 1 + 6 + ((G2) (t4) 4 : Int).toNat) 0)))]) (show xlook 42 125 = some (125, .invokevirtual 119, 3, 37, 3, 0, 41) from xlk (by decide +kernel)) (by decide) hj14 ⟨Nat.le_of_ble_eq_true rfl, Nat.le_of_ble_eq_true rfl, Nat.le_of_ble_eq_true rfl⟩ ⟨xob_5.1, xob_5.2, by decide⟩ rfl hm14 (n := 128) rfl ?_
      show xW X d 42 128 [.ref (18), .ref (t3 + 1 + 6 + ((G2) (t4) 4 : Int).toNat), vi ((G2) (t7 + 1 + 6 + (((G2) (t8) 4) - (1) : Int).toNat) 1)] [vi (y14), vi ((G12) (t3 + 1 + 6 + ((G2) (t4) 4 : Int).toNat) 0), .ref (t3 + 1 + 6 + ((G2) (t4) 4 : Int).toNat)] G14 (xqv Q)
      refine xw_iadd (n := 129) (show xlook 42 128 = some (128, .iadd, 1, 0, 0, 0, 0) from xlk (by decide +kernel)) rfl ?_
      refine xw_puti (show xlook 42 129 = some (129, .putfield 153, 3, 1, 1, 0, 62) from xlk (by decide +kernel)) (xobf hb5 (by decide) (by decide)) rfl (n := 132) rfl ?_
      refine xw_aload_n (n := 133) (show xlook 42 132 = some (132, .aload_n 0, 1, 0, 0, 0, 0) from xlk (by decide +kernel)) rfl rfl ?_
      refine xw_ldcs (n := 135) (show xlook 42 133 = some (133, .ldc 165, 2, 6, 1, 0, 0) from xlk (by decide +kernel)) rfl (by decide) ?_
      obtain ⟨j15, hj15, rr15, G15, hm15, hG15, t⟩ := t
      obtain ⟨rfl, t⟩ := t
      refine xw_callv (dk := j15) (o := 18) (as := [.ref (xSB + 2 * 6)]) (show xlook 42 135 = some (135, .invokevirtual 161, 3, 36, 2, 0, 47) from xlk (by decide +kernel)) (by decide) hj15 ⟨Nat.le_of_ble_eq_true rfl, Nat.le_of_ble_eq_true rfl, Nat.le_of_ble_eq_true rfl⟩ ⟨xob_5.1, xob_5.2, by decide⟩ rfl hm15 (n := 138) rfl ?_
      show xW X d 42 138 [.ref (18), .ref (t3 + 1 + 6 + ((G2) (t4) 4 : Int).toNat), vi ((G2) (t7 + 1 + 6 + (((G2) (t8) 4) - (1) : Int).toNat) 1)] [] G15 (xqv Q)
      refine xw_aload_n (n := 139) (show xlook 42 138 = some (138, .aload_n 1, 1, 0, 0, 0, 0) from xlk (by decide +kernel)) rfl rfl ?_
      refine xw_aload_n (n := 140) (show xlook 42 139 = some (139, .aload_n 0, 1, 0, 0, 0, 0) from xlk (by decide +kernel)) rfl rfl ?_
      refine xw_iconst (n := 141) (show xlook 42 140 = some (140, .iconst 1, 1, 0, 0, 0, 0) from xlk (by decide +kernel)) rfl ?_
      refine xw_sipush (n := 144) (show xlook 42 141 = some (141, .sipush 200, 3, 0, 0, 0, 0) from xlk (by decide +kernel)) rfl (by decide) ?_
      obtain ⟨j16, hj16, rr16, G16, hm16, hG16, t⟩ := t
      obtain ⟨y16, rfl, t⟩ := t
      refine xw_callv (dk := j16) (o := 18) (as := [vi (1), vi (200)]) (show xlook 42 144 = some (144, .invokevirtual 119, 3, 37, 3, 0, 41) from xlk (by decide +kernel)) (by decide) hj16 ⟨Nat.le_of_ble_eq_true rfl, Nat.le_of_ble_eq_true rfl, Nat.le_of_ble_eq_true rfl⟩ ⟨xob_5.1, xob_5.2, by decide⟩ rfl hm16 (n := 147) rfl ?_
      show xW X d 42 147 [.ref (18), .ref (t3 + 1 + 6 + ((G2) (t4) 4 : Int).toNat), vi ((G2) (t7 + 1 + 6 + (((G2) (t8) 4) - (1) : Int).toNat) 1)] [vi (y16), .ref (t3 + 1 + 6 + ((G2) (t4) 4 : Int).toNat)] G16 (xqv Q)
      refine xw_puti (show xlook 42 147 = some (147, .putfield 167, 3, 1, 2, 0, 64) from xlk (by decide +kernel)) (xobf hb5 (by decide) (by decide)) rfl (n := 150) rfl ?_
      refine xw_aload_n (n := 151) (show xlook 42 150 = some (150, .aload_n 0, 1, 0, 0, 0, 0) from xlk (by decide +kernel)) rfl rfl ?_
      refine xw_ldcs (n := 153) (show xlook 42 151 = some (151, .ldc 169, 2, 7, 1, 0, 0) from xlk (by decide +kernel)) rfl (by decide) ?_
      obtain ⟨j17, hj17, rr17, G17, hm17, hG17, t⟩ := t
      obtain ⟨rfl, t⟩ := t
      refine xw_callv (dk := j17) (o := 18) (as := [.ref (xSB + 2 * 7)]) (show xlook 42 153 = some (153, .invokevirtual 161, 3, 36, 2, 0, 47) from xlk (by decide +kernel)) (by decide) hj17 ⟨Nat.le_of_ble_eq_true rfl, Nat.le_of_ble_eq_true rfl, Nat.le_of_ble_eq_true rfl⟩ ⟨xob_5.1, xob_5.2, by decide⟩ rfl hm17 (n := 156) rfl ?_
      show xW X d 42 156 [.ref (18), .ref (t3 + 1 + 6 + ((G2) (t4) 4 : Int).toNat), vi ((G2) (t7 + 1 + 6 + (((G2) (t8) 4) - (1) : Int).toNat) 1)] [] G17 (xqv Q)
      refine xw_aload_n (n := 157) (show xlook 42 156 = some (156, .aload_n 1, 1, 0, 0, 0, 0) from xlk (by decide +kernel)) rfl rfl ?_
      refine xw_aload_n (n := 158) (show xlook 42 157 = some (157, .aload_n 0, 1, 0, 0, 0, 0) from xlk (by decide +kernel)) rfl rfl ?_
      refine xw_iconst (n := 159) (show xlook 42 158 = some (158, .iconst 0, 1, 0, 0, 0, 0) from xlk (by decide +kernel)) rfl ?_
      refine xw_aload_n (n := 160) (show xlook 42 159 = some (159, .aload_n 1, 1, 0, 0, 0, 0) from xlk (by decide +kernel)) rfl rfl ?_
      refine xw_geti (show xlook 42 160 = some (160, .getfield 167, 3, 1, 2, 0, 64) from xlk (by decide +kernel)) (by decide) (xobf hb5 (by decide) (by decide)) rfl (n := 163) rfl ?_
      refine xw_iconst (n := 164) (show xlook 42 163 = some (163, .iconst 1, 1, 0, 0, 0, 0) from xlk (by decide +kernel)) rfl ?_
      refine xw_isub (n := 165) (show xlook 42 164 = some (164, .isub, 1, 0, 0, 0, 0) from xlk (by decide +kernel)) rfl ?_
      obtain ⟨j18, hj18, rr18, G18, hm18, hG18, t⟩ := t
      obtain ⟨y18, rfl, t⟩ := t
      refine xw_callv (dk := j18) (o := 18) (as := [vi (0), vi (((G17) (t3 + 1 + 6 + ((G2) (t4) 4 : Int).toNat) 2) - (1))]) (show xlook 42 165 = some (165, .invokevirtual 119, 3, 37, 3, 0, 41) from xlk (by decide +kernel)) (by decide) hj18 ⟨Nat.le_of_ble_eq_true rfl, Nat.le_of_ble_eq_true rfl, Nat.le_of_ble_eq_true rfl⟩ ⟨xob_5.1, xob_5.2, by decide⟩ rfl hm18 (n := 168) rfl ?_
      show xW X d 42 168 [.ref (18), .ref (t3 + 1 + 6 + ((G2) (t4) 4 : Int).toNat), vi ((G2) (t7 + 1 + 6 + (((G2) (t8) 4) - (1) : Int).toNat) 1)] [vi (y18), .ref (t3 + 1 + 6 + ((G2) (t4) 4 : Int).toNat)] G18 (xqv Q)
      refine xw_puti (show xlook 42 168 = some (168, .putfield 171, 3, 1, 3, 0, 65) from xlk (by decide +kernel)) (xobf hb5 (by decide) (by decide)) rfl (n := 171) rfl ?_
      refine xw_aload_n (n := 172) (show xlook 42 171 = some (171, .aload_n 0, 1, 0, 0, 0, 0) from xlk (by decide +kernel)) rfl rfl ?_
      refine xw_ldcs (n := 174) (show xlook 42 172 = some (172, .ldc 174, 2, 8, 1, 0, 0) from xlk (by decide +kernel)) rfl (by decide) ?_
      obtain ⟨j19, hj19, rr19, G19, hm19, hG19, t⟩ := t
      obtain ⟨rfl, t⟩ := t
      refine xw_callv (dk := j19) (o := 18) (as := [.ref (xSB + 2 * 8)]) (show xlook 42 174 = some (174, .invokevirtual 161, 3, 36, 2, 0, 47) from xlk (by decide +kernel)) (by decide) hj19 ⟨Nat.le_of_ble_eq_true rfl, Nat.le_of_ble_eq_true rfl, Nat.le_of_ble_eq_true rfl⟩ ⟨xob_5.1, xob_5.2, by decide⟩ rfl hm19 (n := 177) rfl ?_
      show xW X d 42 177 [.ref (18), .ref (t3 + 1 + 6 + ((G2) (t4) 4 : Int).toNat), vi ((G2) (t7 + 1 + 6 + (((G2) (t8) 4) - (1) : Int).toNat) 1)] [] G19 (xqv Q)
      refine xw_aload_n (n := 178) (show xlook 42 177 = some (177, .aload_n 1, 1, 0, 0, 0, 0) from xlk (by decide +kernel)) rfl rfl ?_
      refine xw_aload_n (n := 179) (show xlook 42 178 = some (178, .aload_n 0, 1, 0, 0, 0, 0) from xlk (by decide +kernel)) rfl rfl ?_
      refine xw_aload_n (n := 180) (show xlook 42 179 = some (179, .aload_n 1, 1, 0, 0, 0, 0) from xlk (by decide +kernel)) rfl rfl ?_
      refine xw_geti (show xlook 42 180 = some (180, .getfield 171, 3, 1, 3, 0, 65) from xlk (by decide +kernel)) (by decide) (xobf hb5 (by decide) (by decide)) rfl (n := 183) rfl ?_
      refine xw_iconst (n := 184) (show xlook 42 183 = some (183, .iconst 1, 1, 0, 0, 0, 0) from xlk (by decide +kernel)) rfl ?_
      refine xw_iadd (n := 185) (show xlook 42 184 = some (184, .iadd, 1, 0, 0, 0, 0) from xlk (by decide +kernel)) rfl ?_
      refine xw_aload_n (n := 186) (show xlook 42 185 = some (185, .aload_n 1, 1, 0, 0, 0, 0) from xlk (by decide +kernel)) rfl rfl ?_
      refine xw_geti (show xlook 42 186 = some (186, .getfield 167, 3, 1, 2, 0, 64) from xlk (by decide +kernel)) (by decide) (xobf hb5 (by decide) (by decide)) rfl (n := 189) rfl ?_
      obtain ⟨j20, hj20, rr20, G20, hm20, hG20, t⟩ := t
      obtain ⟨y20, rfl, t⟩ := t
      refine xw_callv (dk := j20) (o := 18) (as := [vi (((G19) (t3 + 1 + 6 + ((G2) (t4) 4 : Int).toNat) 3) + (1)), vi ((G19) (t3 + 1 + 6 + ((G2) (t4) 4 : Int).toNat) 2)]) (show xlook 42 189 = some (189, .invokevirtual 119, 3, 37, 3, 0, 41) from xlk (by decide +kernel)) (by decide) hj20 ⟨Nat.le_of_ble_eq_true rfl, Nat.le_of_ble_eq_true rfl, Nat.le_of_ble_eq_true rfl⟩ ⟨xob_5.1, xob_5.2, by decide⟩ rfl hm20 (n := 192) rfl ?_
      show xW X d 42 192 [.ref (18), .ref (t3 + 1 + 6 + ((G2) (t4) 4 : Int).toNat), vi ((G2) (t7 + 1 + 6 + (((G2) (t8) 4) - (1) : Int).toNat) 1)] [vi (y20), .ref (t3 + 1 + 6 + ((G2) (t4) 4 : Int).toNat)] G20 (xqv Q)
      refine xw_puti (show xlook 42 192 = some (192, .putfield 176, 3, 1, 4, 0, 66) from xlk (by decide +kernel)) (xobf hb5 (by decide) (by decide)) rfl (n := 195) rfl ?_
      refine xw_aload_n (n := 196) (show xlook 42 195 = some (195, .aload_n 0, 1, 0, 0, 0, 0) from xlk (by decide +kernel)) rfl rfl ?_
      refine xw_ldcs (n := 198) (show xlook 42 196 = some (196, .ldc 178, 2, 9, 1, 0, 0) from xlk (by decide +kernel)) rfl (by decide) ?_
      obtain ⟨j21, hj21, rr21, G21, hm21, hG21, t⟩ := t
      obtain ⟨rfl, t⟩ := t
      refine xw_callv (dk := j21) (o := 18) (as := [.ref (xSB + 2 * 9)]) (show xlook 42 198 = some (198, .invokevirtual 161, 3, 36, 2, 0, 47) from xlk (by decide +kernel)) (by decide) hj21 ⟨Nat.le_of_ble_eq_true rfl, Nat.le_of_ble_eq_true rfl, Nat.le_of_ble_eq_true rfl⟩ ⟨xob_5.1, xob_5.2, by decide⟩ rfl hm21 (n := 201) rfl ?_
      show xW X d 42 201 [.ref (18), .ref (t3 + 1 + 6 + ((G2) (t4) 4 : Int).toNat), vi ((G2) (t7 + 1 + 6 + (((G2) (t8) 4) - (1) : Int).toNat) 1)] [] G21 (xqv Q)
      refine xw_aload_n (n := 202) (show xlook 42 201 = some (201, .aload_n 1, 1, 0, 0, 0, 0) from xlk (by decide +kernel)) rfl rfl ?_
      refine xw_aload_n (n := 203) (show xlook 42 202 = some (202, .aload_n 0, 1, 0, 0, 0, 0) from xlk (by decide +kernel)) rfl rfl ?_
      refine xw_iconst (n := 204) (show xlook 42 203 = some (203, .iconst 0, 1, 0, 0, 0, 0) from xlk (by decide +kernel)) rfl ?_
      refine xw_bipush (n := 206) (show xlook 42 204 = some (204, .bipush 99, 2, 0, 0, 0, 0) from xlk (by decide +kernel)) rfl (by decide) ?_
      obtain ⟨j22, hj22, rr22, G22, hm22, hG22, t⟩ := t
      obtain ⟨y22, rfl, t⟩ := t
      refine xw_callv (dk := j22) (o := 18) (as := [vi (0), vi (99)]) (show xlook 42 206 = some (206, .invokevirtual 119, 3, 37, 3, 0, 41) from xlk (by decide +kernel)) (by decide) hj22 ⟨Nat.le_of_ble_eq_true rfl, Nat.le_of_ble_eq_true rfl, Nat.le_of_ble_eq_true rfl⟩ ⟨xob_5.1, xob_5.2, by decide⟩ rfl hm22 (n := 209) rfl ?_
      show xW X d 42 209 [.ref (18), .ref (t3 + 1 + 6 + ((G2) (t4) 4 : Int).toNat), vi ((G2) (t7 + 1 + 6 + (((G2) (t8) 4) - (1) : Int).toNat) 1)] [vi (y22), .ref (t3 + 1 + 6 + ((G2) (t4) 4 : Int).toNat)] G22 (xqv Q)
      refine xw_puti (show xlook 42 209 = some (209, .putfield 180, 3, 1, 5, 0, 67) from xlk (by decide +kernel)) (xobf hb5 (by decide) (by decide)) rfl (n := 212) rfl ?_
      refine xw_aload_n (n := 213) (show xlook 42 212 = some (212, .aload_n 0, 1, 0, 0, 0, 0) from xlk (by decide +kernel)) rfl rfl ?_
      refine xw_ldcs (n := 215) (show xlook 42 213 = some (213, .ldc 183, 2, 10, 1, 0, 0) from xlk (by decide +kernel)) rfl (by decide) ?_
      obtain ⟨j23, hj23, rr23, G23, hm23, hG23, t⟩ := t
      obtain ⟨rfl, t⟩ := t
      refine xw_callv (dk := j23) (o := 18) (as := [.ref (xSB + 2 * 10)]) (show xlook 42 215 = some (215, .invokevirtual 161, 3, 36, 2, 0, 47) from xlk (by decide +kernel)) (by decide) hj23 ⟨Nat.le_of_ble_eq_true rfl, Nat.le_of_ble_eq_true rfl, Nat.le_of_ble_eq_true rfl⟩ ⟨xob_5.1, xob_5.2, by decide⟩ rfl hm23 (n := 218) rfl ?_
      show xW X d 42 218 [.ref (18), .ref (t3 + 1 + 6 + ((G2) (t4) 4 : Int).toNat), vi ((G2) (t7 + 1 + 6 + (((G2) (t8) 4) - (1) : Int).toNat) 1)] [] G23 (xqv Q)
      refine xw_aload_n (n := 219) (show xlook 42 218 = some (218, .aload_n 1, 1, 0, 0, 0, 0) from xlk (by decide +kernel)) rfl rfl ?_
      refine xw_aload_n (n := 220) (show xlook 42 219 = some (219, .aload_n 0, 1, 0, 0, 0, 0) from xlk (by decide +kernel)) rfl rfl ?_
      refine xw_iconst (n := 221) (show xlook 42 220 = some (220, .iconst 1, 1, 0, 0, 0, 0) from xlk (by decide +kernel)) rfl ?_
      refine xw_bipush (n := 223) (show xlook 42 221 = some (221, .bipush 20, 2, 0, 0, 0, 0) from xlk (by decide +kernel)) rfl (by decide) ?_
      obtain ⟨j24, hj24, rr24, G24, hm24, hG24, t⟩ := t
      obtain ⟨y24, rfl, t⟩ := t
      refine xw_callv (dk := j24) (o := 18) (as := [vi (1), vi (20)]) (show xlook 42 223 = some (223, .invokevirtual 119, 3, 37, 3, 0, 41) from xlk (by decide +kernel)) (by decide) hj24 ⟨Nat.le_of_ble_eq_true rfl, Nat.le_of_ble_eq_true rfl, Nat.le_of_ble_eq_true rfl⟩ ⟨xob_5.1, xob_5.2, by decide⟩ rfl hm24 (n := 226) rfl ?_
      show xW X d 42 226 [.ref (18), .ref (t3 + 1 + 6 + ((G2) (t4) 4 : Int).toNat), vi ((G2) (t7 + 1 + 6 + (((G2) (t8) 4) - (1) : Int).toNat) 1)] [vi (y24), .ref (t3 + 1 + 6 + ((G2) (t4) 4 : Int).toNat)] G24 (xqv Q)
      refine xw_puti (show xlook 42 226 = some (226, .putfield 185, 3, 1, 6, 0, 68) from xlk (by decide +kernel)) (xobf hb5 (by decide) (by decide)) rfl (n := 229) rfl ?_
      refine xw_aload_n (n := 230) (show xlook 42 229 = some (229, .aload_n 0, 1, 0, 0, 0, 0) from xlk (by decide +kernel)) rfl rfl ?_
      obtain ⟨t25, q1, ht25, t⟩ := t
      refine xw_getr (q := t25) (show xlook 42 230 = some (230, .getfield 22, 3, 5, 5, 0, 46) from xlk (by decide +kernel)) (by decide) (xobf xob_5 (by decide) (by decide)) rfl q1 (by have := ht25.1; omega) (n := 233) rfl ?_
      refine xw_dupr (n := 234) (show xlook 42 233 = some (233, .dup, 1, 0, 0, 0, 0) from xlk (by decide +kernel)) rfl ?_
      refine xw_geti (show xlook 42 234 = some (234, .getfield 147, 3, 9, 4, 0, 60) from xlk (by decide +kernel)) (by decide) (xobf ht25 (by decide) (by decide)) rfl (n := 237) rfl ?_
      refine xw_iconst (n := 238) (show xlook 42 237 = some (237, .iconst 1, 1, 0, 0, 0, 0) from xlk (by decide +kernel)) rfl ?_
      refine xw_iadd (n := 239) (show xlook 42 238 = some (238, .iadd, 1, 0, 0, 0, 0) from xlk (by decide +kernel)) rfl ?_
      refine xw_puti (show xlook 42 239 = some (239, .putfield 147, 3, 9, 4, 0, 60) from xlk (by decide +kernel)) (xobf ht25 (by decide) (by decide)) rfl (n := 242) rfl ?_
      exact xw_return (xPT_fld (k := 4) (xPT_fld (k := 6) hG24 hb5 (by decide) (by decide)) ht25 (by decide) (by decide)) (show xlook 42 242 = some (242, .return_, 1, 0, 0, 0, 0) from xlk (by decide +kernel)) rfl (t (xPT_fld (k := 4) (xPT_fld (k := 6) hG24 hb5 (by decide) (by decide)) ht25 (by decide) (by decide)))
    · replace t := t.2 c
      refine xw_iconst (n := 53) (show xlook 42 52 = some (52, .iconst 0, 1, 0, 0, 0, 0) from xlk (by decide +kernel)) rfl ?_
      refine xw_goto (m := 76) (show xlook 42 53 = some (53, .goto 23, 3, 76, 0, 0, 0) from xlk (by decide +kernel)) rfl ?_
      refine xw_istore_n (n := 77) (show xlook 42 76 = some (76, .istore_n 2, 1, 0, 0, 0, 0) from xlk (by decide +kernel)) rfl (ls' := [.ref (18), .ref (t3 + 1 + 6 + ((G2) (t4) 4 : Int).toNat), vi (0)]) (Nat.le_of_ble_eq_true rfl) rfl ?_
      refine xw_aload_n (n := 78) (show xlook 42 77 = some (77, .aload_n 1, 1, 0, 0, 0, 0) from xlk (by decide +kernel)) rfl rfl ?_
      refine xw_aload_n (n := 79) (show xlook 42 78 = some (78, .aload_n 0, 1, 0, 0, 0, 0) from xlk (by decide +kernel)) rfl rfl ?_
      refine xw_iload_n (n := 80) (show xlook 42 79 = some (79, .iload_n 2, 1, 0, 0, 0, 0) from xlk (by decide +kernel)) rfl rfl ?_
      refine xw_aload_n (n := 81) (show xlook 42 80 = some (80, .aload_n 0, 1, 0, 0, 0, 0) from xlk (by decide +kernel)) rfl rfl ?_
      obtain ⟨t26, q1, ht26, t⟩ := t
      refine xw_getr (q := t26) (show xlook 42 81 = some (81, .getfield 22, 3, 5, 5, 0, 46) from xlk (by decide +kernel)) (by decide) (xobf xob_5 (by decide) (by decide)) rfl q1 (by have := ht26.1; omega) (n := 84) rfl ?_
      refine xw_geti (show xlook 42 84 = some (84, .getfield 99, 3, 9, 0, 0, 56) from xlk (by decide +kernel)) (by decide) (xobf ht26 (by decide) (by decide)) rfl (n := 87) rfl ?_
      refine xw_iconst (n := 88) (show xlook 42 87 = some (87, .iconst 1, 1, 0, 0, 0, 0) from xlk (by decide +kernel)) rfl ?_
      refine xw_isub (n := 89) (show xlook 42 88 = some (88, .isub, 1, 0, 0, 0, 0) from xlk (by decide +kernel)) rfl ?_
      obtain ⟨j27, hj27, rr27, G27, hm27, hG27, t⟩ := t
      obtain ⟨y27, rfl, t⟩ := t
      refine xw_callv (dk := j27) (o := 18) (as := [vi (0), vi (((G2) (t26) 0) - (1))]) (show xlook 42 89 = some (89, .invokevirtual 119, 3, 37, 3, 0, 41) from xlk (by decide +kernel)) (by decide) hj27 ⟨Nat.le_of_ble_eq_true rfl, Nat.le_of_ble_eq_true rfl, Nat.le_of_ble_eq_true rfl⟩ ⟨xob_5.1, xob_5.2, by decide⟩ rfl hm27 (n := 92) rfl ?_
      show xW X d 42 92 [.ref (18), .ref (t3 + 1 + 6 + ((G2) (t4) 4 : Int).toNat), vi (0)] [vi (y27), .ref (t3 + 1 + 6 + ((G2) (t4) 4 : Int).toNat)] G27 (xqv Q)
      refine xw_puti (show xlook 42 92 = some (92, .putfield 158, 3, 1, 0, 0, 63) from xlk (by decide +kernel)) (xobf hb5 (by decide) (by decide)) rfl (n := 95) rfl ?_
      refine xw_aload_n (n := 96) (show xlook 42 95 = some (95, .aload_n 0, 1, 0, 0, 0, 0) from xlk (by decide +kernel)) rfl rfl ?_
      refine xw_ldcs (n := 98) (show xlook 42 96 = some (96, .ldc 159, 2, 5, 1, 0, 0) from xlk (by decide +kernel)) rfl (by decide) ?_
      obtain ⟨j28, hj28, rr28, G28, hm28, hG28, t⟩ := t
      obtain ⟨rfl, t⟩ := t
      refine xw_callv (dk := j28) (o := 18) (as := [.ref (xSB + 2 * 5)]) (show xlook 42 98 = some (98, .invokevirtual 161, 3, 36, 2, 0, 47) from xlk (by decide +kernel)) (by decide) hj28 ⟨Nat.le_of_ble_eq_true rfl, Nat.le_of_ble_eq_true rfl, Nat.le_of_ble_eq_true rfl⟩ ⟨xob_5.1, xob_5.2, by decide⟩ rfl hm28 (n := 101) rfl ?_
      show xW X d 42 101 [.ref (18), .ref (t3 + 1 + 6 + ((G2) (t4) 4 : Int).toNat), vi (0)] [] G28 (xqv Q)
      refine xw_aload_n (n := 102) (show xlook 42 101 = some (101, .aload_n 1, 1, 0, 0, 0, 0) from xlk (by decide +kernel)) rfl rfl ?_
      refine xw_aload_n (n := 103) (show xlook 42 102 = some (102, .aload_n 1, 1, 0, 0, 0, 0) from xlk (by decide +kernel)) rfl rfl ?_
      refine xw_geti (show xlook 42 103 = some (103, .getfield 158, 3, 1, 0, 0, 63) from xlk (by decide +kernel)) (by decide) (xobf hb5 (by decide) (by decide)) rfl (n := 106) rfl ?_
      refine xw_aload_n (n := 107) (show xlook 42 106 = some (106, .aload_n 0, 1, 0, 0, 0, 0) from xlk (by decide +kernel)) rfl rfl ?_
      refine xw_iconst (n := 108) (show xlook 42 107 = some (107, .iconst 1, 1, 0, 0, 0, 0) from xlk (by decide +kernel)) rfl ?_
      refine xw_bipush (n := 110) (show xlook 42 108 = some (108, .bipush 50, 2, 0, 0, 0, 0) from xlk (by decide +kernel)) rfl (by decide) ?_
      refine xw_aload_n (n := 111) (show xlook 42 110 = some (110, .aload_n 0, 1, 0, 0, 0, 0) from xlk (by decide +kernel)) rfl rfl ?_
      obtain ⟨t29, q1, ht29, t⟩ := t
      refine xw_getr (q := t29) (show xlook 42 111 = some (111, .getfield 22, 3, 5, 5, 0, 46) from xlk (by decide +kernel)) (by decide) (xobf xob_5 (by decide) (by decide)) rfl q1 (by have := ht29.1; omega) (n := 114) rfl ?_
      refine xw_geti (show xlook 42 114 = some (114, .getfield 99, 3, 9, 0, 0, 56) from xlk (by decide +kernel)) (by decide) (xobf ht29 (by decide) (by decide)) rfl (n := 117) rfl ?_
      refine xw_aload_n (n := 118) (show xlook 42 117 = some (117, .aload_n 1, 1, 0, 0, 0, 0) from xlk (by decide +kernel)) rfl rfl ?_
      refine xw_geti (show xlook 42 118 = some (118, .getfield 158, 3, 1, 0, 0, 63) from xlk (by decide +kernel)) (by decide) (xobf hb5 (by decide) (by decide)) rfl (n := 121) rfl ?_
      refine xw_isub (n := 122) (show xlook 42 121 = some (121, .isub, 1, 0, 0, 0, 0) from xlk (by decide +kernel)) rfl ?_
      obtain ⟨q1, t⟩ := t
      refine xw_min (show xlook 42 122 = some (122, .invokestatic 29, 3, 1002, 2, 0, 28) from xlk (by decide +kernel)) rfl (Nat.le_of_ble_eq_true rfl) ⟨by decide, by decide⟩ q1 (n := 125) rfl ?_
      obtain ⟨j30, hj30, rr30, G30, hm30, hG30, t⟩ := t
      obtain ⟨y30, rfl, t⟩ := t
      refine xw_callv (dk := j30) (o := 18) (as := [vi (1), vi (min (50) (((G28) (t29) 0) - ((G28) (t3 + 1 + 6 + ((G2) (t4) 4 : Int).toNat) 0)))]) (show xlook 42 125 = some (125, .invokevirtual 119, 3, 37, 3, 0, 41) from xlk (by decide +kernel)) (by decide) hj30 ⟨Nat.le_of_ble_eq_true rfl, Nat.le_of_ble_eq_true rfl, Nat.le_of_ble_eq_true rfl⟩ ⟨xob_5.1, xob_5.2, by decide⟩ rfl hm30 (n := 128) rfl ?_
      show xW X d 42 128 [.ref (18), .ref (t3 + 1 + 6 + ((G2) (t4) 4 : Int).toNat), vi (0)] [vi (y30), vi ((G28) (t3 + 1 + 6 + ((G2) (t4) 4 : Int).toNat) 0), .ref (t3 + 1 + 6 + ((G2) (t4) 4 : Int).toNat)] G30 (xqv Q)
      refine xw_iadd (n := 129) (show xlook 42 128 = some (128, .iadd, 1, 0, 0, 0, 0) from xlk (by decide +kernel)) rfl ?_
      refine xw_puti (show xlook 42 129 = some (129, .putfield 153, 3, 1, 1, 0, 62) from xlk (by decide +kernel)) (xobf hb5 (by decide) (by decide)) rfl (n := 132) rfl ?_
      refine xw_aload_n (n := 133) (show xlook 42 132 = some (132, .aload_n 0, 1, 0, 0, 0, 0) from xlk (by decide +kernel)) rfl rfl ?_
      refine xw_ldcs (n := 135) (show xlook 42 133 = some (133, .ldc 165, 2, 6, 1, 0, 0) from xlk (by decide +kernel)) rfl (by decide) ?_
      obtain ⟨j31, hj31, rr31, G31, hm31, hG31, t⟩ := t
      obtain ⟨rfl, t⟩ := t
      refine xw_callv (dk := j31) (o := 18) (as := [.ref (xSB + 2 * 6)]) (show xlook 42 135 = some (135, .invokevirtual 161, 3, 36, 2, 0, 47) from xlk (by decide +kernel)) (by decide) hj31 ⟨Nat.le_of_ble_eq_true rfl, Nat.le_of_ble_eq_true rfl, Nat.le_of_ble_eq_true rfl⟩ ⟨xob_5.1, xob_5.2, by decide⟩ rfl hm31 (n := 138) rfl ?_
      show xW X d 42 138 [.ref (18), .ref (t3 + 1 + 6 + ((G2) (t4) 4 : Int).toNat), vi (0)] [] G31 (xqv Q)
      refine xw_aload_n (n := 139) (show xlook 42 138 = some (138, .aload_n 1, 1, 0, 0, 0, 0) from xlk (by decide +kernel)) rfl rfl ?_
      refine xw_aload_n (n := 140) (show xlook 42 139 = some (139, .aload_n 0, 1, 0, 0, 0, 0) from xlk (by decide +kernel)) rfl rfl ?_
      refine xw_iconst (n := 141) (show xlook 42 140 = some (140, .iconst 1, 1, 0, 0, 0, 0) from xlk (by decide +kernel)) rfl ?_
      refine xw_sipush (n := 144) (show xlook 42 141 = some (141, .sipush 200, 3, 0, 0, 0, 0) from xlk (by decide +kernel)) rfl (by decide) ?_
      obtain ⟨j32, hj32, rr32, G32, hm32, hG32, t⟩ := t
      obtain ⟨y32, rfl, t⟩ := t
      refine xw_callv (dk := j32) (o := 18) (as := [vi (1), vi (200)]) (show xlook 42 144 = some (144, .invokevirtual 119, 3, 37, 3, 0, 41) from xlk (by decide +kernel)) (by decide) hj32 ⟨Nat.le_of_ble_eq_true rfl, Nat.le_of_ble_eq_true rfl, Nat.le_of_ble_eq_true rfl⟩ ⟨xob_5.1, xob_5.2, by decide⟩ rfl hm32 (n := 147) rfl ?_
      show xW X d 42 147 [.ref (18), .ref (t3 + 1 + 6 + ((G2) (t4) 4 : Int).toNat), vi (0)] [vi (y32), .ref (t3 + 1 + 6 + ((G2) (t4) 4 : Int).toNat)] G32 (xqv Q)
      refine xw_puti (show xlook 42 147 = some (147, .putfield 167, 3, 1, 2, 0, 64) from xlk (by decide +kernel)) (xobf hb5 (by decide) (by decide)) rfl (n := 150) rfl ?_
      refine xw_aload_n (n := 151) (show xlook 42 150 = some (150, .aload_n 0, 1, 0, 0, 0, 0) from xlk (by decide +kernel)) rfl rfl ?_
      refine xw_ldcs (n := 153) (show xlook 42 151 = some (151, .ldc 169, 2, 7, 1, 0, 0) from xlk (by decide +kernel)) rfl (by decide) ?_
      obtain ⟨j33, hj33, rr33, G33, hm33, hG33, t⟩ := t
      obtain ⟨rfl, t⟩ := t
      refine xw_callv (dk := j33) (o := 18) (as := [.ref (xSB + 2 * 7)]) (show xlook 42 153 = some (153, .invokevirtual 161, 3, 36, 2, 0, 47) from xlk (by decide +kernel)) (by decide) hj33 ⟨Nat.le_of_ble_eq_true rfl, Nat.le_of_ble_eq_true rfl, Nat.le_of_ble_eq_true rfl⟩ ⟨xob_5.1, xob_5.2, by decide⟩ rfl hm33 (n := 156) rfl ?_
      show xW X d 42 156 [.ref (18), .ref (t3 + 1 + 6 + ((G2) (t4) 4 : Int).toNat), vi (0)] [] G33 (xqv Q)
      refine xw_aload_n (n := 157) (show xlook 42 156 = some (156, .aload_n 1, 1, 0, 0, 0, 0) from xlk (by decide +kernel)) rfl rfl ?_
      refine xw_aload_n (n := 158) (show xlook 42 157 = some (157, .aload_n 0, 1, 0, 0, 0, 0) from xlk (by decide +kernel)) rfl rfl ?_
      refine xw_iconst (n := 159) (show xlook 42 158 = some (158, .iconst 0, 1, 0, 0, 0, 0) from xlk (by decide +kernel)) rfl ?_
      refine xw_aload_n (n := 160) (show xlook 42 159 = some (159, .aload_n 1, 1, 0, 0, 0, 0) from xlk (by decide +kernel)) rfl rfl ?_
      refine xw_geti (show xlook 42 160 = some (160, .getfield 167, 3, 1, 2, 0, 64) from xlk (by decide +kernel)) (by decide) (xobf hb5 (by decide) (by decide)) rfl (n := 163) rfl ?_
      refine xw_iconst (n := 164) (show xlook 42 163 = some (163, .iconst 1, 1, 0, 0, 0, 0) from xlk (by decide +kernel)) rfl ?_
      refine xw_isub (n := 165) (show xlook 42 164 = some (164, .isub, 1, 0, 0, 0, 0) from xlk (by decide +kernel)) rfl ?_
      obtain ⟨j34, hj34, rr34, G34, hm34, hG34, t⟩ := t
      obtain ⟨y34, rfl, t⟩ := t
      refine xw_callv (dk := j34) (o := 18) (as := [vi (0), vi (((G33) (t3 + 1 + 6 + ((G2) (t4) 4 : Int).toNat) 2) - (1))]) (show xlook 42 165 = some (165, .invokevirtual 119, 3, 37, 3, 0, 41) from xlk (by decide +kernel)) (by decide) hj34 ⟨Nat.le_of_ble_eq_true rfl, Nat.le_of_ble_eq_true rfl, Nat.le_of_ble_eq_true rfl⟩ ⟨xob_5.1, xob_5.2, by decide⟩ rfl hm34 (n := 168) rfl ?_
      show xW X d 42 168 [.ref (18), .ref (t3 + 1 + 6 + ((G2) (t4) 4 : Int).toNat), vi (0)] [vi (y34), .ref (t3 + 1 + 6 + ((G2) (t4) 4 : Int).toNat)] G34 (xqv Q)
      refine xw_puti (show xlook 42 168 = some (168, .putfield 171, 3, 1, 3, 0, 65) from xlk (by decide +kernel)) (xobf hb5 (by decide) (by decide)) rfl (n := 171) rfl ?_
      refine xw_aload_n (n := 172) (show xlook 42 171 = some (171, .aload_n 0, 1, 0, 0, 0, 0) from xlk (by decide +kernel)) rfl rfl ?_
      refine xw_ldcs (n := 174) (show xlook 42 172 = some (172, .ldc 174, 2, 8, 1, 0, 0) from xlk (by decide +kernel)) rfl (by decide) ?_
      obtain ⟨j35, hj35, rr35, G35, hm35, hG35, t⟩ := t
      obtain ⟨rfl, t⟩ := t
      refine xw_callv (dk := j35) (o := 18) (as := [.ref (xSB + 2 * 8)]) (show xlook 42 174 = some (174, .invokevirtual 161, 3, 36, 2, 0, 47) from xlk (by decide +kernel)) (by decide) hj35 ⟨Nat.le_of_ble_eq_true rfl, Nat.le_of_ble_eq_true rfl, Nat.le_of_ble_eq_true rfl⟩ ⟨xob_5.1, xob_5.2, by decide⟩ rfl hm35 (n := 177) rfl ?_
      show xW X d 42 177 [.ref (18), .ref (t3 + 1 + 6 + ((G2) (t4) 4 : Int).toNat), vi (0)] [] G35 (xqv Q)
      refine xw_aload_n (n := 178) (show xlook 42 177 = some (177, .aload_n 1, 1, 0, 0, 0, 0) from xlk (by decide +kernel)) rfl rfl ?_
      refine xw_aload_n (n := 179) (show xlook 42 178 = some (178, .aload_n 0, 1, 0, 0, 0, 0) from xlk (by decide +kernel)) rfl rfl ?_
      refine xw_aload_n (n := 180) (show xlook 42 179 = some (179, .aload_n 1, 1, 0, 0, 0, 0) from xlk (by decide +kernel)) rfl rfl ?_
      refine xw_geti (show xlook 42 180 = some (180, .getfield 171, 3, 1, 3, 0, 65) from xlk (by decide +kernel)) (by decide) (xobf hb5 (by decide) (by decide)) rfl (n := 183) rfl ?_
      refine xw_iconst (n := 184) (show xlook 42 183 = some (183, .iconst 1, 1, 0, 0, 0, 0) from xlk (by decide +kernel)) rfl ?_
      refine xw_iadd (n := 185) (show xlook 42 184 = some (184, .iadd, 1, 0, 0, 0, 0) from xlk (by decide +kernel)) rfl ?_
      refine xw_aload_n (n := 186) (show xlook 42 185 = some (185, .aload_n 1, 1, 0, 0, 0, 0) from xlk (by decide +kernel)) rfl rfl ?_
      refine xw_geti (show xlook 42 186 = some (186, .getfield 167, 3, 1, 2, 0, 64) from xlk (by decide +kernel)) (by decide) (xobf hb5 (by decide) (by decide)) rfl (n := 189) rfl ?_
      obtain ⟨j36, hj36, rr36, G36, hm36, hG36, t⟩ := t
      obtain ⟨y36, rfl, t⟩ := t
      refine xw_callv (dk := j36) (o := 18) (as := [vi (((G35) (t3 + 1 + 6 + ((G2) (t4) 4 : Int).toNat) 3) + (1)), vi ((G35) (t3 + 1 + 6 + ((G2) (t4) 4 : Int).toNat) 2)]) (show xlook 42 189 = some (189, .invokevirtual 119, 3, 37, 3, 0, 41) from xlk (by decide +kernel)) (by decide) hj36 ⟨Nat.le_of_ble_eq_true rfl, Nat.le_of_ble_eq_true rfl, Nat.le_of_ble_eq_true rfl⟩ ⟨xob_5.1, xob_5.2, by decide⟩ rfl hm36 (n := 192) rfl ?_
      show xW X d 42 192 [.ref (18), .ref (t3 + 1 + 6 + ((G2) (t4) 4 : Int).toNat), vi (0)] [vi (y36), .ref (t3 + 1 + 6 + ((G2) (t4) 4 : Int).toNat)] G36 (xqv Q)
      refine xw_puti (show xlook 42 192 = some (192, .putfield 176, 3, 1, 4, 0, 66) from xlk (by decide +kernel)) (xobf hb5 (by decide) (by decide)) rfl (n := 195) rfl ?_
      refine xw_aload_n (n := 196) (show xlook 42 195 = some (195, .aload_n 0, 1, 0, 0, 0, 0) from xlk (by decide +kernel)) rfl rfl ?_
      refine xw_ldcs (n := 198) (show xlook 42 196 = some (196, .ldc 178, 2, 9, 1, 0, 0) from xlk (by decide +kernel)) rfl (by decide) ?_
      obtain ⟨j37, hj37, rr37, G37, hm37, hG37, t⟩ := t
      obtain ⟨rfl, t⟩ := t
      refine xw_callv (dk := j37) (o := 18) (as := [.ref (xSB + 2 * 9)]) (show xlook 42 198 = some (198, .invokevirtual 161, 3, 36, 2, 0, 47) from xlk (by decide +kernel)) (by decide) hj37 ⟨Nat.le_of_ble_eq_true rfl, Nat.le_of_ble_eq_true rfl, Nat.le_of_ble_eq_true rfl⟩ ⟨xob_5.1, xob_5.2, by decide⟩ rfl hm37 (n := 201) rfl ?_
      show xW X d 42 201 [.ref (18), .ref (t3 + 1 + 6 + ((G2) (t4) 4 : Int).toNat), vi (0)] [] G37 (xqv Q)
      refine xw_aload_n (n := 202) (show xlook 42 201 = some (201, .aload_n 1, 1, 0, 0, 0, 0) from xlk (by decide +kernel)) rfl rfl ?_
      refine xw_aload_n (n := 203) (show xlook 42 202 = some (202, .aload_n 0, 1, 0, 0, 0, 0) from xlk (by decide +kernel)) rfl rfl ?_
      refine xw_iconst (n := 204) (show xlook 42 203 = some (203, .iconst 0, 1, 0, 0, 0, 0) from xlk (by decide +kernel)) rfl ?_
      refine xw_bipush (n := 206) (show xlook 42 204 = some (204, .bipush 99, 2, 0, 0, 0, 0) from xlk (by decide +kernel)) rfl (by decide) ?_
      obtain ⟨j38, hj38, rr38, G38, hm38, hG38, t⟩ := t
      obtain ⟨y38, rfl, t⟩ := t
      refine xw_callv (dk := j38) (o := 18) (as := [vi (0), vi (99)]) (show xlook 42 206 = some (206, .invokevirtual 119, 3, 37, 3, 0, 41) from xlk (by decide +kernel)) (by decide) hj38 ⟨Nat.le_of_ble_eq_true rfl, Nat.le_of_ble_eq_true rfl, Nat.le_of_ble_eq_true rfl⟩ ⟨xob_5.1, xob_5.2, by decide⟩ rfl hm38 (n := 209) rfl ?_
      show xW X d 42 209 [.ref (18), .ref (t3 + 1 + 6 + ((G2) (t4) 4 : Int).toNat), vi (0)] [vi (y38), .ref (t3 + 1 + 6 + ((G2) (t4) 4 : Int).toNat)] G38 (xqv Q)
      refine xw_puti (show xlook 42 209 = some (209, .putfield 180, 3, 1, 5, 0, 67) from xlk (by decide +kernel)) (xobf hb5 (by decide) (by decide)) rfl (n := 212) rfl ?_
      refine xw_aload_n (n := 213) (show xlook 42 212 = some (212, .aload_n 0, 1, 0, 0, 0, 0) from xlk (by decide +kernel)) rfl rfl ?_
      refine xw_ldcs (n := 215) (show xlook 42 213 = some (213, .ldc 183, 2, 10, 1, 0, 0) from xlk (by decide +kernel)) rfl (by decide) ?_
      obtain ⟨j39, hj39, rr39, G39, hm39, hG39, t⟩ := t
      obtain ⟨rfl, t⟩ := t
      refine xw_callv (dk := j39) (o := 18) (as := [.ref (xSB + 2 * 10)]) (show xlook 42 215 = some (215, .invokevirtual 161, 3, 36, 2, 0, 47) from xlk (by decide +kernel)) (by decide) hj39 ⟨Nat.le_of_ble_eq_true rfl, Nat.le_of_ble_eq_true rfl, Nat.le_of_ble_eq_true rfl⟩ ⟨xob_5.1, xob_5.2, by decide⟩ rfl hm39 (n := 218) rfl ?_
      show xW X d 42 218 [.ref (18), .ref (t3 + 1 + 6 + ((G2) (t4) 4 : Int).toNat), vi (0)] [] G39 (xqv Q)
      refine xw_aload_n (n := 219) (show xlook 42 218 = some (218, .aload_n 1, 1, 0, 0, 0, 0) from xlk (by decide +kernel)) rfl rfl ?_
      refine xw_aload_n (n := 220) (show xlook 42 219 = some (219, .aload_n 0, 1, 0, 0, 0, 0) from xlk (by decide +kernel)) rfl rfl ?_
      refine xw_iconst (n := 221) (show xlook 42 220 = some (220, .iconst 1, 1, 0, 0, 0, 0) from xlk (by decide +kernel)) rfl ?_
      refine xw_bipush (n := 223) (show xlook 42 221 = some (221, .bipush 20, 2, 0, 0, 0, 0) from xlk (by decide +kernel)) rfl (by decide) ?_
      obtain ⟨j40, hj40, rr40, G40, hm40, hG40, t⟩ := t
      obtain ⟨y40, rfl, t⟩ := t
      refine xw_callv (dk := j40) (o := 18) (as := [vi (1), vi (20)]) (show xlook 42 223 = some (223, .invokevirtual 119, 3, 37, 3, 0, 41) from xlk (by decide +kernel)) (by decide) hj40 ⟨Nat.le_of_ble_eq_true rfl, Nat.le_of_ble_eq_true rfl, Nat.le_of_ble_eq_true rfl⟩ ⟨xob_5.1, xob_5.2, by decide⟩ rfl hm40 (n := 226) rfl ?_
      show xW X d 42 226 [.ref (18), .ref (t3 + 1 + 6 + ((G2) (t4) 4 : Int).toNat), vi (0)] [vi (y40), .ref (t3 + 1 + 6 + ((G2) (t4) 4 : Int).toNat)] G40 (xqv Q)
      refine xw_puti (show xlook 42 226 = some (226, .putfield 185, 3, 1, 6, 0, 68) from xlk (by decide +kernel)) (xobf hb5 (by decide) (by decide)) rfl (n := 229) rfl ?_
      refine xw_aload_n (n := 230) (show xlook 42 229 = some (229, .aload_n 0, 1, 0, 0, 0, 0) from xlk (by decide +kernel)) rfl rfl ?_
      obtain ⟨t41, q1, ht41, t⟩ := t
      refine xw_getr (q := t41) (show xlook 42 230 = some (230, .getfield 22, 3, 5, 5, 0, 46) from xlk (by decide +kernel)) (by decide) (xobf xob_5 (by decide) (by decide)) rfl q1 (by have := ht41.1; omega) (n := 233) rfl ?_
      refine xw_dupr (n := 234) (show xlook 42 233 = some (233, .dup, 1, 0, 0, 0, 0) from xlk (by decide +kernel)) rfl ?_
      refine xw_geti (show xlook 42 234 = some (234, .getfield 147, 3, 9, 4, 0, 60) from xlk (by decide +kernel)) (by decide) (xobf ht41 (by decide) (by decide)) rfl (n := 237) rfl ?_
      refine xw_iconst (n := 238) (show xlook 42 237 = some (237, .iconst 1, 1, 0, 0, 0, 0) from xlk (by decide +kernel)) rfl ?_
      refine xw_iadd (n := 239) (show xlook 42 238 = some (238, .iadd, 1, 0, 0, 0, 0) from xlk (by decide +kernel)) rfl ?_
      refine xw_puti (show xlook 42 239 = some (239, .putfield 147, 3, 9, 4, 0, 60) from xlk (by decide +kernel)) (xobf ht41 (by decide) (by decide)) rfl (n := 242) rfl ?_
      exact xw_return (xPT_fld (k := 4) (xPT_fld (k := 6) hG40 hb5 (by decide) (by decide)) ht41 (by decide) (by decide)) (show xlook 42 242 = some (242, .return_, 1, 0, 0, 0, 0) from xlk (by decide +kernel)) rfl (t (xPT_fld (k := 4) (xPT_fld (k := 6) hG40 hb5 (by decide) (by decide)) ht41 (by decide) (by decide)))
  · replace t := t.2 c
    refine xw_aload_n (n := 13) (show xlook 42 12 = some (12, .aload_n 0, 1, 0, 0, 0, 0) from xlk (by decide +kernel)) rfl rfl ?_
    refine xw_iconst (n := 14) (show xlook 42 13 = some (13, .iconst 3, 1, 0, 0, 0, 0) from xlk (by decide +kernel)) rfl ?_
    refine xw_aload_n (n := 15) (show xlook 42 14 = some (14, .aload_n 0, 1, 0, 0, 0, 0) from xlk (by decide +kernel)) rfl rfl ?_
    refine xw_geti (show xlook 42 15 = some (15, .getfield 62, 3, 5, 9, 0, 54) from xlk (by decide +kernel)) (by decide) (xobf xob_5 (by decide) (by decide)) rfl (n := 18) rfl ?_
    obtain ⟨j42, hj42, rr42, G42, hm42, hG42, t⟩ := t
    obtain ⟨rfl, t⟩ := t
    refine xw_callv (dk := j42) (o := 18) (as := [vi (3), vi ((F) (18) 9)]) (show xlook 42 18 = some (18, .invokevirtual 89, 3, 31, 3, 0, 37) from xlk (by decide +kernel)) (by decide) hj42 ⟨Nat.le_of_ble_eq_true rfl, Nat.le_of_ble_eq_true rfl, Nat.le_of_ble_eq_true rfl⟩ ⟨xob_5.1, xob_5.2, by decide⟩ rfl hm42 (n := 21) rfl ?_
    show xW X d 42 21 [.ref (18), w1, w2] [] G42 (xqv Q)
    exact xw_return hG42 (show xlook 42 21 = some (21, .return_, 1, 0, 0, 0, 0) from xlk (by decide +kernel)) rfl (t hG42)
theorem m42 {X : List Int32} {d : Nat} {F : XF} {Q : XF → Prop}  (hPT : xPT F)  (t : ∃ t1 : Nat, (F) (18) 5 = (t1 : Int) ∧ xob 9 t1 ∧ (inR ((F) (t1) 4) ∧ (((((F) (t1) 4) < (10)) → (∃ (j2 : Nat), j2 < d ∧ xMV X j2 32 [.ref (18)] (F) (fun (G2 : XF) => (∃ t3 : Nat, (G2) (18) 5 = (t3 : Int) ∧ xob 9 t3 ∧ (∃ t4 : Nat, (G2) (18) 5 = (t4 : Int) ∧ xob 9 t4 ∧ ((0 ≤ ((G2) (t4) 4 : Int) ∧ ((G2) (t4) 4 : Int) < 10) ∧ (∃ t6 : Nat, (G2) (18) 5 = (t6 : Int) ∧ xob 9 t6 ∧ (inR ((G2) (t6) 4) ∧ (((¬ ((G2) (t6) 4) = (0)) → (∃ t7 : Nat, (G2) (18) 5 = (t7 : Int) ∧ xob 9 t7 ∧ (∃ t8 : Nat, (G2) (18) 5 = (t8 : Int) ∧ xob 9 t8 ∧ ((0 ≤ (((G2) (t8) 4) - (1) : Int) ∧ (((G2) (t8) 4) - (1) : Int) < 10) ∧ (∃ t10 : Nat, (G2) (18) 5 = (t10 : Int) ∧ xob 9 t10 ∧ (∃ (j11 : Nat), j11 < d ∧ xMI X j11 37 [.ref (18), vi ((G2) (t7 + 1 + 6 + (((G2) (t8) 4) - (1) : Int).toNat) 1), vi (((G2) (t10) 0) - (1))] (G2) (fun (y11 : Int) (G11 : XF) => (∃ (j12 : Nat), j12 < d ∧ xMV X j12 36 [.ref (18), .ref (xSB + 2 * 5)] (xup (G11) (t3 + 1 + 6 + ((G2) (t4) 4 : Int).toNat) 0 (y11)) (fun (G12 : XF) => (∃ t13 : Nat, (G12) (18) 5 = (t13 : Int) ∧ xob 9 t13 ∧ (inR (((G12) (t13) 0) - ((G12) (t3 + 1 + 6 + ((G2) (t4) 4 : Int).toNat) 0)) ∧ (∃ (j14 : Nat), j14 < d ∧ xMI X j14 37 [.ref (18), vi (1), vi (min (50) (((G12) (t13) 0) - ((G12) (t3 + 1 + 6 + ((G2) (t4) 4 : Int).toNat) 0)))] (G12) (fun (y14 : Int) (G14 : XF) => (∃ (j15 : Nat), j15 < d ∧ xMV X j15 36 [.ref (18), .ref (xSB + 2 * 6)] (xup (G14) (t3 + 1 + 6 + ((G2) (t4) 4 : Int).toNat) 1 (((G12) (t3 + 1 + 6 + ((G2) (t4) 4 : Int).toNat) 0) + (y14))) (fun (G15 : XF) => (∃ (j16 : Nat), j16 < d ∧ xMI X j16 37 [.ref (18), vi (1), vi (200)] (G15) (fun (y16 : Int) (G16 : XF) => (∃ (j17 : Nat), j17 < d ∧ xMV X j17 36 [.ref (18), .ref (xSB + 2 * 7)] (xup (G16) (t3 + 1 + 6 + ((G2) (t4) 4 : Int).toNat) 2 (y16)) (fun (G17 : XF) => (∃ (j18 : Nat), j18 < d ∧ xMI X j18 37 [.ref (18), vi (0), vi (((G17) (t3 + 1 + 6 + ((G2) (t4) 4 : Int).toNat) 2) - (1))] (G17) (fun (y18 : Int) (G18 : XF) => (∃ (j19 : Nat), j19 < d ∧ xMV X j19 36 [.ref (18), .ref (xSB + 2 * 8)] (xup (G18) (t3 + 1 + 6 + ((G2) (t4) 4 : Int).toNat) 3 (y18)) (fun (G19 : XF) => (∃ (j20 : Nat), j20 < d ∧ xMI X j20 37 [.ref (18), vi (((G19) (t3 + 1 + 6 + ((G2) (t4) 4 : Int).toNat) 3) + (1)), vi ((G19) (t3 + 1 + 6 + ((G2) (t4) 4 : Int).toNat) 2)] (G19) (fun (y20 : Int) (G20 : XF) => (∃ (j21 : Nat), j21 < d ∧ xMV X j21 36 [.ref (18), .ref (xSB + 2 * 9)] (xup (G20) (t3 + 1 + 6 + ((G2) (t4) 4 : Int).toNat) 4 (y20)) (fun (G21 : XF) => (∃ (j22 : Nat), j22 < d ∧ xMI X j22 37 [.ref (18), vi (0), vi (99)] (G21) (fun (y22 : Int) (G22 : XF) => (∃ (j23 : Nat), j23 < d ∧ xMV X j23 36 [.ref (18), .ref (xSB + 2 * 10)] (xup (G22) (t3 + 1 + 6 + ((G2) (t4) 4 : Int).toNat) 5 (y22)) (fun (G23 : XF) => (∃ (j24 : Nat), j24 < d ∧ xMI X j24 37 [.ref (18), vi (1), vi (20)] (G23) (fun (y24 : Int) (G24 : XF) => (∃ t25 : Nat, (xup (G24) (t3 + 1 + 6 + ((G2) (t4) 4 : Int).toNat) 6 (y24)) (18) 5 = (t25 : Int) ∧ xob 9 t25 ∧ (xPT (xup (xup (G24) (t3 + 1 + 6 + ((G2) (t4) 4 : Int).toNat) 6 (y24)) (t25) 4 (((xup (G24) (t3 + 1 + 6 + ((G2) (t4) 4 : Int).toNat) 6 (y24)) (t25) 4) + (1))) → Q (xup (xup (G24) (t3 + 1 + 6 + ((G2) (t4) 4 : Int).toNat) 6 (y24)) (t25) 4 (((xup (G24) (t3 + 1 + 6 + ((G2) (t4) 4 : Int).toNat) 6 (y24)) (t25) 4) + (1)))))))))))))))))))))))))))))))))))))) ∧ (¬ (¬ ((G2) (t6) 4) = (0)) → (∃ t26 : Nat, (G2) (18) 5 = (t26 : Int) ∧ xob 9 t26 ∧ (∃ (j27 : Nat), j27 < d ∧ xMI X j27 37 [.ref (18), vi (0), vi (((G2) (t26) 0) - (1))] (G2) (fun (y27 : Int) (G27 : XF) => (∃ (j28 : Nat), j28 < d ∧ xMV X j28 36 [.ref (18), .ref (xSB + 2 * 5)] (xup (G27) (t3 + 1 + 6 + ((G2) (t4) 4 : Int).toNat) 0 (y27)) (fun (G28 : XF) => (∃ t29 : Nat, (G28) (18) 5 = (t29 : Int) ∧ xob 9 t29 ∧ (inR (((G28) (t29) 0) - ((G28) (t3 + 1 + 6 + ((G2) (t4) 4 : Int).toNat) 0)) ∧ (∃ (j30 : Nat), j30 < d ∧ xMI X j30 37 [.ref (18), vi (1), vi (min (50) (((G28) (t29) 0) - ((G28) (t3 + 1 + 6 + ((G2) (t4) 4 : Int).toNat) 0)))] (G28) (fun (y30 : Int) (G30 : XF) => (∃ (j31 : Nat), j31 < d ∧ xMV X j31 36 [.ref (18), .ref (xSB + 2 * 6)] (xup (G30) (t3 + 1 + 6 + ((G2) (t4) 4 : Int).toNat) 1 (((G28) (t3 + 1 + 6 + ((G2) (t4) 4 : Int).toNat) 0) + (y30))) (fun (G31 : XF) => (∃ (j32 : Nat), j32 < d ∧ xMI X j32 37 [.ref (18), vi (1), vi (200)] (G31) (fun (y32 : Int) (G32 : XF) => (∃ (j33 : Nat), j33 < d ∧ xMV X j33 36 [.ref (18), .ref (xSB + 2 * 7)] (xup (G32) (t3 + 1 + 6 + ((G2) (t4) 4 : Int).toNat) 2 (y32)) (fun (G33 : XF) => (∃ (j34 : Nat), j34 < d ∧ xMI X j34 37 [.ref (18), vi (0), vi (((G33) (t3 + 1 + 6 + ((G2) (t4) 4 : Int).toNat) 2) - (1))] (G33) (fun (y34 : Int) (G34 : XF) => (∃ (j35 : Nat), j35 < d ∧ xMV X j35 36 [.ref (18), .ref (xSB + 2 * 8)] (xup (G34) (t3 + 1 + 6 + ((G2) (t4) 4 : Int).toNat) 3 (y34)) (fun (G35 : XF) => (∃ (j36 : Nat), j36 < d ∧ xMI X j36 37 [.ref (18), vi (((G35) (t3 + 1 + 6 + ((G2) (t4) 4 : Int).toNat) 3) + (1)), vi ((G35) (t3 + 1 + 6 + ((G2) (t4) 4 : Int).toNat) 2)] (G35) (fun (y36 : Int) (G36 : XF) => (∃ (j37 : Nat), j37 < d ∧ xMV X j37 36 [.ref (18), .ref (xSB + 2 * 9)] (xup (G36) (t3 + 1 + 6 + ((G2) (t4) 4 : Int).toNat) 4 (y36)) (fun (G37 : XF) => (∃ (j38 : Nat), j38 < d ∧ xMI X j38 37 [.ref (18), vi (0), vi (99)] (G37) (fun (y38 : Int) (G38 : XF) => (∃ (j39 : Nat), j39 < d ∧ xMV X j39 36 [.ref (18), .ref (xSB + 2 * 10)] (xup (G38) (t3 + 1 + 6 + ((G2) (t4) 4 : Int).toNat) 5 (y38)) (fun (G39 : XF) => (∃ (j40 : Nat), j40 < d ∧ xMI X j40 37 [.ref (18), vi (1), vi (20)] (G39) (fun (y40 : Int) (G40 : XF) => (∃ t41 : Nat, (xup (G40) (t3 + 1 + 6 + ((G2) (t4) 4 : Int).toNat) 6 (y40)) (18) 5 = (t41 : Int) ∧ xob 9 t41 ∧ (xPT (xup (xup (G40) (t3 + 1 + 6 + ((G2) (t4) 4 : Int).toNat) 6 (y40)) (t41) 4 (((xup (G40) (t3 + 1 + 6 + ((G2) (t4) 4 : Int).toNat) 6 (y40)) (t41) 4) + (1))) → Q (xup (xup (G40) (t3 + 1 + 6 + ((G2) (t4) 4 : Int).toNat) 6 (y40)) (t41) 4 (((xup (G40) (t3 + 1 + 6 + ((G2) (t4) 4 : Int).toNat) 6 (y40)) (t41) 4) + (1)))))))))))))))))))))))))))))))))))))))))))) ∧ (¬ (((F) (t1) 4) < (10)) → (∃ (j42 : Nat), j42 < d ∧ xMV X j42 31 [.ref (18), vi (3), vi ((F) (18) 9)] (F) (fun (G42 : XF) => (xPT (G42) → Q (G42)))))))) : xMV X d 42 [.ref (18)] F Q := by
  show xW X d 42 0 [.ref (18), xU0, xU0] [] F (xqv Q)
  exact s42_0 hPT  t

theorem s43_0 {X : List Int32} {d : Nat} {F : XF} {Q : XF → Prop} {w1 : Value} {w2 : Value} {w3 : Value} (hPT : xPT F)  (t : ∃ (j1 : Nat), j1 < d ∧ xMV X j1 32 [.ref (18)] (F) (fun (G1 : XF) => (∃ (j2 : Nat), j2 < d ∧ xMI X j2 37 [.ref (18), vi (1), vi (30)] (G1) (fun (y2 : Int) (G2 : XF) => (∃ (j3 : Nat), j3 < d ∧ xMV X j3 36 [.ref (18), .ref (xSB + 2 * 12)] (G2) (fun (G3 : XF) => (∃ (j4 : Nat), j4 < d ∧ xMI X j4 37 [.ref (18), vi (1), vi (30)] (G3) (fun (y4 : Int) (G4 : XF) => (inR ((G4) (18) 1) ∧ (((((G4) (18) 1) = (0)) → (∃ t5 : Nat, (G4) (18) 5 = (t5 : Int) ∧ xob 9 t5 ∧ (inR (((G4) (t5) 6) + (y2)) ∧ ((((((G4) (t5) 6) + (y2)) ≤ (30)) → (∃ t6 : Nat, (G4) (18) 5 = (t6 : Int) ∧ xob 9 t6 ∧ (∃ (j7 : Nat), j7 < d ∧ xMV X j7 73 [.ref (t6), vi (y2), vi (y4)] (G4) (fun (G7 : XF) => (xPT (G7) → Q (G7)))))) ∧ (¬ ((((G4) (t5) 6) + (y2)) ≤ (30)) → (∃ (j8 : Nat), j8 < d ∧ xMV X j8 31 [.ref (18), vi (3), vi ((G1) (18) 9)] (G4) (fun (G8 : XF) => (xPT (G8) → Q (G8))))))))) ∧ (¬ (((G4) (18) 1) = (0)) → (xPT (G4) → Q (G4))))))))))))) : xW X d 43 0 [.ref (18), w1, w2, w3] [] F (xqv Q) := by
  refine xw_aload_n (n := 1) (show xlook 43 0 = some (0, .aload_n 0, 1, 0, 0, 0, 0) from xlk (by decide +kernel)) rfl rfl ?_
  obtain ⟨j1, hj1, rr1, G1, hm1, hG1, t⟩ := t
  obtain ⟨rfl, t⟩ := t
  refine xw_callv (dk := j1) (o := 18) (as := []) (show xlook 43 1 = some (1, .invokevirtual 53, 3, 32, 1, 0, 30) from xlk (by decide +kernel)) (by decide) hj1 ⟨Nat.le_of_ble_eq_true rfl, Nat.le_of_ble_eq_true rfl, Nat.le_of_ble_eq_true rfl⟩ ⟨xob_5.1, xob_5.2, by decide⟩ rfl hm1 (n := 4) rfl ?_
  show xW X d 43 4 [.ref (18), w1, w2, w3] [] G1 (xqv Q)
  refine xw_aload_n (n := 5) (show xlook 43 4 = some (4, .aload_n 0, 1, 0, 0, 0, 0) from xlk (by decide +kernel)) rfl rfl ?_
  refine xw_geti (show xlook 43 5 = some (5, .getfield 62, 3, 5, 9, 0, 54) from xlk (by decide +kernel)) (by decide) (xobf xob_5 (by decide) (by decide)) rfl (n := 8) rfl ?_
  refine xw_istore_n (n := 9) (show xlook 43 8 = some (8, .istore_n 1, 1, 0, 0, 0, 0) from xlk (by decide +kernel)) rfl (ls' := [.ref (18), vi ((G1) (18) 9), w2, w3]) (Nat.le_of_ble_eq_true rfl) rfl ?_
  refine xw_aload_n (n := 10) (show xlook 43 9 = some (9, .aload_n 0, 1, 0, 0, 0, 0) from xlk (by decide +kernel)) rfl rfl ?_
  refine xw_iconst (n := 11) (show xlook 43 10 = some (10, .iconst 1, 1, 0, 0, 0, 0) from xlk (by decide +kernel)) rfl ?_
  refine xw_bipush (n := 13) (show xlook 43 11 = some (11, .bipush 30, 2, 0, 0, 0, 0) from xlk (by decide +kernel)) rfl (by decide) ?_
  obtain ⟨j2, hj2, rr2, G2, hm2, hG2, t⟩ := t
  obtain ⟨y2, rfl, t⟩ := t
  refine xw_callv (dk := j2) (o := 18) (as := [vi (1), vi (30)]) (show xlook 43 13 = some (13, .invokevirtual 119, 3, 37, 3, 0, 41) from xlk (by decide +kernel)) (by decide) hj2 ⟨Nat.le_of_ble_eq_true rfl, Nat.le_of_ble_eq_true rfl, Nat.le_of_ble_eq_true rfl⟩ ⟨xob_5.1, xob_5.2, by decide⟩ rfl hm2 (n := 16) rfl ?_
  show xW X d 43 16 [.ref (18), vi ((G1) (18) 9), w2, w3] [vi (y2)] G2 (xqv Q)
  refine xw_istore_n (n := 17) (show xlook 43 16 = some (16, .istore_n 2, 1, 0, 0, 0, 0) from xlk (by decide +kernel)) rfl (ls' := [.ref (18), vi ((G1) (18) 9), vi (y2), w3]) (Nat.le_of_ble_eq_true rfl) rfl ?_
  refine xw_aload_n (n := 18) (show xlook 43 17 = some (17, .aload_n 0, 1, 0, 0, 0, 0) from xlk (by decide +kernel)) rfl rfl ?_
  refine xw_ldcs (n := 20) (show xlook 43 18 = some (18, .ldc 187, 2, 12, 1, 0, 0) from xlk (by decide +kernel)) rfl (by decide) ?_
  obtain ⟨j3, hj3, rr3, G3, hm3, hG3, t⟩ := t
  obtain ⟨rfl, t⟩ := t
  refine xw_callv (dk := j3) (o := 18) (as := [.ref (xSB + 2 * 12)]) (show xlook 43 20 = some (20, .invokevirtual 161, 3, 36, 2, 0, 47) from xlk (by decide +kernel)) (by decide) hj3 ⟨Nat.le_of_ble_eq_true rfl, Nat.le_of_ble_eq_true rfl, Nat.le_of_ble_eq_true rfl⟩ ⟨xob_5.1, xob_5.2, by decide⟩ rfl hm3 (n := 23) rfl ?_
  show xW X d 43 23 [.ref (18), vi ((G1) (18) 9), vi (y2), w3] [] G3 (xqv Q)
  refine xw_aload_n (n := 24) (show xlook 43 23 = some (23, .aload_n 0, 1, 0, 0, 0, 0) from xlk (by decide +kernel)) rfl rfl ?_
  refine xw_iconst (n := 25) (show xlook 43 24 = some (24, .iconst 1, 1, 0, 0, 0, 0) from xlk (by decide +kernel)) rfl ?_
  refine xw_bipush (n := 27) (show xlook 43 25 = some (25, .bipush 30, 2, 0, 0, 0, 0) from xlk (by decide +kernel)) rfl (by decide) ?_
  obtain ⟨j4, hj4, rr4, G4, hm4, hG4, t⟩ := t
  obtain ⟨y4, rfl, t⟩ := t
  refine xw_callv (dk := j4) (o := 18) (as := [vi (1), vi (30)]) (show xlook 43 27 = some (27, .invokevirtual 119, 3, 37, 3, 0, 41) from xlk (by decide +kernel)) (by decide) hj4 ⟨Nat.le_of_ble_eq_true rfl, Nat.le_of_ble_eq_true rfl, Nat.le_of_ble_eq_true rfl⟩ ⟨xob_5.1, xob_5.2, by decide⟩ rfl hm4 (n := 30) rfl ?_
  show xW X d 43 30 [.ref (18), vi ((G1) (18) 9), vi (y2), w3] [vi (y4)] G4 (xqv Q)
  refine xw_istore_n (n := 31) (show xlook 43 30 = some (30, .istore_n 3, 1, 0, 0, 0, 0) from xlk (by decide +kernel)) rfl (ls' := [.ref (18), vi ((G1) (18) 9), vi (y2), vi (y4)]) (Nat.le_of_ble_eq_true rfl) rfl ?_
  refine xw_aload_n (n := 32) (show xlook 43 31 = some (31, .aload_n 0, 1, 0, 0, 0, 0) from xlk (by decide +kernel)) rfl rfl ?_
  refine xw_geti (show xlook 43 32 = some (32, .getfield 41, 3, 5, 1, 0, 49) from xlk (by decide +kernel)) (by decide) (xobf xob_5 (by decide) (by decide)) rfl (n := 35) rfl ?_
  obtain ⟨q0, t⟩ := t
  refine xw_if_eq (n := 38) (m := 39) (show xlook 43 35 = some (35, .ifCond .eq 4, 3, 39, 0, 0, 0) from xlk (by decide +kernel)) rfl rfl q0 ⟨fun c => ?_, fun c => ?_⟩
  · replace t := t.1 c
    refine xw_aload_n (n := 40) (show xlook 43 39 = some (39, .aload_n 0, 1, 0, 0, 0, 0) from xlk (by decide +kernel)) rfl rfl ?_
    obtain ⟨t5, q1, ht5, t⟩ := t
    refine xw_getr (q := t5) (show xlook 43 40 = some (40, .getfield 22, 3, 5, 5, 0, 46) from xlk (by decide +kernel)) (by decide) (xobf xob_5 (by decide) (by decide)) rfl q1 (by have := ht5.1; omega) (n := 43) rfl ?_
    refine xw_geti (show xlook 43 43 = some (43, .getfield 189, 3, 9, 6, 0, 69) from xlk (by decide +kernel)) (by decide) (xobf ht5 (by decide) (by decide)) rfl (n := 46) rfl ?_
    refine xw_iload_n (n := 47) (show xlook 43 46 = some (46, .iload_n 2, 1, 0, 0, 0, 0) from xlk (by decide +kernel)) rfl rfl ?_
    refine xw_iadd (n := 48) (show xlook 43 47 = some (47, .iadd, 1, 0, 0, 0, 0) from xlk (by decide +kernel)) rfl ?_
    refine xw_bipush (n := 50) (show xlook 43 48 = some (48, .bipush 30, 2, 0, 0, 0, 0) from xlk (by decide +kernel)) rfl (by decide) ?_
    obtain ⟨q0, t⟩ := t
    refine xw_icmp_le (n := 53) (m := 60) (show xlook 43 50 = some (50, .if_icmp .le 10, 3, 60, 0, 0, 0) from xlk (by decide +kernel)) rfl rfl q0 ⟨by decide, by decide⟩ ⟨fun c => ?_, fun c => ?_⟩
    · replace t := t.1 c
      refine xw_aload_n (n := 61) (show xlook 43 60 = some (60, .aload_n 0, 1, 0, 0, 0, 0) from xlk (by decide +kernel)) rfl rfl ?_
      obtain ⟨t6, q1, ht6, t⟩ := t
      refine xw_getr (q := t6) (show xlook 43 61 = some (61, .getfield 22, 3, 5, 5, 0, 46) from xlk (by decide +kernel)) (by decide) (xobf xob_5 (by decide) (by decide)) rfl q1 (by have := ht6.1; omega) (n := 64) rfl ?_
      refine xw_iload_n (n := 65) (show xlook 43 64 = some (64, .iload_n 2, 1, 0, 0, 0, 0) from xlk (by decide +kernel)) rfl rfl ?_
      refine xw_iload_n (n := 66) (show xlook 43 65 = some (65, .iload_n 3, 1, 0, 0, 0, 0) from xlk (by decide +kernel)) rfl rfl ?_
      obtain ⟨j7, hj7, rr7, G7, hm7, hG7, t⟩ := t
      obtain ⟨rfl, t⟩ := t
      refine xw_callv (dk := j7) (o := t6) (as := [vi (y2), vi (y4)]) (show xlook 43 66 = some (66, .invokevirtual 191, 3, 73, 3, 0, 48) from xlk (by decide +kernel)) (by decide) hj7 ⟨Nat.le_of_ble_eq_true rfl, Nat.le_of_ble_eq_true rfl, Nat.le_of_ble_eq_true rfl⟩ ⟨ht6.1, ht6.2, by decide⟩ rfl hm7 (n := 69) rfl ?_
      show xW X d 43 69 [.ref (18), vi ((G1) (18) 9), vi (y2), vi (y4)] [] G7 (xqv Q)
      exact xw_return hG7 (show xlook 43 69 = some (69, .return_, 1, 0, 0, 0, 0) from xlk (by decide +kernel)) rfl (t hG7)
    · replace t := t.2 c
      refine xw_aload_n (n := 54) (show xlook 43 53 = some (53, .aload_n 0, 1, 0, 0, 0, 0) from xlk (by decide +kernel)) rfl rfl ?_
      refine xw_iconst (n := 55) (show xlook 43 54 = some (54, .iconst 3, 1, 0, 0, 0, 0) from xlk (by decide +kernel)) rfl ?_
      refine xw_iload_n (n := 56) (show xlook 43 55 = some (55, .iload_n 1, 1, 0, 0, 0, 0) from xlk (by decide +kernel)) rfl rfl ?_
      obtain ⟨j8, hj8, rr8, G8, hm8, hG8, t⟩ := t
      obtain ⟨rfl, t⟩ := t
      refine xw_callv (dk := j8) (o := 18) (as := [vi (3), vi ((G1) (18) 9)]) (show xlook 43 56 = some (56, .invokevirtual 89, 3, 31, 3, 0, 37) from xlk (by decide +kernel)) (by decide) hj8 ⟨Nat.le_of_ble_eq_true rfl, Nat.le_of_ble_eq_true rfl, Nat.le_of_ble_eq_true rfl⟩ ⟨xob_5.1, xob_5.2, by decide⟩ rfl hm8 (n := 59) rfl ?_
      show xW X d 43 59 [.ref (18), vi ((G1) (18) 9), vi (y2), vi (y4)] [] G8 (xqv Q)
      exact xw_return hG8 (show xlook 43 59 = some (59, .return_, 1, 0, 0, 0, 0) from xlk (by decide +kernel)) rfl (t hG8)
  · replace t := t.2 c
    exact xw_return hG4 (show xlook 43 38 = some (38, .return_, 1, 0, 0, 0, 0) from xlk (by decide +kernel)) rfl (t hG4)
theorem m43 {X : List Int32} {d : Nat} {F : XF} {Q : XF → Prop}  (hPT : xPT F)  (t : ∃ (j1 : Nat), j1 < d ∧ xMV X j1 32 [.ref (18)] (F) (fun (G1 : XF) => (∃ (j2 : Nat), j2 < d ∧ xMI X j2 37 [.ref (18), vi (1), vi (30)] (G1) (fun (y2 : Int) (G2 : XF) => (∃ (j3 : Nat), j3 < d ∧ xMV X j3 36 [.ref (18), .ref (xSB + 2 * 12)] (G2) (fun (G3 : XF) => (∃ (j4 : Nat), j4 < d ∧ xMI X j4 37 [.ref (18), vi (1), vi (30)] (G3) (fun (y4 : Int) (G4 : XF) => (inR ((G4) (18) 1) ∧ (((((G4) (18) 1) = (0)) → (∃ t5 : Nat, (G4) (18) 5 = (t5 : Int) ∧ xob 9 t5 ∧ (inR (((G4) (t5) 6) + (y2)) ∧ ((((((G4) (t5) 6) + (y2)) ≤ (30)) → (∃ t6 : Nat, (G4) (18) 5 = (t6 : Int) ∧ xob 9 t6 ∧ (∃ (j7 : Nat), j7 < d ∧ xMV X j7 73 [.ref (t6), vi (y2), vi (y4)] (G4) (fun (G7 : XF) => (xPT (G7) → Q (G7)))))) ∧ (¬ ((((G4) (t5) 6) + (y2)) ≤ (30)) → (∃ (j8 : Nat), j8 < d ∧ xMV X j8 31 [.ref (18), vi (3), vi ((G1) (18) 9)] (G4) (fun (G8 : XF) => (xPT (G8) → Q (G8))))))))) ∧ (¬ (((G4) (18) 1) = (0)) → (xPT (G4) → Q (G4))))))))))))) : xMV X d 43 [.ref (18)] F Q := by
  show xW X d 43 0 [.ref (18), xU0, xU0, xU0] [] F (xqv Q)
  exact s43_0 hPT  t

theorem s44_0 {X : List Int32} {d : Nat} {F : XF} {Q : XF → Prop} {w1 : Value} {w2 : Value} (hPT : xPT F)  (t : ∃ (j1 : Nat), j1 < d ∧ xMV X j1 32 [.ref (18)] (F) (fun (G1 : XF) => (∃ t2 : Nat, (G1) (18) 5 = (t2 : Int) ∧ xob 9 t2 ∧ (∃ (j3 : Nat), j3 < d ∧ xMI X j3 37 [.ref (18), vi (0), vi (((G1) (t2) 6) - (1))] (G1) (fun (y3 : Int) (G3 : XF) => (inR ((G3) (18) 1) ∧ (((((G3) (18) 1) = (0)) → (∃ t4 : Nat, (G3) (18) 5 = (t4 : Int) ∧ xob 9 t4 ∧ (inR (xand (xshr ((G3) (t4) 8) (y3)) (1)) ∧ ((((xand (xshr ((G3) (t4) 8) (y3)) (1)) = (0)) → (∃ t5 : Nat, (G3) (18) 5 = (t5 : Int) ∧ xob 9 t5 ∧ (xPT (xup (G3) (t5) 8 (xior ((G3) (t5) 8) (xshl (1) (y3)))) → Q (xup (G3) (t5) 8 (xior ((G3) (t5) 8) (xshl (1) (y3))))))) ∧ (¬ ((xand (xshr ((G3) (t4) 8) (y3)) (1)) = (0)) → (∃ (j6 : Nat), j6 < d ∧ xMV X j6 31 [.ref (18), vi (3), vi ((G1) (18) 9)] (G3) (fun (G6 : XF) => (xPT (G6) → Q (G6))))))))) ∧ (¬ (((G3) (18) 1) = (0)) → (xPT (G3) → Q (G3)))))))))) : xW X d 44 0 [.ref (18), w1, w2] [] F (xqv Q) := by
  refine xw_aload_n (n := 1) (show xlook 44 0 = some (0, .aload_n 0, 1, 0, 0, 0, 0) from xlk (by decide +kernel)) rfl rfl ?_
  obtain ⟨j1, hj1, rr1, G1, hm1, hG1, t⟩ := t
  obtain ⟨rfl, t⟩ := t
  refine xw_callv (dk := j1) (o := 18) (as := []) (show xlook 44 1 = some (1, .invokevirtual 53, 3, 32, 1, 0, 30) from xlk (by decide +kernel)) (by decide) hj1 ⟨Nat.le_of_ble_eq_true rfl, Nat.le_of_ble_eq_true rfl, Nat.le_of_ble_eq_true rfl⟩ ⟨xob_5.1, xob_5.2, by decide⟩ rfl hm1 (n := 4) rfl ?_
  show xW X d 44 4 [.ref (18), w1, w2] [] G1 (xqv Q)
  refine xw_aload_n (n := 5) (show xlook 44 4 = some (4, .aload_n 0, 1, 0, 0, 0, 0) from xlk (by decide +kernel)) rfl rfl ?_
  refine xw_geti (show xlook 44 5 = some (5, .getfield 62, 3, 5, 9, 0, 54) from xlk (by decide +kernel)) (by decide) (xobf xob_5 (by decide) (by decide)) rfl (n := 8) rfl ?_
  refine xw_istore_n (n := 9) (show xlook 44 8 = some (8, .istore_n 1, 1, 0, 0, 0, 0) from xlk (by decide +kernel)) rfl (ls' := [.ref (18), vi ((G1) (18) 9), w2]) (Nat.le_of_ble_eq_true rfl) rfl ?_
  refine xw_aload_n (n := 10) (show xlook 44 9 = some (9, .aload_n 0, 1, 0, 0, 0, 0) from xlk (by decide +kernel)) rfl rfl ?_
  refine xw_iconst (n := 11) (show xlook 44 10 = some (10, .iconst 0, 1, 0, 0, 0, 0) from xlk (by decide +kernel)) rfl ?_
  refine xw_aload_n (n := 12) (show xlook 44 11 = some (11, .aload_n 0, 1, 0, 0, 0, 0) from xlk (by decide +kernel)) rfl rfl ?_
  obtain ⟨t2, q1, ht2, t⟩ := t
  refine xw_getr (q := t2) (show xlook 44 12 = some (12, .getfield 22, 3, 5, 5, 0, 46) from xlk (by decide +kernel)) (by decide) (xobf xob_5 (by decide) (by decide)) rfl q1 (by have := ht2.1; omega) (n := 15) rfl ?_
  refine xw_geti (show xlook 44 15 = some (15, .getfield 189, 3, 9, 6, 0, 69) from xlk (by decide +kernel)) (by decide) (xobf ht2 (by decide) (by decide)) rfl (n := 18) rfl ?_
  refine xw_iconst (n := 19) (show xlook 44 18 = some (18, .iconst 1, 1, 0, 0, 0, 0) from xlk (by decide +kernel)) rfl ?_
  refine xw_isub (n := 20) (show xlook 44 19 = some (19, .isub, 1, 0, 0, 0, 0) from xlk (by decide +kernel)) rfl ?_
  obtain ⟨j3, hj3, rr3, G3, hm3, hG3, t⟩ := t
  obtain ⟨y3, rfl, t⟩ := t
  refine xw_callv (dk := j3) (o := 18) (as := [vi (0), vi (((G1) (t2) 6) - (1))]) (show xlook 44 20 = some (20, .invokevirtual 119, 3, 37, 3, 0, 41) from xlk (by decide +kernel)) (by decide) hj3 ⟨Nat.le_of_ble_eq_true rfl, Nat.le_of_ble_eq_true rfl, Nat.le_of_ble_eq_true rfl⟩ ⟨xob_5.1, xob_5.2, by decide⟩ rfl hm3 (n := 23) rfl ?_
  show xW X d 44 23 [.ref (18), vi ((G1) (18) 9), w2] [vi (y3)] G3 (xqv Q)
  refine xw_istore_n (n := 24) (show xlook 44 23 = some (23, .istore_n 2, 1, 0, 0, 0, 0) from xlk (by decide +kernel)) rfl (ls' := [.ref (18), vi ((G1) (18) 9), vi (y3)]) (Nat.le_of_ble_eq_true rfl) rfl ?_
  refine xw_aload_n (n := 25) (show xlook 44 24 = some (24, .aload_n 0, 1, 0, 0, 0, 0) from xlk (by decide +kernel)) rfl rfl ?_
  refine xw_geti (show xlook 44 25 = some (25, .getfield 41, 3, 5, 1, 0, 49) from xlk (by decide +kernel)) (by decide) (xobf xob_5 (by decide) (by decide)) rfl (n := 28) rfl ?_
  obtain ⟨q0, t⟩ := t
  refine xw_if_eq (n := 31) (m := 32) (show xlook 44 28 = some (28, .ifCond .eq 4, 3, 32, 0, 0, 0) from xlk (by decide +kernel)) rfl rfl q0 ⟨fun c => ?_, fun c => ?_⟩
  · replace t := t.1 c
    refine xw_aload_n (n := 33) (show xlook 44 32 = some (32, .aload_n 0, 1, 0, 0, 0, 0) from xlk (by decide +kernel)) rfl rfl ?_
    obtain ⟨t4, q1, ht4, t⟩ := t
    refine xw_getr (q := t4) (show xlook 44 33 = some (33, .getfield 22, 3, 5, 5, 0, 46) from xlk (by decide +kernel)) (by decide) (xobf xob_5 (by decide) (by decide)) rfl q1 (by have := ht4.1; omega) (n := 36) rfl ?_
    refine xw_geti (show xlook 44 36 = some (36, .getfield 194, 3, 9, 8, 0, 70) from xlk (by decide +kernel)) (by decide) (xobf ht4 (by decide) (by decide)) rfl (n := 39) rfl ?_
    refine xw_iload_n (n := 40) (show xlook 44 39 = some (39, .iload_n 2, 1, 0, 0, 0, 0) from xlk (by decide +kernel)) rfl rfl ?_
    refine xw_ishr (n := 41) (show xlook 44 40 = some (40, .ishr, 1, 0, 0, 0, 0) from xlk (by decide +kernel)) rfl ?_
    refine xw_iconst (n := 42) (show xlook 44 41 = some (41, .iconst 1, 1, 0, 0, 0, 0) from xlk (by decide +kernel)) rfl ?_
    refine xw_iand (n := 43) (show xlook 44 42 = some (42, .iand, 1, 0, 0, 0, 0) from xlk (by decide +kernel)) rfl ?_
    obtain ⟨q0, t⟩ := t
    refine xw_if_eq (n := 46) (m := 53) (show xlook 44 43 = some (43, .ifCond .eq 10, 3, 53, 0, 0, 0) from xlk (by decide +kernel)) rfl rfl q0 ⟨fun c => ?_, fun c => ?_⟩
    · replace t := t.1 c
      refine xw_aload_n (n := 54) (show xlook 44 53 = some (53, .aload_n 0, 1, 0, 0, 0, 0) from xlk (by decide +kernel)) rfl rfl ?_
      obtain ⟨t5, q1, ht5, t⟩ := t
      refine xw_getr (q := t5) (show xlook 44 54 = some (54, .getfield 22, 3, 5, 5, 0, 46) from xlk (by decide +kernel)) (by decide) (xobf xob_5 (by decide) (by decide)) rfl q1 (by have := ht5.1; omega) (n := 57) rfl ?_
      refine xw_dupr (n := 58) (show xlook 44 57 = some (57, .dup, 1, 0, 0, 0, 0) from xlk (by decide +kernel)) rfl ?_
      refine xw_geti (show xlook 44 58 = some (58, .getfield 194, 3, 9, 8, 0, 70) from xlk (by decide +kernel)) (by decide) (xobf ht5 (by decide) (by decide)) rfl (n := 61) rfl ?_
      refine xw_iconst (n := 62) (show xlook 44 61 = some (61, .iconst 1, 1, 0, 0, 0, 0) from xlk (by decide +kernel)) rfl ?_
      refine xw_iload_n (n := 63) (show xlook 44 62 = some (62, .iload_n 2, 1, 0, 0, 0, 0) from xlk (by decide +kernel)) rfl rfl ?_
      refine xw_ishl (n := 64) (show xlook 44 63 = some (63, .ishl, 1, 0, 0, 0, 0) from xlk (by decide +kernel)) rfl ?_
      refine xw_ior (n := 65) (show xlook 44 64 = some (64, .ior, 1, 0, 0, 0, 0) from xlk (by decide +kernel)) rfl ?_
      refine xw_puti (show xlook 44 65 = some (65, .putfield 194, 3, 9, 8, 0, 70) from xlk (by decide +kernel)) (xobf ht5 (by decide) (by decide)) rfl (n := 68) rfl ?_
      exact xw_return (xPT_fld (k := 8) hG3 ht5 (by decide) (by decide)) (show xlook 44 68 = some (68, .return_, 1, 0, 0, 0, 0) from xlk (by decide +kernel)) rfl (t (xPT_fld (k := 8) hG3 ht5 (by decide) (by decide)))
    · replace t := t.2 c
      refine xw_aload_n (n := 47) (show xlook 44 46 = some (46, .aload_n 0, 1, 0, 0, 0, 0) from xlk (by decide +kernel)) rfl rfl ?_
      refine xw_iconst (n := 48) (show xlook 44 47 = some (47, .iconst 3, 1, 0, 0, 0, 0) from xlk (by decide +kernel)) rfl ?_
      refine xw_iload_n (n := 49) (show xlook 44 48 = some (48, .iload_n 1, 1, 0, 0, 0, 0) from xlk (by decide +kernel)) rfl rfl ?_
      obtain ⟨j6, hj6, rr6, G6, hm6, hG6, t⟩ := t
      obtain ⟨rfl, t⟩ := t
      refine xw_callv (dk := j6) (o := 18) (as := [vi (3), vi ((G1) (18) 9)]) (show xlook 44 49 = some (49, .invokevirtual 89, 3, 31, 3, 0, 37) from xlk (by decide +kernel)) (by decide) hj6 ⟨Nat.le_of_ble_eq_true rfl, Nat.le_of_ble_eq_true rfl, Nat.le_of_ble_eq_true rfl⟩ ⟨xob_5.1, xob_5.2, by decide⟩ rfl hm6 (n := 52) rfl ?_
      show xW X d 44 52 [.ref (18), vi ((G1) (18) 9), vi (y3)] [] G6 (xqv Q)
      exact xw_return hG6 (show xlook 44 52 = some (52, .return_, 1, 0, 0, 0, 0) from xlk (by decide +kernel)) rfl (t hG6)
  · replace t := t.2 c
    exact xw_return hG3 (show xlook 44 31 = some (31, .return_, 1, 0, 0, 0, 0) from xlk (by decide +kernel)) rfl (t hG3)
theorem m44 {X : List Int32} {d : Nat} {F : XF} {Q : XF → Prop}  (hPT : xPT F)  (t : ∃ (j1 : Nat), j1 < d ∧ xMV X j1 32 [.ref (18)] (F) (fun (G1 : XF) => (∃ t2 : Nat, (G1) (18) 5 = (t2 : Int) ∧ xob 9 t2 ∧ (∃ (j3 : Nat), j3 < d ∧ xMI X j3 37 [.ref (18), vi (0), vi (((G1) (t2) 6) - (1))] (G1) (fun (y3 : Int) (G3 : XF) => (inR ((G3) (18) 1) ∧ (((((G3) (18) 1) = (0)) → (∃ t4 : Nat, (G3) (18) 5 = (t4 : Int) ∧ xob 9 t4 ∧ (inR (xand (xshr ((G3) (t4) 8) (y3)) (1)) ∧ ((((xand (xshr ((G3) (t4) 8) (y3)) (1)) = (0)) → (∃ t5 : Nat, (G3) (18) 5 = (t5 : Int) ∧ xob 9 t5 ∧ (xPT (xup (G3) (t5) 8 (xior ((G3) (t5) 8) (xshl (1) (y3)))) → Q (xup (G3) (t5) 8 (xior ((G3) (t5) 8) (xshl (1) (y3))))))) ∧ (¬ ((xand (xshr ((G3) (t4) 8) (y3)) (1)) = (0)) → (∃ (j6 : Nat), j6 < d ∧ xMV X j6 31 [.ref (18), vi (3), vi ((G1) (18) 9)] (G3) (fun (G6 : XF) => (xPT (G6) → Q (G6))))))))) ∧ (¬ (((G3) (18) 1) = (0)) → (xPT (G3) → Q (G3)))))))))) : xMV X d 44 [.ref (18)] F Q := by
  show xW X d 44 0 [.ref (18), xU0, xU0] [] F (xqv Q)
  exact s44_0 hPT  t

theorem s45_0 {X : List Int32} {d : Nat} {F : XF} {Q : XF → Prop} {w1 : Value} (hPT : xPT F)  (t : ∃ t1 : Nat, (F) (18) 5 = (t1 : Int) ∧ xob 9 t1 ∧ (inR ((F) (t1) 9) ∧ (((((F) (t1) 9) < (4)) → (∃ (j2 : Nat), j2 < d ∧ xMV X j2 32 [.ref (18)] (F) (fun (G2 : XF) => (∃ t3 : Nat, (G2) (18) 5 = (t3 : Int) ∧ xob 9 t3 ∧ (inR ((G2) (t3) 9) ∧ (((¬ ((G2) (t3) 9) = (0)) → (∃ t4 : Nat, (G2) (18) 5 = (t4 : Int) ∧ xob 9 t4 ∧ (∃ t5 : Nat, (G2) (18) 5 = (t5 : Int) ∧ xob 9 t5 ∧ ((0 ≤ (((G2) (t5) 9) - (1)) ∧ (((G2) (t5) 9) - (1)) < 4) ∧ (∃ t6 : Nat, (G2) (18) 5 = (t6 : Int) ∧ xob 9 t6 ∧ (∃ t7 : Nat, (G2) (18) 5 = (t7 : Int) ∧ xob 9 t7 ∧ (∃ t8 : Nat, (G2) (18) 5 = (t8 : Int) ∧ xob 9 t8 ∧ (∃ (j9 : Nat), j9 < d ∧ xMI X j9 37 [.ref (18), vi (((G2) (t4 + 3) (((G2) (t5) 9) - (1))) + (1)), vi ((G2) (t8) 0)] (G2) (fun (y9 : Int) (G9 : XF) => ((0 ≤ ((G2) (t7) 9) ∧ ((G2) (t7) 9) < 4) ∧ (∃ t10 : Nat, (xup (G9) (t6 + 3) ((G2) (t7) 9) (y9)) (18) 5 = (t10 : Int) ∧ xob 9 t10 ∧ (xPT (xup (xup (G9) (t6 + 3) ((G2) (t7) 9) (y9)) (t10) 9 (((xup (G9) (t6 + 3) ((G2) (t7) 9) (y9)) (t10) 9) + (1))) → Q (xup (xup (G9) (t6 + 3) ((G2) (t7) 9) (y9)) (t10) 9 (((xup (G9) (t6 + 3) ((G2) (t7) 9) (y9)) (t10) 9) + (1))))))))))))))) ∧ (¬ (¬ ((G2) (t3) 9) = (0)) → (∃ t11 : Nat, (G2) (18) 5 = (t11 : Int) ∧ xob 9 t11 ∧ (∃ t12 : Nat, (G2) (18) 5 = (t12 : Int) ∧ xob 9 t12 ∧ (∃ t13 : Nat, (G2) (18) 5 = (t13 : Int) ∧ xob 9 t13 ∧ (∃ (j14 : Nat), j14 < d ∧ xMI X j14 37 [.ref (18), vi (1), vi ((G2) (t13) 0)] (G2) (fun (y14 : Int) (G14 : XF) => ((0 ≤ ((G2) (t12) 9) ∧ ((G2) (t12) 9) < 4) ∧ (∃ t15 : Nat, (xup (G14) (t11 + 3) ((G2) (t12) 9) (y14)) (18) 5 = (t15 : Int) ∧ xob 9 t15 ∧ (xPT (xup (xup (G14) (t11 + 3) ((G2) (t12) 9) (y14)) (t15) 9 (((xup (G14) (t11 + 3) ((G2) (t12) 9) (y14)) (t15) 9) + (1))) → Q (xup (xup (G14) (t11 + 3) ((G2) (t12) 9) (y14)) (t15) 9 (((xup (G14) (t11 + 3) ((G2) (t12) 9) (y14)) (t15) 9) + (1)))))))))))))))))) ∧ (¬ (((F) (t1) 9) < (4)) → (∃ (j16 : Nat), j16 < d ∧ xMV X j16 31 [.ref (18), vi (3), vi ((F) (18) 9)] (F) (fun (G16 : XF) => (xPT (G16) → Q (G16)))))))) : xW X d 45 0 [.ref (18), w1] [] F (xqv Q) := by
  refine xw_aload_n (n := 1) (show xlook 45 0 = some (0, .aload_n 0, 1, 0, 0, 0, 0) from xlk (by decide +kernel)) rfl rfl ?_
  obtain ⟨t1, q1, ht1, t⟩ := t
  refine xw_getr (q := t1) (show xlook 45 1 = some (1, .getfield 22, 3, 5, 5, 0, 46) from xlk (by decide +kernel)) (by decide) (xobf xob_5 (by decide) (by decide)) rfl q1 (by have := ht1.1; omega) (n := 4) rfl ?_
  refine xw_geti (show xlook 45 4 = some (4, .getfield 197, 3, 9, 9, 0, 71) from xlk (by decide +kernel)) (by decide) (xobf ht1 (by decide) (by decide)) rfl (n := 7) rfl ?_
  refine xw_iconst (n := 8) (show xlook 45 7 = some (7, .iconst 4, 1, 0, 0, 0, 0) from xlk (by decide +kernel)) rfl ?_
  obtain ⟨q0, t⟩ := t
  refine xw_icmp_lt (n := 11) (m := 21) (show xlook 45 8 = some (8, .if_icmp .lt 13, 3, 21, 0, 0, 0) from xlk (by decide +kernel)) rfl rfl q0 ⟨by decide, by decide⟩ ⟨fun c => ?_, fun c => ?_⟩
  · replace t := t.1 c
    refine xw_aload_n (n := 22) (show xlook 45 21 = some (21, .aload_n 0, 1, 0, 0, 0, 0) from xlk (by decide +kernel)) rfl rfl ?_
    obtain ⟨j2, hj2, rr2, G2, hm2, hG2, t⟩ := t
    obtain ⟨rfl, t⟩ := t
    refine xw_callv (dk := j2) (o := 18) (as := []) (show xlook 45 22 = some (22, .invokevirtual 53, 3, 32, 1, 0, 30) from xlk (by decide +kernel)) (by decide) hj2 ⟨Nat.le_of_ble_eq_true rfl, Nat.le_of_ble_eq_true rfl, Nat.le_of_ble_eq_true rfl⟩ ⟨xob_5.1, xob_5.2, by decide⟩ rfl hm2 (n := 25) rfl ?_
    show xW X d 45 25 [.ref (18), w1] [] G2 (xqv Q)
    refine xw_aload_n (n := 26) (show xlook 45 25 = some (25, .aload_n 0, 1, 0, 0, 0, 0) from xlk (by decide +kernel)) rfl rfl ?_
    obtain ⟨t3, q1, ht3, t⟩ := t
    refine xw_getr (q := t3) (show xlook 45 26 = some (26, .getfield 22, 3, 5, 5, 0, 46) from xlk (by decide +kernel)) (by decide) (xobf xob_5 (by decide) (by decide)) rfl q1 (by have := ht3.1; omega) (n := 29) rfl ?_
    refine xw_geti (show xlook 45 29 = some (29, .getfield 197, 3, 9, 9, 0, 71) from xlk (by decide +kernel)) (by decide) (xobf ht3 (by decide) (by decide)) rfl (n := 32) rfl ?_
    obtain ⟨q0, t⟩ := t
    refine xw_if_ne (n := 35) (m := 39) (show xlook 45 32 = some (32, .ifCond .ne 7, 3, 39, 0, 0, 0) from xlk (by decide +kernel)) rfl rfl q0 ⟨fun c => ?_, fun c => ?_⟩
    · replace t := t.1 c
      refine xw_aload_n (n := 40) (show xlook 45 39 = some (39, .aload_n 0, 1, 0, 0, 0, 0) from xlk (by decide +kernel)) rfl rfl ?_
      obtain ⟨t4, q1, ht4, t⟩ := t
      refine xw_getr (q := t4) (show xlook 45 40 = some (40, .getfield 22, 3, 5, 5, 0, 46) from xlk (by decide +kernel)) (by decide) (xobf xob_5 (by decide) (by decide)) rfl q1 (by have := ht4.1; omega) (n := 43) rfl ?_
      refine xw_getr (q := t4 + 3) (show xlook 45 43 = some (43, .getfield 200, 3, 9, 10, 0, 72) from xlk (by decide +kernel)) (by decide) (xobf ht4 (by decide) (by decide)) rfl (xPT_get (k := 10) (f := 3) hG2 ht4 (by decide)) (by have := (xtg_9_10 _ ht4.1 ht4.2).1.1; omega) (n := 46) rfl ?_
      refine xw_aload_n (n := 47) (show xlook 45 46 = some (46, .aload_n 0, 1, 0, 0, 0, 0) from xlk (by decide +kernel)) rfl rfl ?_
      obtain ⟨t5, q1, ht5, t⟩ := t
      refine xw_getr (q := t5) (show xlook 45 47 = some (47, .getfield 22, 3, 5, 5, 0, 46) from xlk (by decide +kernel)) (by decide) (xobf xob_5 (by decide) (by decide)) rfl q1 (by have := ht5.1; omega) (n := 50) rfl ?_
      refine xw_geti (show xlook 45 50 = some (50, .getfield 197, 3, 9, 9, 0, 71) from xlk (by decide +kernel)) (by decide) (xobf ht5 (by decide) (by decide)) rfl (n := 53) rfl ?_
      refine xw_iconst (n := 54) (show xlook 45 53 = some (53, .iconst 1, 1, 0, 0, 0, 0) from xlk (by decide +kernel)) rfl ?_
      refine xw_isub (n := 55) (show xlook 45 54 = some (54, .isub, 1, 0, 0, 0, 0) from xlk (by decide +kernel)) rfl ?_
      obtain ⟨q1, t⟩ := t
      refine xw_iald (show xlook 45 55 = some (55, .iaload, 1, 0, 0, 0, 0) from xlk (by decide +kernel)) (xtg_9_10 _ ht4.1 ht4.2).1 (by rw [(xtg_9_10 _ ht4.1 ht4.2).2]; exact q1) (n := 56) rfl ?_
      refine xw_iconst (n := 57) (show xlook 45 56 = some (56, .iconst 1, 1, 0, 0, 0, 0) from xlk (by decide +kernel)) rfl ?_
      refine xw_iadd (n := 58) (show xlook 45 57 = some (57, .iadd, 1, 0, 0, 0, 0) from xlk (by decide +kernel)) rfl ?_
      refine xw_istore_n (n := 59) (show xlook 45 58 = some (58, .istore_n 1, 1, 0, 0, 0, 0) from xlk (by decide +kernel)) rfl (ls' := [.ref (18), vi (((G2) (t4 + 3) (((G2) (t5) 9) - (1))) + (1))]) (Nat.le_of_ble_eq_true rfl) rfl ?_
      refine xw_aload_n (n := 60) (show xlook 45 59 = some (59, .aload_n 0, 1, 0, 0, 0, 0) from xlk (by decide +kernel)) rfl rfl ?_
      obtain ⟨t6, q1, ht6, t⟩ := t
      refine xw_getr (q := t6) (show xlook 45 60 = some (60, .getfield 22, 3, 5, 5, 0, 46) from xlk (by decide +kernel)) (by decide) (xobf xob_5 (by decide) (by decide)) rfl q1 (by have := ht6.1; omega) (n := 63) rfl ?_
      refine xw_getr (q := t6 + 3) (show xlook 45 63 = some (63, .getfield 200, 3, 9, 10, 0, 72) from xlk (by decide +kernel)) (by decide) (xobf ht6 (by decide) (by decide)) rfl (xPT_get (k := 10) (f := 3) hG2 ht6 (by decide)) (by have := (xtg_9_10 _ ht6.1 ht6.2).1.1; omega) (n := 66) rfl ?_
      refine xw_aload_n (n := 67) (show xlook 45 66 = some (66, .aload_n 0, 1, 0, 0, 0, 0) from xlk (by decide +kernel)) rfl rfl ?_
      obtain ⟨t7, q1, ht7, t⟩ := t
      refine xw_getr (q := t7) (show xlook 45 67 = some (67, .getfield 22, 3, 5, 5, 0, 46) from xlk (by decide +kernel)) (by decide) (xobf xob_5 (by decide) (by decide)) rfl q1 (by have := ht7.1; omega) (n := 70) rfl ?_
      refine xw_geti (show xlook 45 70 = some (70, .getfield 197, 3, 9, 9, 0, 71) from xlk (by decide +kernel)) (by decide) (xobf ht7 (by decide) (by decide)) rfl (n := 73) rfl ?_
      refine xw_aload_n (n := 74) (show xlook 45 73 = some (73, .aload_n 0, 1, 0, 0, 0, 0) from xlk (by decide +kernel)) rfl rfl ?_
      refine xw_iload_n (n := 75) (show xlook 45 74 = some (74, .iload_n 1, 1, 0, 0, 0, 0) from xlk (by decide +kernel)) rfl rfl ?_
      refine xw_aload_n (n := 76) (show xlook 45 75 = some (75, .aload_n 0, 1, 0, 0, 0, 0) from xlk (by decide +kernel)) rfl rfl ?_
      obtain ⟨t8, q1, ht8, t⟩ := t
      refine xw_getr (q := t8) (show xlook 45 76 = some (76, .getfield 22, 3, 5, 5, 0, 46) from xlk (by decide +kernel)) (by decide) (xobf xob_5 (by decide) (by decide)) rfl q1 (by have := ht8.1; omega) (n := 79) rfl ?_
      refine xw_geti (show xlook 45 79 = some (79, .getfield 99, 3, 9, 0, 0, 56) from xlk (by decide +kernel)) (by decide) (xobf ht8 (by decide) (by decide)) rfl (n := 82) rfl ?_
      obtain ⟨j9, hj9, rr9, G9, hm9, hG9, t⟩ := t
      obtain ⟨y9, rfl, t⟩ := t
      refine xw_callv (dk := j9) (o := 18) (as := [vi (((G2) (t4 + 3) (((G2) (t5) 9) - (1))) + (1)), vi ((G2) (t8) 0)]) (show xlook 45 82 = some (82, .invokevirtual 119, 3, 37, 3, 0, 41) from xlk (by decide +kernel)) (by decide) hj9 ⟨Nat.le_of_ble_eq_true rfl, Nat.le_of_ble_eq_true rfl, Nat.le_of_ble_eq_true rfl⟩ ⟨xob_5.1, xob_5.2, by decide⟩ rfl hm9 (n := 85) rfl ?_
      show xW X d 45 85 [.ref (18), vi (((G2) (t4 + 3) (((G2) (t5) 9) - (1))) + (1))] [vi (y9), vi ((G2) (t7) 9), .ref (t6 + 3)] G9 (xqv Q)
      obtain ⟨q1, t⟩ := t
      refine xw_iast (show xlook 45 85 = some (85, .iastore, 1, 0, 0, 0, 0) from xlk (by decide +kernel)) (xtg_9_10 _ ht6.1 ht6.2).1 (by rw [(xtg_9_10 _ ht6.1 ht6.2).2]; exact q1) (n := 86) rfl ?_
      refine xw_aload_n (n := 87) (show xlook 45 86 = some (86, .aload_n 0, 1, 0, 0, 0, 0) from xlk (by decide +kernel)) rfl rfl ?_
      obtain ⟨t10, q1, ht10, t⟩ := t
      refine xw_getr (q := t10) (show xlook 45 87 = some (87, .getfield 22, 3, 5, 5, 0, 46) from xlk (by decide +kernel)) (by decide) (xobf xob_5 (by decide) (by decide)) rfl q1 (by have := ht10.1; omega) (n := 90) rfl ?_
      refine xw_dupr (n := 91) (show xlook 45 90 = some (90, .dup, 1, 0, 0, 0, 0) from xlk (by decide +kernel)) rfl ?_
      refine xw_geti (show xlook 45 91 = some (91, .getfield 197, 3, 9, 9, 0, 71) from xlk (by decide +kernel)) (by decide) (xobf ht10 (by decide) (by decide)) rfl (n := 94) rfl ?_
      refine xw_iconst (n := 95) (show xlook 45 94 = some (94, .iconst 1, 1, 0, 0, 0, 0) from xlk (by decide +kernel)) rfl ?_
      refine xw_iadd (n := 96) (show xlook 45 95 = some (95, .iadd, 1, 0, 0, 0, 0) from xlk (by decide +kernel)) rfl ?_
      refine xw_puti (show xlook 45 96 = some (96, .putfield 197, 3, 9, 9, 0, 71) from xlk (by decide +kernel)) (xobf ht10 (by decide) (by decide)) rfl (n := 99) rfl ?_
      exact xw_return (xPT_fld (k := 9) (xPT_arr hG9 (Or.inl (xtg_9_10 _ ht6.1 ht6.2).1.2)) ht10 (by decide) (by decide)) (show xlook 45 99 = some (99, .return_, 1, 0, 0, 0, 0) from xlk (by decide +kernel)) rfl (t (xPT_fld (k := 9) (xPT_arr hG9 (Or.inl (xtg_9_10 _ ht6.1 ht6.2).1.2)) ht10 (by decide) (by decide)))
    · replace t := t.2 c
      refine xw_iconst (n := 36) (show xlook 45 35 = some (35, .iconst 1, 1, 0, 0, 0, 0) from xlk (by decide +kernel)) rfl ?_
      refine xw_goto (m := 58) (show xlook 45 36 = some (36, .goto 22, 3, 58, 0, 0, 0) from xlk (by decide +kernel)) rfl ?_
      refine xw_istore_n (n := 59) (show xlook 45 58 = some (58, .istore_n 1, 1, 0, 0, 0, 0) from xlk (by decide +kernel)) rfl (ls' := [.ref (18), vi (1)]) (Nat.le_of_ble_eq_true rfl) rfl ?_
      refine xw_aload_n (n := 60) (show xlook 45 59 = some (59, .aload_n 0, 1, 0, 0, 0, 0) from xlk (by decide +kernel)) rfl rfl ?_
      obtain ⟨t11, q1, ht11, t⟩ := t
      refine xw_getr (q := t11) (show xlook 45 60 = some (60, .getfield 22, 3, 5, 5, 0, 46) from xlk (by decide +kernel)) (by decide) (xobf xob_5 (by decide) (by decide)) rfl q1 (by have := ht11.1; omega) (n := 63) rfl ?_
      refine xw_getr (q := t11 + 3) (show xlook 45 63 = some (63, .getfield 200, 3, 9, 10, 0, 72) from xlk (by decide +kernel)) (by decide) (xobf ht11 (by decide) (by decide)) rfl (xPT_get (k := 10) (f := 3) hG2 ht11 (by decide)) (by have := (xtg_9_10 _ ht11.1 ht11.2).1.1; omega) (n := 66) rfl ?_
      refine xw_aload_n (n := 67) (show xlook 45 66 = some (66, .aload_n 0, 1, 0, 0, 0, 0) from xlk (by decide +kernel)) rfl rfl ?_
      obtain ⟨t12, q1, ht12, t⟩ := t
      refine xw_getr (q := t12) (show xlook 45 67 = some (67, .getfield 22, 3, 5, 5, 0, 46) from xlk (by decide +kernel)) (by decide) (xobf xob_5 (by decide) (by decide)) rfl q1 (by have := ht12.1; omega) (n := 70) rfl ?_
      refine xw_geti (show xlook 45 70 = some (70, .getfield 197, 3, 9, 9, 0, 71) from xlk (by decide +kernel)) (by decide) (xobf ht12 (by decide) (by decide)) rfl (n := 73) rfl ?_
      refine xw_aload_n (n := 74) (show xlook 45 73 = some (73, .aload_n 0, 1, 0, 0, 0, 0) from xlk (by decide +kernel)) rfl rfl ?_
      refine xw_iload_n (n := 75) (show xlook 45 74 = some (74, .iload_n 1, 1, 0, 0, 0, 0) from xlk (by decide +kernel)) rfl rfl ?_
      refine xw_aload_n (n := 76) (show xlook 45 75 = some (75, .aload_n 0, 1, 0, 0, 0, 0) from xlk (by decide +kernel)) rfl rfl ?_
      obtain ⟨t13, q1, ht13, t⟩ := t
      refine xw_getr (q := t13) (show xlook 45 76 = some (76, .getfield 22, 3, 5, 5, 0, 46) from xlk (by decide +kernel)) (by decide) (xobf xob_5 (by decide) (by decide)) rfl q1 (by have := ht13.1; omega) (n := 79) rfl ?_
      refine xw_geti (show xlook 45 79 = some (79, .getfield 99, 3, 9, 0, 0, 56) from xlk (by decide +kernel)) (by decide) (xobf ht13 (by decide) (by decide)) rfl (n := 82) rfl ?_
      obtain ⟨j14, hj14, rr14, G14, hm14, hG14, t⟩ := t
      obtain ⟨y14, rfl, t⟩ := t
      refine xw_callv (dk := j14) (o := 18) (as := [vi (1), vi ((G2) (t13) 0)]) (show xlook 45 82 = some (82, .invokevirtual 119, 3, 37, 3, 0, 41) from xlk (by decide +kernel)) (by decide) hj14 ⟨Nat.le_of_ble_eq_true rfl, Nat.le_of_ble_eq_true rfl, Nat.le_of_ble_eq_true rfl⟩ ⟨xob_5.1, xob_5.2, by decide⟩ rfl hm14 (n := 85) rfl ?_
      show xW X d 45 85 [.ref (18), vi (1)] [vi (y14), vi ((G2) (t12) 9), .ref (t11 + 3)] G14 (xqv Q)
      obtain ⟨q1, t⟩ := t
      refine xw_iast (show xlook 45 85 = some (85, .iastore, 1, 0, 0, 0, 0) from xlk (by decide +kernel)) (xtg_9_10 _ ht11.1 ht11.2).1 (by rw [(xtg_9_10 _ ht11.1 ht11.2).2]; exact q1) (n := 86) rfl ?_
      refine xw_aload_n (n := 87) (show xlook 45 86 = some (86, .aload_n 0, 1, 0, 0, 0, 0) from xlk (by decide +kernel)) rfl rfl ?_
      obtain ⟨t15, q1, ht15, t⟩ := t
      refine xw_getr (q := t15) (show xlook 45 87 = some (87, .getfield 22, 3, 5, 5, 0, 46) from xlk (by decide +kernel)) (by decide) (xobf xob_5 (by decide) (by decide)) rfl q1 (by have := ht15.1; omega) (n := 90) rfl ?_
      refine xw_dupr (n := 91) (show xlook 45 90 = some (90, .dup, 1, 0, 0, 0, 0) from xlk (by decide +kernel)) rfl ?_
      refine xw_geti (show xlook 45 91 = some (91, .getfield 197, 3, 9, 9, 0, 71) from xlk (by decide +kernel)) (by decide) (xobf ht15 (by decide) (by decide)) rfl (n := 94) rfl ?_
      refine xw_iconst (n := 95) (show xlook 45 94 = some (94, .iconst 1, 1, 0, 0, 0, 0) from xlk (by decide +kernel)) rfl ?_
      refine xw_iadd (n := 96) (show xlook 45 95 = some (95, .iadd, 1, 0, 0, 0, 0) from xlk (by decide +kernel)) rfl ?_
      refine xw_puti (show xlook 45 96 = some (96, .putfield 197, 3, 9, 9, 0, 71) from xlk (by decide +kernel)) (xobf ht15 (by decide) (by decide)) rfl (n := 99) rfl ?_
      exact xw_return (xPT_fld (k := 9) (xPT_arr hG14 (Or.inl (xtg_9_10 _ ht11.1 ht11.2).1.2)) ht15 (by decide) (by decide)) (show xlook 45 99 = some (99, .return_, 1, 0, 0, 0, 0) from xlk (by decide +kernel)) rfl (t (xPT_fld (k := 9) (xPT_arr hG14 (Or.inl (xtg_9_10 _ ht11.1 ht11.2).1.2)) ht15 (by decide) (by decide)))
  · replace t := t.2 c
    refine xw_aload_n (n := 12) (show xlook 45 11 = some (11, .aload_n 0, 1, 0, 0, 0, 0) from xlk (by decide +kernel)) rfl rfl ?_
    refine xw_iconst (n := 13) (show xlook 45 12 = some (12, .iconst 3, 1, 0, 0, 0, 0) from xlk (by decide +kernel)) rfl ?_
    refine xw_aload_n (n := 14) (show xlook 45 13 = some (13, .aload_n 0, 1, 0, 0, 0, 0) from xlk (by decide +kernel)) rfl rfl ?_
    refine xw_geti (show xlook 45 14 = some (14, .getfield 62, 3, 5, 9, 0, 54) from xlk (by decide +kernel)) (by decide) (xobf xob_5 (by decide) (by decide)) rfl (n := 17) rfl ?_
    obtain ⟨j16, hj16, rr16, G16, hm16, hG16, t⟩ := t
    obtain ⟨rfl, t⟩ := t
    refine xw_callv (dk := j16) (o := 18) (as := [vi (3), vi ((F) (18) 9)]) (show xlook 45 17 = some (17, .invokevirtual 89, 3, 31, 3, 0, 37) from xlk (by decide +kernel)) (by decide) hj16 ⟨Nat.le_of_ble_eq_true rfl, Nat.le_of_ble_eq_true rfl, Nat.le_of_ble_eq_true rfl⟩ ⟨xob_5.1, xob_5.2, by decide⟩ rfl hm16 (n := 20) rfl ?_
    show xW X d 45 20 [.ref (18), w1] [] G16 (xqv Q)
    exact xw_return hG16 (show xlook 45 20 = some (20, .return_, 1, 0, 0, 0, 0) from xlk (by decide +kernel)) rfl (t hG16)
theorem m45 {X : List Int32} {d : Nat} {F : XF} {Q : XF → Prop}  (hPT : xPT F)  (t : ∃ t1 : Nat, (F) (18) 5 = (t1 : Int) ∧ xob 9 t1 ∧ (inR ((F) (t1) 9) ∧ (((((F) (t1) 9) < (4)) → (∃ (j2 : Nat), j2 < d ∧ xMV X j2 32 [.ref (18)] (F) (fun (G2 : XF) => (∃ t3 : Nat, (G2) (18) 5 = (t3 : Int) ∧ xob 9 t3 ∧ (inR ((G2) (t3) 9) ∧ (((¬ ((G2) (t3) 9) = (0)) → (∃ t4 : Nat, (G2) (18) 5 = (t4 : Int) ∧ xob 9 t4 ∧ (∃ t5 : Nat, (G2) (18) 5 = (t5 : Int) ∧ xob 9 t5 ∧ ((0 ≤ (((G2) (t5) 9) - (1)) ∧ (((G2) (t5) 9) - (1)) < 4) ∧ (∃ t6 : Nat, (G2) (18) 5 = (t6 : Int) ∧ xob 9 t6 ∧ (∃ t7 : Nat, (G2) (18) 5 = (t7 : Int) ∧ xob 9 t7 ∧ (∃ t8 : Nat, (G2) (18) 5 = (t8 : Int) ∧ xob 9 t8 ∧ (∃ (j9 : Nat), j9 < d ∧ xMI X j9 37 [.ref (18), vi (((G2) (t4 + 3) (((G2) (t5) 9) - (1))) + (1)), vi ((G2) (t8) 0)] (G2) (fun (y9 : Int) (G9 : XF) => ((0 ≤ ((G2) (t7) 9) ∧ ((G2) (t7) 9) < 4) ∧ (∃ t10 : Nat, (xup (G9) (t6 + 3) ((G2) (t7) 9) (y9)) (18) 5 = (t10 : Int) ∧ xob 9 t10 ∧ (xPT (xup (xup (G9) (t6 + 3) ((G2) (t7) 9) (y9)) (t10) 9 (((xup (G9) (t6 + 3) ((G2) (t7) 9) (y9)) (t10) 9) + (1))) → Q (xup (xup (G9) (t6 + 3) ((G2) (t7) 9) (y9)) (t10) 9 (((xup (G9) (t6 + 3) ((G2) (t7) 9) (y9)) (t10) 9) + (1))))))))))))))) ∧ (¬ (¬ ((G2) (t3) 9) = (0)) → (∃ t11 : Nat, (G2) (18) 5 = (t11 : Int) ∧ xob 9 t11 ∧ (∃ t12 : Nat, (G2) (18) 5 = (t12 : Int) ∧ xob 9 t12 ∧ (∃ t13 : Nat, (G2) (18) 5 = (t13 : Int) ∧ xob 9 t13 ∧ (∃ (j14 : Nat), j14 < d ∧ xMI X j14 37 [.ref (18), vi (1), vi ((G2) (t13) 0)] (G2) (fun (y14 : Int) (G14 : XF) => ((0 ≤ ((G2) (t12) 9) ∧ ((G2) (t12) 9) < 4) ∧ (∃ t15 : Nat, (xup (G14) (t11 + 3) ((G2) (t12) 9) (y14)) (18) 5 = (t15 : Int) ∧ xob 9 t15 ∧ (xPT (xup (xup (G14) (t11 + 3) ((G2) (t12) 9) (y14)) (t15) 9 (((xup (G14) (t11 + 3) ((G2) (t12) 9) (y14)) (t15) 9) + (1))) → Q (xup (xup (G14) (t11 + 3) ((G2) (t12) 9) (y14)) (t15) 9 (((xup (G14) (t11 + 3) ((G2) (t12) 9) (y14)) (t15) 9) + (1)))))))))))))))))) ∧ (¬ (((F) (t1) 9) < (4)) → (∃ (j16 : Nat), j16 < d ∧ xMV X j16 31 [.ref (18), vi (3), vi ((F) (18) 9)] (F) (fun (G16 : XF) => (xPT (G16) → Q (G16)))))))) : xMV X d 45 [.ref (18)] F Q := by
  show xW X d 45 0 [.ref (18), xU0] [] F (xqv Q)
  exact s45_0 hPT  t

theorem s46_0 {X : List Int32} {d : Nat} {F : XF} {Q : XF → Prop} {w1 : Value} {w2 : Value} {w3 : Value} (hPT : xPT F)  (t : ∃ t1 : Nat, (F) (18) 5 = (t1 : Int) ∧ xob 9 t1 ∧ (inR ((F) (t1) 11) ∧ (((((F) (t1) 11) < (6)) → (∃ (j2 : Nat), j2 < d ∧ xMV X j2 32 [.ref (18)] (F) (fun (G2 : XF) => (∃ t3 : Nat, (G2) (18) 5 = (t3 : Int) ∧ xob 9 t3 ∧ (∃ (j4 : Nat), j4 < d ∧ xMI X j4 37 [.ref (18), vi (0), vi (((G2) (t3) 6) - (1))] (G2) (fun (y4 : Int) (G4 : XF) => (∃ (j5 : Nat), j5 < d ∧ xMV X j5 36 [.ref (18), .ref (xSB + 2 * 16)] (G4) (fun (G5 : XF) => (∃ (j6 : Nat), j6 < d ∧ xMI X j6 37 [.ref (18), vi (0), vi (1999)] (G5) (fun (y6 : Int) (G6 : XF) => (∃ (j7 : Nat), j7 < d ∧ xMV X j7 36 [.ref (18), .ref (xSB + 2 * 17)] (G6) (fun (G7 : XF) => (∃ (j8 : Nat), j8 < d ∧ xMI X j8 37 [.ref (18), vi (1), vi (500)] (G7) (fun (y8 : Int) (G8 : XF) => (inR ((G8) (18) 1) ∧ (((¬ ((G8) (18) 1) = (0)) → (xPT (G8) → Q (G8))) ∧ (¬ (¬ ((G8) (18) 1) = (0)) → (∃ t9 : Nat, (G8) (18) 5 = (t9 : Int) ∧ xob 9 t9 ∧ (∃ (j10 : Nat), j10 < d ∧ xMV X j10 74 [.ref (t9), vi (y4), vi (y6), vi (y8)] (G8) (fun (G10 : XF) => (xPT (G10) → Q (G10)))))))))))))))))))))) ∧ (¬ (((F) (t1) 11) < (6)) → (∃ (j11 : Nat), j11 < d ∧ xMV X j11 31 [.ref (18), vi (3), vi ((F) (18) 9)] (F) (fun (G11 : XF) => (xPT (G11) → Q (G11)))))))) : xW X d 46 0 [.ref (18), w1, w2, w3] [] F (xqv Q) := by
  refine xw_aload_n (n := 1) (show xlook 46 0 = some (0, .aload_n 0, 1, 0, 0, 0, 0) from xlk (by decide +kernel)) rfl rfl ?_
  obtain ⟨t1, q1, ht1, t⟩ := t
  refine xw_getr (q := t1) (show xlook 46 1 = some (1, .getfield 22, 3, 5, 5, 0, 46) from xlk (by decide +kernel)) (by decide) (xobf xob_5 (by decide) (by decide)) rfl q1 (by have := ht1.1; omega) (n := 4) rfl ?_
  refine xw_geti (show xlook 46 4 = some (4, .getfield 203, 3, 9, 11, 0, 73) from xlk (by decide +kernel)) (by decide) (xobf ht1 (by decide) (by decide)) rfl (n := 7) rfl ?_
  refine xw_bipush (n := 9) (show xlook 46 7 = some (7, .bipush 6, 2, 0, 0, 0, 0) from xlk (by decide +kernel)) rfl (by decide) ?_
  obtain ⟨q0, t⟩ := t
  refine xw_icmp_lt (n := 12) (m := 22) (show xlook 46 9 = some (9, .if_icmp .lt 13, 3, 22, 0, 0, 0) from xlk (by decide +kernel)) rfl rfl q0 ⟨by decide, by decide⟩ ⟨fun c => ?_, fun c => ?_⟩
  · replace t := t.1 c
    refine xw_aload_n (n := 23) (show xlook 46 22 = some (22, .aload_n 0, 1, 0, 0, 0, 0) from xlk (by decide +kernel)) rfl rfl ?_
    obtain ⟨j2, hj2, rr2, G2, hm2, hG2, t⟩ := t
    obtain ⟨rfl, t⟩ := t
    refine xw_callv (dk := j2) (o := 18) (as := []) (show xlook 46 23 = some (23, .invokevirtual 53, 3, 32, 1, 0, 30) from xlk (by decide +kernel)) (by decide) hj2 ⟨Nat.le_of_ble_eq_true rfl, Nat.le_of_ble_eq_true rfl, Nat.le_of_ble_eq_true rfl⟩ ⟨xob_5.1, xob_5.2, by decide⟩ rfl hm2 (n := 26) rfl ?_
    show xW X d 46 26 [.ref (18), w1, w2, w3] [] G2 (xqv Q)
    refine xw_aload_n (n := 27) (show xlook 46 26 = some (26, .aload_n 0, 1, 0, 0, 0, 0) from xlk (by decide +kernel)) rfl rfl ?_
    refine xw_iconst (n := 28) (show xlook 46 27 = some (27, .iconst 0, 1, 0, 0, 0, 0) from xlk (by decide +kernel)) rfl ?_
    refine xw_aload_n (n := 29) (show xlook 46 28 = some (28, .aload_n 0, 1, 0, 0, 0, 0) from xlk (by decide +kernel)) rfl rfl ?_
    obtain ⟨t3, q1, ht3, t⟩ := t
    refine xw_getr (q := t3) (show xlook 46 29 = some (29, .getfield 22, 3, 5, 5, 0, 46) from xlk (by decide +kernel)) (by decide) (xobf xob_5 (by decide) (by decide)) rfl q1 (by have := ht3.1; omega) (n := 32) rfl ?_
    refine xw_geti (show xlook 46 32 = some (32, .getfield 189, 3, 9, 6, 0, 69) from xlk (by decide +kernel)) (by decide) (xobf ht3 (by decide) (by decide)) rfl (n := 35) rfl ?_
    refine xw_iconst (n := 36) (show xlook 46 35 = some (35, .iconst 1, 1, 0, 0, 0, 0) from xlk (by decide +kernel)) rfl ?_
    refine xw_isub (n := 37) (show xlook 46 36 = some (36, .isub, 1, 0, 0, 0, 0) from xlk (by decide +kernel)) rfl ?_
    obtain ⟨j4, hj4, rr4, G4, hm4, hG4, t⟩ := t
    obtain ⟨y4, rfl, t⟩ := t
    refine xw_callv (dk := j4) (o := 18) (as := [vi (0), vi (((G2) (t3) 6) - (1))]) (show xlook 46 37 = some (37, .invokevirtual 119, 3, 37, 3, 0, 41) from xlk (by decide +kernel)) (by decide) hj4 ⟨Nat.le_of_ble_eq_true rfl, Nat.le_of_ble_eq_true rfl, Nat.le_of_ble_eq_true rfl⟩ ⟨xob_5.1, xob_5.2, by decide⟩ rfl hm4 (n := 40) rfl ?_
    show xW X d 46 40 [.ref (18), w1, w2, w3] [vi (y4)] G4 (xqv Q)
    refine xw_istore_n (n := 41) (show xlook 46 40 = some (40, .istore_n 1, 1, 0, 0, 0, 0) from xlk (by decide +kernel)) rfl (ls' := [.ref (18), vi (y4), w2, w3]) (Nat.le_of_ble_eq_true rfl) rfl ?_
    refine xw_aload_n (n := 42) (show xlook 46 41 = some (41, .aload_n 0, 1, 0, 0, 0, 0) from xlk (by decide +kernel)) rfl rfl ?_
    refine xw_ldcs (n := 44) (show xlook 46 42 = some (42, .ldc 206, 2, 16, 1, 0, 0) from xlk (by decide +kernel)) rfl (by decide) ?_
    obtain ⟨j5, hj5, rr5, G5, hm5, hG5, t⟩ := t
    obtain ⟨rfl, t⟩ := t
    refine xw_callv (dk := j5) (o := 18) (as := [.ref (xSB + 2 * 16)]) (show xlook 46 44 = some (44, .invokevirtual 161, 3, 36, 2, 0, 47) from xlk (by decide +kernel)) (by decide) hj5 ⟨Nat.le_of_ble_eq_true rfl, Nat.le_of_ble_eq_true rfl, Nat.le_of_ble_eq_true rfl⟩ ⟨xob_5.1, xob_5.2, by decide⟩ rfl hm5 (n := 47) rfl ?_
    show xW X d 46 47 [.ref (18), vi (y4), w2, w3] [] G5 (xqv Q)
    refine xw_aload_n (n := 48) (show xlook 46 47 = some (47, .aload_n 0, 1, 0, 0, 0, 0) from xlk (by decide +kernel)) rfl rfl ?_
    refine xw_iconst (n := 49) (show xlook 46 48 = some (48, .iconst 0, 1, 0, 0, 0, 0) from xlk (by decide +kernel)) rfl ?_
    refine xw_sipush (n := 52) (show xlook 46 49 = some (49, .sipush 1999, 3, 0, 0, 0, 0) from xlk (by decide +kernel)) rfl (by decide) ?_
    obtain ⟨j6, hj6, rr6, G6, hm6, hG6, t⟩ := t
    obtain ⟨y6, rfl, t⟩ := t
    refine xw_callv (dk := j6) (o := 18) (as := [vi (0), vi (1999)]) (show xlook 46 52 = some (52, .invokevirtual 119, 3, 37, 3, 0, 41) from xlk (by decide +kernel)) (by decide) hj6 ⟨Nat.le_of_ble_eq_true rfl, Nat.le_of_ble_eq_true rfl, Nat.le_of_ble_eq_true rfl⟩ ⟨xob_5.1, xob_5.2, by decide⟩ rfl hm6 (n := 55) rfl ?_
    show xW X d 46 55 [.ref (18), vi (y4), w2, w3] [vi (y6)] G6 (xqv Q)
    refine xw_istore_n (n := 56) (show xlook 46 55 = some (55, .istore_n 2, 1, 0, 0, 0, 0) from xlk (by decide +kernel)) rfl (ls' := [.ref (18), vi (y4), vi (y6), w3]) (Nat.le_of_ble_eq_true rfl) rfl ?_
    refine xw_aload_n (n := 57) (show xlook 46 56 = some (56, .aload_n 0, 1, 0, 0, 0, 0) from xlk (by decide +kernel)) rfl rfl ?_
    refine xw_ldcs (n := 59) (show xlook 46 57 = some (57, .ldc 207, 2, 17, 1, 0, 0) from xlk (by decide +kernel)) rfl (by decide) ?_
    obtain ⟨j7, hj7, rr7, G7, hm7, hG7, t⟩ := t
    obtain ⟨rfl, t⟩ := t
    refine xw_callv (dk := j7) (o := 18) (as := [.ref (xSB + 2 * 17)]) (show xlook 46 59 = some (59, .invokevirtual 161, 3, 36, 2, 0, 47) from xlk (by decide +kernel)) (by decide) hj7 ⟨Nat.le_of_ble_eq_true rfl, Nat.le_of_ble_eq_true rfl, Nat.le_of_ble_eq_true rfl⟩ ⟨xob_5.1, xob_5.2, by decide⟩ rfl hm7 (n := 62) rfl ?_
    show xW X d 46 62 [.ref (18), vi (y4), vi (y6), w3] [] G7 (xqv Q)
    refine xw_aload_n (n := 63) (show xlook 46 62 = some (62, .aload_n 0, 1, 0, 0, 0, 0) from xlk (by decide +kernel)) rfl rfl ?_
    refine xw_iconst (n := 64) (show xlook 46 63 = some (63, .iconst 1, 1, 0, 0, 0, 0) from xlk (by decide +kernel)) rfl ?_
    refine xw_sipush (n := 67) (show xlook 46 64 = some (64, .sipush 500, 3, 0, 0, 0, 0) from xlk (by decide +kernel)) rfl (by decide) ?_
    obtain ⟨j8, hj8, rr8, G8, hm8, hG8, t⟩ := t
    obtain ⟨y8, rfl, t⟩ := t
    refine xw_callv (dk := j8) (o := 18) (as := [vi (1), vi (500)]) (show xlook 46 67 = some (67, .invokevirtual 119, 3, 37, 3, 0, 41) from xlk (by decide +kernel)) (by decide) hj8 ⟨Nat.le_of_ble_eq_true rfl, Nat.le_of_ble_eq_true rfl, Nat.le_of_ble_eq_true rfl⟩ ⟨xob_5.1, xob_5.2, by decide⟩ rfl hm8 (n := 70) rfl ?_
    show xW X d 46 70 [.ref (18), vi (y4), vi (y6), w3] [vi (y8)] G8 (xqv Q)
    refine xw_istore_n (n := 71) (show xlook 46 70 = some (70, .istore_n 3, 1, 0, 0, 0, 0) from xlk (by decide +kernel)) rfl (ls' := [.ref (18), vi (y4), vi (y6), vi (y8)]) (Nat.le_of_ble_eq_true rfl) rfl ?_
    refine xw_aload_n (n := 72) (show xlook 46 71 = some (71, .aload_n 0, 1, 0, 0, 0, 0) from xlk (by decide +kernel)) rfl rfl ?_
    refine xw_geti (show xlook 46 72 = some (72, .getfield 41, 3, 5, 1, 0, 49) from xlk (by decide +kernel)) (by decide) (xobf xob_5 (by decide) (by decide)) rfl (n := 75) rfl ?_
    obtain ⟨q0, t⟩ := t
    refine xw_if_ne (n := 78) (m := 88) (show xlook 46 75 = some (75, .ifCond .ne 13, 3, 88, 0, 0, 0) from xlk (by decide +kernel)) rfl rfl q0 ⟨fun c => ?_, fun c => ?_⟩
    · replace t := t.1 c
      exact xw_return hG8 (show xlook 46 88 = some (88, .return_, 1, 0, 0, 0, 0) from xlk (by decide +kernel)) rfl (t hG8)
    · replace t := t.2 c
      refine xw_aload_n (n := 79) (show xlook 46 78 = some (78, .aload_n 0, 1, 0, 0, 0, 0) from xlk (by decide +kernel)) rfl rfl ?_
      obtain ⟨t9, q1, ht9, t⟩ := t
      refine xw_getr (q := t9) (show xlook 46 79 = some (79, .getfield 22, 3, 5, 5, 0, 46) from xlk (by decide +kernel)) (by decide) (xobf xob_5 (by decide) (by decide)) rfl q1 (by have := ht9.1; omega) (n := 82) rfl ?_
      refine xw_iload_n (n := 83) (show xlook 46 82 = some (82, .iload_n 1, 1, 0, 0, 0, 0) from xlk (by decide +kernel)) rfl rfl ?_
      refine xw_iload_n (n := 84) (show xlook 46 83 = some (83, .iload_n 2, 1, 0, 0, 0, 0) from xlk (by decide +kernel)) rfl rfl ?_
      refine xw_iload_n (n := 85) (show xlook 46 84 = some (84, .iload_n 3, 1, 0, 0, 0, 0) from xlk (by decide +kernel)) rfl rfl ?_
      obtain ⟨j10, hj10, rr10, G10, hm10, hG10, t⟩ := t
      obtain ⟨rfl, t⟩ := t
      refine xw_callv (dk := j10) (o := t9) (as := [vi (y4), vi (y6), vi (y8)]) (show xlook 46 85 = some (85, .invokevirtual 209, 3, 74, 4, 0, 49) from xlk (by decide +kernel)) (by decide) hj10 ⟨Nat.le_of_ble_eq_true rfl, Nat.le_of_ble_eq_true rfl, Nat.le_of_ble_eq_true rfl⟩ ⟨ht9.1, ht9.2, by decide⟩ rfl hm10 (n := 88) rfl ?_
      show xW X d 46 88 [.ref (18), vi (y4), vi (y6), vi (y8)] [] G10 (xqv Q)
      exact xw_return hG10 (show xlook 46 88 = some (88, .return_, 1, 0, 0, 0, 0) from xlk (by decide +kernel)) rfl (t hG10)
  · replace t := t.2 c
    refine xw_aload_n (n := 13) (show xlook 46 12 = some (12, .aload_n 0, 1, 0, 0, 0, 0) from xlk (by decide +kernel)) rfl rfl ?_
    refine xw_iconst (n := 14) (show xlook 46 13 = some (13, .iconst 3, 1, 0, 0, 0, 0) from xlk (by decide +kernel)) rfl ?_
    refine xw_aload_n (n := 15) (show xlook 46 14 = some (14, .aload_n 0, 1, 0, 0, 0, 0) from xlk (by decide +kernel)) rfl rfl ?_
    refine xw_geti (show xlook 46 15 = some (15, .getfield 62, 3, 5, 9, 0, 54) from xlk (by decide +kernel)) (by decide) (xobf xob_5 (by decide) (by decide)) rfl (n := 18) rfl ?_
    obtain ⟨j11, hj11, rr11, G11, hm11, hG11, t⟩ := t
    obtain ⟨rfl, t⟩ := t
    refine xw_callv (dk := j11) (o := 18) (as := [vi (3), vi ((F) (18) 9)]) (show xlook 46 18 = some (18, .invokevirtual 89, 3, 31, 3, 0, 37) from xlk (by decide +kernel)) (by decide) hj11 ⟨Nat.le_of_ble_eq_true rfl, Nat.le_of_ble_eq_true rfl, Nat.le_of_ble_eq_true rfl⟩ ⟨xob_5.1, xob_5.2, by decide⟩ rfl hm11 (n := 21) rfl ?_
    show xW X d 46 21 [.ref (18), w1, w2, w3] [] G11 (xqv Q)
    exact xw_return hG11 (show xlook 46 21 = some (21, .return_, 1, 0, 0, 0, 0) from xlk (by decide +kernel)) rfl (t hG11)
theorem m46 {X : List Int32} {d : Nat} {F : XF} {Q : XF → Prop}  (hPT : xPT F)  (t : ∃ t1 : Nat, (F) (18) 5 = (t1 : Int) ∧ xob 9 t1 ∧ (inR ((F) (t1) 11) ∧ (((((F) (t1) 11) < (6)) → (∃ (j2 : Nat), j2 < d ∧ xMV X j2 32 [.ref (18)] (F) (fun (G2 : XF) => (∃ t3 : Nat, (G2) (18) 5 = (t3 : Int) ∧ xob 9 t3 ∧ (∃ (j4 : Nat), j4 < d ∧ xMI X j4 37 [.ref (18), vi (0), vi (((G2) (t3) 6) - (1))] (G2) (fun (y4 : Int) (G4 : XF) => (∃ (j5 : Nat), j5 < d ∧ xMV X j5 36 [.ref (18), .ref (xSB + 2 * 16)] (G4) (fun (G5 : XF) => (∃ (j6 : Nat), j6 < d ∧ xMI X j6 37 [.ref (18), vi (0), vi (1999)] (G5) (fun (y6 : Int) (G6 : XF) => (∃ (j7 : Nat), j7 < d ∧ xMV X j7 36 [.ref (18), .ref (xSB + 2 * 17)] (G6) (fun (G7 : XF) => (∃ (j8 : Nat), j8 < d ∧ xMI X j8 37 [.ref (18), vi (1), vi (500)] (G7) (fun (y8 : Int) (G8 : XF) => (inR ((G8) (18) 1) ∧ (((¬ ((G8) (18) 1) = (0)) → (xPT (G8) → Q (G8))) ∧ (¬ (¬ ((G8) (18) 1) = (0)) → (∃ t9 : Nat, (G8) (18) 5 = (t9 : Int) ∧ xob 9 t9 ∧ (∃ (j10 : Nat), j10 < d ∧ xMV X j10 74 [.ref (t9), vi (y4), vi (y6), vi (y8)] (G8) (fun (G10 : XF) => (xPT (G10) → Q (G10)))))))))))))))))))))) ∧ (¬ (((F) (t1) 11) < (6)) → (∃ (j11 : Nat), j11 < d ∧ xMV X j11 31 [.ref (18), vi (3), vi ((F) (18) 9)] (F) (fun (G11 : XF) => (xPT (G11) → Q (G11)))))))) : xMV X d 46 [.ref (18)] F Q := by
  show xW X d 46 0 [.ref (18), xU0, xU0, xU0] [] F (xqv Q)
  exact s46_0 hPT  t

theorem s48_0 {X : List Int32} {d : Nat} {F : XF} {Q : XF → Prop} {o0 : Nat} {o1 : Nat} {w2 : Value} {w3 : Value} (hPT : xPT F) (h0 : xob 6 o0) (h1 : xob 9 o1) (t : ∃ (j1 : Nat), j1 < d ∧ xMV X j1 65 [.ref (o0 + 1), .ref (o1)] (xup (F) (o0) 0 (o1)) (fun (G1 : XF) => (xPT (xup (xup (xup (xup (xup (G1) (o0) 2 (0)) (o0) 3 (0)) (o0) 4 (0)) (o0) 5 (0)) (o0 + 13) 0 (0)) → xW X d 48 45 [.ref (o0), .ref (o1), vi (0), vi (0)] [] (xup (xup (xup (xup (xup (G1) (o0) 2 (0)) (o0) 3 (0)) (o0) 4 (0)) (o0) 5 (0)) (o0 + 13) 0 (0)) (xqv Q)))) : xW X d 48 0 [.ref (o0), .ref (o1), w2, w3] [] F (xqv Q) := by
  refine xw_aload_n (n := 1) (show xlook 48 0 = some (0, .aload_n 0, 1, 0, 0, 0, 0) from xlk (by decide +kernel)) rfl rfl ?_
  refine xw_aload_n (n := 2) (show xlook 48 1 = some (1, .aload_n 1, 1, 0, 0, 0, 0) from xlk (by decide +kernel)) rfl rfl ?_
  refine xw_putr (q := o1) (show xlook 48 2 = some (2, .putfield 40, 3, 6, 0, 0, 81) from xlk (by decide +kernel)) (xobf h0 (by decide) (by decide)) rfl (by have := h1.1; omega) (n := 5) rfl ?_
  refine xw_aload_n (n := 6) (show xlook 48 5 = some (5, .aload_n 0, 1, 0, 0, 0, 0) from xlk (by decide +kernel)) rfl rfl ?_
  refine xw_getr (q := o0 + 1) (show xlook 48 6 = some (6, .getfield 12, 3, 6, 1, 0, 74) from xlk (by decide +kernel)) (by decide) (xobf h0 (by decide) (by decide)) rfl (xPT_get (k := 1) (f := 1) (xPT_fld (k := 0) hPT h0 (by decide) (by decide)) h0 (by decide)) (by have := (xtg_6_1 _ h0.1 h0.2).1; omega) (n := 9) rfl ?_
  refine xw_aload_n (n := 10) (show xlook 48 9 = some (9, .aload_n 1, 1, 0, 0, 0, 0) from xlk (by decide +kernel)) rfl rfl ?_
  obtain ⟨j1, hj1, rr1, G1, hm1, hG1, t⟩ := t
  obtain ⟨rfl, t⟩ := t
  refine xw_callv (dk := j1) (o := o0 + 1) (as := [.ref (o1)]) (show xlook 48 10 = some (10, .invokevirtual 54, 3, 65, 2, 0, 54) from xlk (by decide +kernel)) (by decide) hj1 ⟨Nat.le_of_ble_eq_true rfl, Nat.le_of_ble_eq_true rfl, Nat.le_of_ble_eq_true rfl⟩ ⟨(xtg_6_1 _ h0.1 h0.2).1, (xtg_6_1 _ h0.1 h0.2).2, by decide⟩ rfl hm1 (n := 13) rfl ?_
  show xW X d 48 13 [.ref (o0), .ref (o1), w2, w3] [] G1 (xqv Q)
  refine xw_aload_n (n := 14) (show xlook 48 13 = some (13, .aload_n 0, 1, 0, 0, 0, 0) from xlk (by decide +kernel)) rfl rfl ?_
  refine xw_iconst (n := 15) (show xlook 48 14 = some (14, .iconst 0, 1, 0, 0, 0, 0) from xlk (by decide +kernel)) rfl ?_
  refine xw_puti (show xlook 48 15 = some (15, .putfield 58, 3, 6, 2, 0, 83) from xlk (by decide +kernel)) (xobf h0 (by decide) (by decide)) rfl (n := 18) rfl ?_
  refine xw_aload_n (n := 19) (show xlook 48 18 = some (18, .aload_n 0, 1, 0, 0, 0, 0) from xlk (by decide +kernel)) rfl rfl ?_
  refine xw_iconst (n := 20) (show xlook 48 19 = some (19, .iconst 0, 1, 0, 0, 0, 0) from xlk (by decide +kernel)) rfl ?_
  refine xw_puti (show xlook 48 20 = some (20, .putfield 62, 3, 6, 3, 0, 84) from xlk (by decide +kernel)) (xobf h0 (by decide) (by decide)) rfl (n := 23) rfl ?_
  refine xw_aload_n (n := 24) (show xlook 48 23 = some (23, .aload_n 0, 1, 0, 0, 0, 0) from xlk (by decide +kernel)) rfl rfl ?_
  refine xw_iconst (n := 25) (show xlook 48 24 = some (24, .iconst 0, 1, 0, 0, 0, 0) from xlk (by decide +kernel)) rfl ?_
  refine xw_putz (show xlook 48 25 = some (25, .putfield 65, 3, 6, 4, 0, 85) from xlk (by decide +kernel)) (xobf h0 (by decide) (by decide)) rfl (by decide) (n := 28) rfl ?_
  refine xw_aload_n (n := 29) (show xlook 48 28 = some (28, .aload_n 0, 1, 0, 0, 0, 0) from xlk (by decide +kernel)) rfl rfl ?_
  refine xw_iconst (n := 30) (show xlook 48 29 = some (29, .iconst 0, 1, 0, 0, 0, 0) from xlk (by decide +kernel)) rfl ?_
  refine xw_putz (show xlook 48 30 = some (30, .putfield 69, 3, 6, 5, 0, 86) from xlk (by decide +kernel)) (xobf h0 (by decide) (by decide)) rfl (by decide) (n := 33) rfl ?_
  refine xw_aload_n (n := 34) (show xlook 48 33 = some (33, .aload_n 0, 1, 0, 0, 0, 0) from xlk (by decide +kernel)) rfl rfl ?_
  refine xw_getr (q := o0 + 13) (show xlook 48 34 = some (34, .getfield 49, 3, 6, 12, 0, 82) from xlk (by decide +kernel)) (by decide) (xobf h0 (by decide) (by decide)) rfl (xPT_get (k := 12) (f := 13) (xPT_fld (k := 5) (xPT_fld (k := 4) (xPT_fld (k := 3) (xPT_fld (k := 2) hG1 h0 (by decide) (by decide)) h0 (by decide) (by decide)) h0 (by decide) (by decide)) h0 (by decide) (by decide)) h0 (by decide)) (by have := (xtg_6_12 _ h0.1 h0.2).1; omega) (n := 37) rfl ?_
  refine xw_iconst (n := 38) (show xlook 48 37 = some (37, .iconst 0, 1, 0, 0, 0, 0) from xlk (by decide +kernel)) rfl ?_
  refine xw_puti (show xlook 48 38 = some (38, .putfield 72, 3, 2, 0, 0, 87) from xlk (by decide +kernel)) (xobf (xtg_6_12 _ h0.1 h0.2) (by decide) (by decide)) rfl (n := 41) rfl ?_
  refine xw_iconst (n := 42) (show xlook 48 41 = some (41, .iconst 0, 1, 0, 0, 0, 0) from xlk (by decide +kernel)) rfl ?_
  refine xw_istore_n (n := 43) (show xlook 48 42 = some (42, .istore_n 2, 1, 0, 0, 0, 0) from xlk (by decide +kernel)) rfl (ls' := [.ref (o0), .ref (o1), vi (0), w3]) (Nat.le_of_ble_eq_true rfl) rfl ?_
  refine xw_iconst (n := 44) (show xlook 48 43 = some (43, .iconst 0, 1, 0, 0, 0, 0) from xlk (by decide +kernel)) rfl ?_
  refine xw_istore_n (n := 45) (show xlook 48 44 = some (44, .istore_n 3, 1, 0, 0, 0, 0) from xlk (by decide +kernel)) rfl (ls' := [.ref (o0), .ref (o1), vi (0), vi (0)]) (Nat.le_of_ble_eq_true rfl) rfl ?_
  exact t (xPT_fld (k := 0) (xPT_fld (k := 5) (xPT_fld (k := 4) (xPT_fld (k := 3) (xPT_fld (k := 2) hG1 h0 (by decide) (by decide)) h0 (by decide) (by decide)) h0 (by decide) (by decide)) h0 (by decide) (by decide)) (xtg_6_12 _ h0.1 h0.2) (by decide) (by decide))
theorem m48 {X : List Int32} {d : Nat} {F : XF} {Q : XF → Prop} {o0 : Nat} {o1 : Nat} (hPT : xPT F) (h0 : xob 6 o0) (h1 : xob 9 o1) (t : ∃ (j1 : Nat), j1 < d ∧ xMV X j1 65 [.ref (o0 + 1), .ref (o1)] (xup (F) (o0) 0 (o1)) (fun (G1 : XF) => (xPT (xup (xup (xup (xup (xup (G1) (o0) 2 (0)) (o0) 3 (0)) (o0) 4 (0)) (o0) 5 (0)) (o0 + 13) 0 (0)) → xW X d 48 45 [.ref (o0), .ref (o1), vi (0), vi (0)] [] (xup (xup (xup (xup (xup (G1) (o0) 2 (0)) (o0) 3 (0)) (o0) 4 (0)) (o0) 5 (0)) (o0 + 13) 0 (0)) (xqv Q)))) : xMV X d 48 [.ref (o0), .ref (o1)] F Q := by
  show xW X d 48 0 [.ref (o0), .ref (o1), xU0, xU0] [] F (xqv Q)
  exact s48_0 hPT h0 h1 t

theorem s48_45 {X : List Int32} {d : Nat} {F : XF} {Q : XF → Prop} {o0 : Nat} {o1 : Nat} {x2 : Int} {x3 : Int} (hPT : xPT F) (h0 : xob 6 o0) (h1 : xob 9 o1) (t : inR (x3) ∧ inR ((F) (o1) 6) ∧ (((((F) (o1) 6) ≤ (x3)) → (xPT (F) → xW X d 48 103 [.ref (o0), .ref (o1), vi (x2), vi (0)] [] (F) (xqv Q))) ∧ (¬ (((F) (o1) 6) ≤ (x3)) → ((0 ≤ (x3) ∧ (x3) < 30) ∧ ((0 ≤ (x3) ∧ (x3) < 30) ∧ ((0 ≤ (x3) ∧ (x3) < 30) ∧ ((0 ≤ (x3) ∧ (x3) < 30) ∧ ((0 ≤ (x3) ∧ (x3) < 30) ∧ (xPT (xup (xup (xup (xup (F) (o0 + 7) (x3) (x2)) (o0 + 8) (x3) ((-1))) (o0 + 9) (x3) (0)) (o0 + 10) (x3) (0)) → xW X d 48 45 [.ref (o0), .ref (o1), vi ((x2) - (((xup (F) (o0 + 7) (x3) (x2)) (o1 + 2) (x3)) + ((xup (F) (o0 + 7) (x3) (x2)) (o1) 2))), vi (x3 + 1)] [] (xup (xup (xup (xup (F) (o0 + 7) (x3) (x2)) (o0 + 8) (x3) ((-1))) (o0 + 9) (x3) (0)) (o0 + 10) (x3) (0)) (xqv Q)))))))))) : xW X d 48 45 [.ref (o0), .ref (o1), vi (x2), vi (x3)] [] F (xqv Q) := by
  refine xw_iload_n (n := 46) (show xlook 48 45 = some (45, .iload_n 3, 1, 0, 0, 0, 0) from xlk (by decide +kernel)) rfl rfl ?_
  refine xw_aload_n (n := 47) (show xlook 48 46 = some (46, .aload_n 1, 1, 0, 0, 0, 0) from xlk (by decide +kernel)) rfl rfl ?_
  refine xw_geti (show xlook 48 47 = some (47, .getfield 75, 3, 9, 6, 0, 88) from xlk (by decide +kernel)) (by decide) (xobf h1 (by decide) (by decide)) rfl (n := 50) rfl ?_
  obtain ⟨q0, q1, t⟩ := t
  refine xw_icmp_ge (n := 53) (m := 101) (show xlook 48 50 = some (50, .if_icmp .ge 51, 3, 101, 0, 0, 0) from xlk (by decide +kernel)) rfl rfl q0 q1 ⟨fun c => ?_, fun c => ?_⟩
  · replace t := t.1 c
    refine xw_iconst (n := 102) (show xlook 48 101 = some (101, .iconst 0, 1, 0, 0, 0, 0) from xlk (by decide +kernel)) rfl ?_
    refine xw_istore_n (n := 103) (show xlook 48 102 = some (102, .istore_n 3, 1, 0, 0, 0, 0) from xlk (by decide +kernel)) rfl (ls' := [.ref (o0), .ref (o1), vi (x2), vi (0)]) (Nat.le_of_ble_eq_true rfl) rfl ?_
    exact t hPT
  · replace t := t.2 c
    refine xw_aload_n (n := 54) (show xlook 48 53 = some (53, .aload_n 0, 1, 0, 0, 0, 0) from xlk (by decide +kernel)) rfl rfl ?_
    refine xw_getr (q := o0 + 7) (show xlook 48 54 = some (54, .getfield 18, 3, 6, 6, 0, 75) from xlk (by decide +kernel)) (by decide) (xobf h0 (by decide) (by decide)) rfl (xPT_get (k := 6) (f := 7) hPT h0 (by decide)) (by have := (xtg_6_6 _ h0.1 h0.2).1.1; omega) (n := 57) rfl ?_
    refine xw_iload_n (n := 58) (show xlook 48 57 = some (57, .iload_n 3, 1, 0, 0, 0, 0) from xlk (by decide +kernel)) rfl rfl ?_
    refine xw_iload_n (n := 59) (show xlook 48 58 = some (58, .iload_n 2, 1, 0, 0, 0, 0) from xlk (by decide +kernel)) rfl rfl ?_
    obtain ⟨q1, t⟩ := t
    refine xw_iast (show xlook 48 59 = some (59, .iastore, 1, 0, 0, 0, 0) from xlk (by decide +kernel)) (xtg_6_6 _ h0.1 h0.2).1 (by rw [(xtg_6_6 _ h0.1 h0.2).2]; exact q1) (n := 60) rfl ?_
    refine xw_iload_n (n := 61) (show xlook 48 60 = some (60, .iload_n 2, 1, 0, 0, 0, 0) from xlk (by decide +kernel)) rfl rfl ?_
    refine xw_aload_n (n := 62) (show xlook 48 61 = some (61, .aload_n 1, 1, 0, 0, 0, 0) from xlk (by decide +kernel)) rfl rfl ?_
    refine xw_getr (q := o1 + 2) (show xlook 48 62 = some (62, .getfield 80, 3, 9, 7, 0, 89) from xlk (by decide +kernel)) (by decide) (xobf h1 (by decide) (by decide)) rfl (xPT_get (k := 7) (f := 2) (xPT_arr hPT (Or.inl (xtg_6_6 _ h0.1 h0.2).1.2)) h1 (by decide)) (by have := (xtg_9_7 _ h1.1 h1.2).1.1; omega) (n := 65) rfl ?_
    refine xw_iload_n (n := 66) (show xlook 48 65 = some (65, .iload_n 3, 1, 0, 0, 0, 0) from xlk (by decide +kernel)) rfl rfl ?_
    obtain ⟨q1, t⟩ := t
    refine xw_iald (show xlook 48 66 = some (66, .iaload, 1, 0, 0, 0, 0) from xlk (by decide +kernel)) (xtg_9_7 _ h1.1 h1.2).1 (by rw [(xtg_9_7 _ h1.1 h1.2).2]; exact q1) (n := 67) rfl ?_
    refine xw_aload_n (n := 68) (show xlook 48 67 = some (67, .aload_n 1, 1, 0, 0, 0, 0) from xlk (by decide +kernel)) rfl rfl ?_
    refine xw_geti (show xlook 48 68 = some (68, .getfield 83, 3, 9, 2, 0, 90) from xlk (by decide +kernel)) (by decide) (xobf h1 (by decide) (by decide)) rfl (n := 71) rfl ?_
    refine xw_iadd (n := 72) (show xlook 48 71 = some (71, .iadd, 1, 0, 0, 0, 0) from xlk (by decide +kernel)) rfl ?_
    refine xw_isub (n := 73) (show xlook 48 72 = some (72, .isub, 1, 0, 0, 0, 0) from xlk (by decide +kernel)) rfl ?_
    refine xw_istore_n (n := 74) (show xlook 48 73 = some (73, .istore_n 2, 1, 0, 0, 0, 0) from xlk (by decide +kernel)) rfl (ls' := [.ref (o0), .ref (o1), vi ((x2) - (((xup (F) (o0 + 7) (x3) (x2)) (o1 + 2) (x3)) + ((xup (F) (o0 + 7) (x3) (x2)) (o1) 2))), vi (x3)]) (Nat.le_of_ble_eq_true rfl) rfl ?_
    refine xw_aload_n (n := 75) (show xlook 48 74 = some (74, .aload_n 0, 1, 0, 0, 0, 0) from xlk (by decide +kernel)) rfl rfl ?_
    refine xw_getr (q := o0 + 8) (show xlook 48 75 = some (75, .getfield 22, 3, 6, 7, 0, 76) from xlk (by decide +kernel)) (by decide) (xobf h0 (by decide) (by decide)) rfl (xPT_get (k := 7) (f := 8) (xPT_arr hPT (Or.inl (xtg_6_6 _ h0.1 h0.2).1.2)) h0 (by decide)) (by have := (xtg_6_7 _ h0.1 h0.2).1.1; omega) (n := 78) rfl ?_
    refine xw_iload_n (n := 79) (show xlook 48 78 = some (78, .iload_n 3, 1, 0, 0, 0, 0) from xlk (by decide +kernel)) rfl rfl ?_
    refine xw_iconst (n := 80) (show xlook 48 79 = some (79, .iconst (-1), 1, 0, 0, 0, 0) from xlk (by decide +kernel)) rfl ?_
    obtain ⟨q1, t⟩ := t
    refine xw_iast (show xlook 48 80 = some (80, .iastore, 1, 0, 0, 0, 0) from xlk (by decide +kernel)) (xtg_6_7 _ h0.1 h0.2).1 (by rw [(xtg_6_7 _ h0.1 h0.2).2]; exact q1) (n := 81) rfl ?_
    refine xw_aload_n (n := 82) (show xlook 48 81 = some (81, .aload_n 0, 1, 0, 0, 0, 0) from xlk (by decide +kernel)) rfl rfl ?_
    refine xw_getr (q := o0 + 9) (show xlook 48 82 = some (82, .getfield 25, 3, 6, 8, 0, 77) from xlk (by decide +kernel)) (by decide) (xobf h0 (by decide) (by decide)) rfl (xPT_get (k := 8) (f := 9) (xPT_arr (xPT_arr hPT (Or.inl (xtg_6_6 _ h0.1 h0.2).1.2)) (Or.inl (xtg_6_7 _ h0.1 h0.2).1.2)) h0 (by decide)) (by have := (xtg_6_8 _ h0.1 h0.2).1.1; omega) (n := 85) rfl ?_
    refine xw_iload_n (n := 86) (show xlook 48 85 = some (85, .iload_n 3, 1, 0, 0, 0, 0) from xlk (by decide +kernel)) rfl rfl ?_
    refine xw_iconst (n := 87) (show xlook 48 86 = some (86, .iconst 0, 1, 0, 0, 0, 0) from xlk (by decide +kernel)) rfl ?_
    obtain ⟨q1, t⟩ := t
    refine xw_iast (show xlook 48 87 = some (87, .iastore, 1, 0, 0, 0, 0) from xlk (by decide +kernel)) (xtg_6_8 _ h0.1 h0.2).1 (by rw [(xtg_6_8 _ h0.1 h0.2).2]; exact q1) (n := 88) rfl ?_
    refine xw_aload_n (n := 89) (show xlook 48 88 = some (88, .aload_n 0, 1, 0, 0, 0, 0) from xlk (by decide +kernel)) rfl rfl ?_
    refine xw_getr (q := o0 + 10) (show xlook 48 89 = some (89, .getfield 28, 3, 6, 9, 0, 78) from xlk (by decide +kernel)) (by decide) (xobf h0 (by decide) (by decide)) rfl (xPT_get (k := 9) (f := 10) (xPT_arr (xPT_arr (xPT_arr hPT (Or.inl (xtg_6_6 _ h0.1 h0.2).1.2)) (Or.inl (xtg_6_7 _ h0.1 h0.2).1.2)) (Or.inl (xtg_6_8 _ h0.1 h0.2).1.2)) h0 (by decide)) (by have := (xtg_6_9 _ h0.1 h0.2).1.1; omega) (n := 92) rfl ?_
    refine xw_iload_n (n := 93) (show xlook 48 92 = some (92, .iload_n 3, 1, 0, 0, 0, 0) from xlk (by decide +kernel)) rfl rfl ?_
    refine xw_iconst (n := 94) (show xlook 48 93 = some (93, .iconst 0, 1, 0, 0, 0, 0) from xlk (by decide +kernel)) rfl ?_
    obtain ⟨q1, t⟩ := t
    refine xw_iast (show xlook 48 94 = some (94, .iastore, 1, 0, 0, 0, 0) from xlk (by decide +kernel)) (xtg_6_9 _ h0.1 h0.2).1 (by rw [(xtg_6_9 _ h0.1 h0.2).2]; exact q1) (n := 95) rfl ?_
    refine xw_iinc (n := 98) (show xlook 48 95 = some (95, .iinc 3 1, 3, 0, 0, 0, 0) from xlk (by decide +kernel)) rfl (ls' := [.ref (o0), .ref (o1), vi ((x2) - (((xup (F) (o0 + 7) (x3) (x2)) (o1 + 2) (x3)) + ((xup (F) (o0 + 7) (x3) (x2)) (o1) 2))), vi (x3 + 1)]) rfl rfl ?_
    refine xw_goto (m := 45) (show xlook 48 98 = some (98, .goto (-53), 3, 45, 0, 0, 0) from xlk (by decide +kernel)) rfl ?_
    exact t (xPT_arr (xPT_arr (xPT_arr (xPT_arr hPT (Or.inl (xtg_6_6 _ h0.1 h0.2).1.2)) (Or.inl (xtg_6_7 _ h0.1 h0.2).1.2)) (Or.inl (xtg_6_8 _ h0.1 h0.2).1.2)) (Or.inl (xtg_6_9 _ h0.1 h0.2).1.2))

theorem s48_103 {X : List Int32} {d : Nat} {F : XF} {Q : XF → Prop} {o0 : Nat} {o1 : Nat} {x2 : Int} {x3 : Int} (hPT : xPT F) (h0 : xob 6 o0) (h1 : xob 9 o1) (t : inR (x3) ∧ inR ((F) (o1) 4) ∧ (((((F) (o1) 4) ≤ (x3)) → (xPT (F) → Q (F))) ∧ (¬ (((F) (o1) 4) ≤ (x3)) → ((0 ≤ (x3) ∧ (x3) < 10) ∧ ((0 ≤ (x3 : Int) ∧ (x3 : Int) < 10) ∧ (∃ (j2 : Nat), j2 < d ∧ xMV X j2 68 [.ref (o0 + 12 + 6 + (x3 : Int).toNat)] (xup (F) (o0 + 11) (x3) (0)) (fun (G2 : XF) => (xPT (G2) → xW X d 48 103 [.ref (o0), .ref (o1), vi (x2), vi (x3 + 1)] [] (G2) (xqv Q))))))))) : xW X d 48 103 [.ref (o0), .ref (o1), vi (x2), vi (x3)] [] F (xqv Q) := by
  refine xw_iload_n (n := 104) (show xlook 48 103 = some (103, .iload_n 3, 1, 0, 0, 0, 0) from xlk (by decide +kernel)) rfl rfl ?_
  refine xw_aload_n (n := 105) (show xlook 48 104 = some (104, .aload_n 1, 1, 0, 0, 0, 0) from xlk (by decide +kernel)) rfl rfl ?_
  refine xw_geti (show xlook 48 105 = some (105, .getfield 86, 3, 9, 4, 0, 91) from xlk (by decide +kernel)) (by decide) (xobf h1 (by decide) (by decide)) rfl (n := 108) rfl ?_
  obtain ⟨q0, q1, t⟩ := t
  refine xw_icmp_ge (n := 111) (m := 133) (show xlook 48 108 = some (108, .if_icmp .ge 25, 3, 133, 0, 0, 0) from xlk (by decide +kernel)) rfl rfl q0 q1 ⟨fun c => ?_, fun c => ?_⟩
  · replace t := t.1 c
    exact xw_return hPT (show xlook 48 133 = some (133, .return_, 1, 0, 0, 0, 0) from xlk (by decide +kernel)) rfl (t hPT)
  · replace t := t.2 c
    refine xw_aload_n (n := 112) (show xlook 48 111 = some (111, .aload_n 0, 1, 0, 0, 0, 0) from xlk (by decide +kernel)) rfl rfl ?_
    refine xw_getr (q := o0 + 11) (show xlook 48 112 = some (112, .getfield 31, 3, 6, 10, 0, 79) from xlk (by decide +kernel)) (by decide) (xobf h0 (by decide) (by decide)) rfl (xPT_get (k := 10) (f := 11) hPT h0 (by decide)) (by have := (xtg_6_10 _ h0.1 h0.2).1.1; omega) (n := 115) rfl ?_
    refine xw_iload_n (n := 116) (show xlook 48 115 = some (115, .iload_n 3, 1, 0, 0, 0, 0) from xlk (by decide +kernel)) rfl rfl ?_
    refine xw_iconst (n := 117) (show xlook 48 116 = some (116, .iconst 0, 1, 0, 0, 0, 0) from xlk (by decide +kernel)) rfl ?_
    obtain ⟨q1, t⟩ := t
    refine xw_iast (show xlook 48 117 = some (117, .iastore, 1, 0, 0, 0, 0) from xlk (by decide +kernel)) (xtg_6_10 _ h0.1 h0.2).1 (by rw [(xtg_6_10 _ h0.1 h0.2).2]; exact q1) (n := 118) rfl ?_
    refine xw_aload_n (n := 119) (show xlook 48 118 = some (118, .aload_n 0, 1, 0, 0, 0, 0) from xlk (by decide +kernel)) rfl rfl ?_
    refine xw_getr (q := o0 + 12) (show xlook 48 119 = some (119, .getfield 36, 3, 6, 11, 0, 80) from xlk (by decide +kernel)) (by decide) (xobf h0 (by decide) (by decide)) rfl (xPT_get (k := 11) (f := 12) (xPT_arr hPT (Or.inl (xtg_6_10 _ h0.1 h0.2).1.2)) h0 (by decide)) (by have := (xtg_6_11 _ h0.1 h0.2).1.1; omega) (n := 122) rfl ?_
    refine xw_iload_n (n := 123) (show xlook 48 122 = some (122, .iload_n 3, 1, 0, 0, 0, 0) from xlk (by decide +kernel)) rfl rfl ?_
    obtain ⟨q1, t⟩ := t
    have hb1 : xob 8 (o0 + 12 + 6 + (x3 : Int).toNat) := xel16 _ (xtg_6_11 _ h0.1 h0.2).1.1 (xtg_6_11 _ h0.1 h0.2).1.2 _ (xidx10 q1)
    refine xw_aald (q := o0 + 12 + 6 + (x3 : Int).toNat) (show xlook 48 123 = some (123, .aaload, 1, 0, 0, 0, 0) from xlk (by decide +kernel)) ⟨(xtg_6_11 _ h0.1 h0.2).1.1, (Or.inr (xtg_6_11 _ h0.1 h0.2).1.2)⟩ (by rw [xln15 _ (xtg_6_11 _ h0.1 h0.2).1.1 (Or.inr (xtg_6_11 _ h0.1 h0.2).1.2)]; exact q1) (xPT_el (xPT_arr hPT (Or.inl (xtg_6_10 _ h0.1 h0.2).1.2)) (Or.inr (xtg_6_11 _ h0.1 h0.2).1) q1.1 q1.2) (by have := hb1.1; omega) (n := 124) rfl ?_
    obtain ⟨j2, hj2, rr2, G2, hm2, hG2, t⟩ := t
    obtain ⟨rfl, t⟩ := t
    refine xw_callv (dk := j2) (o := o0 + 12 + 6 + (x3 : Int).toNat) (as := []) (show xlook 48 124 = some (124, .invokevirtual 89, 3, 68, 1, 0, 55) from xlk (by decide +kernel)) (by decide) hj2 ⟨Nat.le_of_ble_eq_true rfl, Nat.le_of_ble_eq_true rfl, Nat.le_of_ble_eq_true rfl⟩ ⟨hb1.1, hb1.2, by decide⟩ rfl hm2 (n := 127) rfl ?_
    show xW X d 48 127 [.ref (o0), .ref (o1), vi (x2), vi (x3)] [] G2 (xqv Q)
    refine xw_iinc (n := 130) (show xlook 48 127 = some (127, .iinc 3 1, 3, 0, 0, 0, 0) from xlk (by decide +kernel)) rfl (ls' := [.ref (o0), .ref (o1), vi (x2), vi (x3 + 1)]) rfl rfl ?_
    refine xw_goto (m := 103) (show xlook 48 130 = some (130, .goto (-27), 3, 103, 0, 0, 0) from xlk (by decide +kernel)) rfl ?_
    exact t hG2

theorem s49_0 {X : List Int32} {d : Nat} {F : XF} {Q : Int → XF → Prop} {o0 : Nat} {x1 : Int} (hPT : xPT F) (h0 : xob 6 o0) (t : (0 ≤ (x1) ∧ (x1) < 30) ∧ (∃ t1 : Nat, (F) (o0) 0 = (t1 : Int) ∧ xob 9 t1 ∧ ((0 ≤ (x1) ∧ (x1) < 30) ∧ (xPT (F) → Q (((F) (o0 + 7) (x1)) - ((F) (t1 + 2) (x1))) (F))))) : xW X d 49 0 [.ref (o0), vi (x1)] [] F (xqi Q) := by
  refine xw_aload_n (n := 1) (show xlook 49 0 = some (0, .aload_n 0, 1, 0, 0, 0, 0) from xlk (by decide +kernel)) rfl rfl ?_
  refine xw_getr (q := o0 + 7) (show xlook 49 1 = some (1, .getfield 18, 3, 6, 6, 0, 75) from xlk (by decide +kernel)) (by decide) (xobf h0 (by decide) (by decide)) rfl (xPT_get (k := 6) (f := 7) hPT h0 (by decide)) (by have := (xtg_6_6 _ h0.1 h0.2).1.1; omega) (n := 4) rfl ?_
  refine xw_iload_n (n := 5) (show xlook 49 4 = some (4, .iload_n 1, 1, 0, 0, 0, 0) from xlk (by decide +kernel)) rfl rfl ?_
  obtain ⟨q1, t⟩ := t
  refine xw_iald (show xlook 49 5 = some (5, .iaload, 1, 0, 0, 0, 0) from xlk (by decide +kernel)) (xtg_6_6 _ h0.1 h0.2).1 (by rw [(xtg_6_6 _ h0.1 h0.2).2]; exact q1) (n := 6) rfl ?_
  refine xw_aload_n (n := 7) (show xlook 49 6 = some (6, .aload_n 0, 1, 0, 0, 0, 0) from xlk (by decide +kernel)) rfl rfl ?_
  obtain ⟨t1, q1, ht1, t⟩ := t
  refine xw_getr (q := t1) (show xlook 49 7 = some (7, .getfield 40, 3, 6, 0, 0, 81) from xlk (by decide +kernel)) (by decide) (xobf h0 (by decide) (by decide)) rfl q1 (by have := ht1.1; omega) (n := 10) rfl ?_
  refine xw_getr (q := t1 + 2) (show xlook 49 10 = some (10, .getfield 80, 3, 9, 7, 0, 89) from xlk (by decide +kernel)) (by decide) (xobf ht1 (by decide) (by decide)) rfl (xPT_get (k := 7) (f := 2) hPT ht1 (by decide)) (by have := (xtg_9_7 _ ht1.1 ht1.2).1.1; omega) (n := 13) rfl ?_
  refine xw_iload_n (n := 14) (show xlook 49 13 = some (13, .iload_n 1, 1, 0, 0, 0, 0) from xlk (by decide +kernel)) rfl rfl ?_
  obtain ⟨q1, t⟩ := t
  refine xw_iald (show xlook 49 14 = some (14, .iaload, 1, 0, 0, 0, 0) from xlk (by decide +kernel)) (xtg_9_7 _ ht1.1 ht1.2).1 (by rw [(xtg_9_7 _ ht1.1 ht1.2).2]; exact q1) (n := 15) rfl ?_
  refine xw_isub (n := 16) (show xlook 49 15 = some (15, .isub, 1, 0, 0, 0, 0) from xlk (by decide +kernel)) rfl ?_
  exact xw_ireturn hPT (show xlook 49 16 = some (16, .ireturn, 1, 0, 0, 0, 0) from xlk (by decide +kernel)) rfl (t hPT)
theorem m49 {X : List Int32} {d : Nat} {F : XF} {Q : Int → XF → Prop} {o0 : Nat} {x1 : Int} (hPT : xPT F) (h0 : xob 6 o0) (t : (0 ≤ (x1) ∧ (x1) < 30) ∧ (∃ t1 : Nat, (F) (o0) 0 = (t1 : Int) ∧ xob 9 t1 ∧ ((0 ≤ (x1) ∧ (x1) < 30) ∧ (xPT (F) → Q (((F) (o0 + 7) (x1)) - ((F) (t1 + 2) (x1))) (F))))) : xMI X d 49 [.ref (o0), vi (x1)] F Q := by
  show xW X d 49 0 [.ref (o0), vi (x1)] [] F (xqi Q)
  exact s49_0 hPT h0 t

theorem s50_0 {X : List Int32} {d : Nat} {F : XF} {Q : Int → XF → Prop} {o0 : Nat} {x1 : Int} (hPT : xPT F) (h0 : xob 6 o0) (t : (0 ≤ (x1) ∧ (x1) < 10) ∧ (inR ((F) (o0 + 11) (x1)) ∧ (((((F) (o0 + 11) (x1)) ≤ (0)) → (xPT (F) → Q (0) (F))) ∧ (¬ (((F) (o0 + 11) (x1)) ≤ (0)) → (xPT (F) → Q (1) (F)))))) : xW X d 50 0 [.ref (o0), vi (x1)] [] F (xqi Q) := by
  refine xw_aload_n (n := 1) (show xlook 50 0 = some (0, .aload_n 0, 1, 0, 0, 0, 0) from xlk (by decide +kernel)) rfl rfl ?_
  refine xw_getr (q := o0 + 11) (show xlook 50 1 = some (1, .getfield 31, 3, 6, 10, 0, 79) from xlk (by decide +kernel)) (by decide) (xobf h0 (by decide) (by decide)) rfl (xPT_get (k := 10) (f := 11) hPT h0 (by decide)) (by have := (xtg_6_10 _ h0.1 h0.2).1.1; omega) (n := 4) rfl ?_
  refine xw_iload_n (n := 5) (show xlook 50 4 = some (4, .iload_n 1, 1, 0, 0, 0, 0) from xlk (by decide +kernel)) rfl rfl ?_
  obtain ⟨q1, t⟩ := t
  refine xw_iald (show xlook 50 5 = some (5, .iaload, 1, 0, 0, 0, 0) from xlk (by decide +kernel)) (xtg_6_10 _ h0.1 h0.2).1 (by rw [(xtg_6_10 _ h0.1 h0.2).2]; exact q1) (n := 6) rfl ?_
  obtain ⟨q0, t⟩ := t
  refine xw_if_le (n := 9) (m := 13) (show xlook 50 6 = some (6, .ifCond .le 7, 3, 13, 0, 0, 0) from xlk (by decide +kernel)) rfl rfl q0 ⟨fun c => ?_, fun c => ?_⟩
  · replace t := t.1 c
    refine xw_iconst (n := 14) (show xlook 50 13 = some (13, .iconst 0, 1, 0, 0, 0, 0) from xlk (by decide +kernel)) rfl ?_
    exact xw_zreturn hPT (show xlook 50 14 = some (14, .ireturn, 1, 0, 0, 0, 0) from xlk (by decide +kernel)) rfl (by decide) (t hPT)
  · replace t := t.2 c
    refine xw_iconst (n := 10) (show xlook 50 9 = some (9, .iconst 1, 1, 0, 0, 0, 0) from xlk (by decide +kernel)) rfl ?_
    refine xw_goto (m := 14) (show xlook 50 10 = some (10, .goto 4, 3, 14, 0, 0, 0) from xlk (by decide +kernel)) rfl ?_
    exact xw_zreturn hPT (show xlook 50 14 = some (14, .ireturn, 1, 0, 0, 0, 0) from xlk (by decide +kernel)) rfl (by decide) (t hPT)
theorem m50 {X : List Int32} {d : Nat} {F : XF} {Q : Int → XF → Prop} {o0 : Nat} {x1 : Int} (hPT : xPT F) (h0 : xob 6 o0) (t : (0 ≤ (x1) ∧ (x1) < 10) ∧ (inR ((F) (o0 + 11) (x1)) ∧ (((((F) (o0 + 11) (x1)) ≤ (0)) → (xPT (F) → Q (0) (F))) ∧ (¬ (((F) (o0 + 11) (x1)) ≤ (0)) → (xPT (F) → Q (1) (F)))))) : xMI X d 50 [.ref (o0), vi (x1)] F Q := by
  show xW X d 50 0 [.ref (o0), vi (x1)] [] F (xqi Q)
  exact s50_0 hPT h0 t

theorem s51_0 {X : List Int32} {d : Nat} {F : XF} {Q : Int → XF → Prop} {o0 : Nat} {x1 : Int} {w2 : Value} {w3 : Value} {w4 : Value} (hPT : xPT F) (h0 : xob 6 o0) (t : ∃ t1 : Nat, (F) (o0) 0 = (t1 : Int) ∧ xob 9 t1 ∧ ((0 ≤ (x1 : Int) ∧ (x1 : Int) < 10) ∧ (xPT (F) → xW X d 51 12 [.ref (o0), vi (x1), .ref (t1 + 1 + 6 + (x1 : Int).toNat), vi (0), w4] [] (F) (xqi Q)))) : xW X d 51 0 [.ref (o0), vi (x1), w2, w3, w4] [] F (xqi Q) := by
  refine xw_aload_n (n := 1) (show xlook 51 0 = some (0, .aload_n 0, 1, 0, 0, 0, 0) from xlk (by decide +kernel)) rfl rfl ?_
  obtain ⟨t1, q1, ht1, t⟩ := t
  refine xw_getr (q := t1) (show xlook 51 1 = some (1, .getfield 40, 3, 6, 0, 0, 81) from xlk (by decide +kernel)) (by decide) (xobf h0 (by decide) (by decide)) rfl q1 (by have := ht1.1; omega) (n := 4) rfl ?_
  refine xw_getr (q := t1 + 1) (show xlook 51 4 = some (4, .getfield 92, 3, 9, 5, 0, 92) from xlk (by decide +kernel)) (by decide) (xobf ht1 (by decide) (by decide)) rfl (xPT_get (k := 5) (f := 1) hPT ht1 (by decide)) (by have := (xtg_9_5 _ ht1.1 ht1.2).1.1; omega) (n := 7) rfl ?_
  refine xw_iload_n (n := 8) (show xlook 51 7 = some (7, .iload_n 1, 1, 0, 0, 0, 0) from xlk (by decide +kernel)) rfl rfl ?_
  obtain ⟨q1, t⟩ := t
  have hb2 : xob 1 (t1 + 1 + 6 + (x1 : Int).toNat) := xel15 _ (xtg_9_5 _ ht1.1 ht1.2).1.1 (xtg_9_5 _ ht1.1 ht1.2).1.2 _ (xidx10 q1)
  refine xw_aald (q := t1 + 1 + 6 + (x1 : Int).toNat) (show xlook 51 8 = some (8, .aaload, 1, 0, 0, 0, 0) from xlk (by decide +kernel)) ⟨(xtg_9_5 _ ht1.1 ht1.2).1.1, (Or.inl (xtg_9_5 _ ht1.1 ht1.2).1.2)⟩ (by rw [xln15 _ (xtg_9_5 _ ht1.1 ht1.2).1.1 (Or.inl (xtg_9_5 _ ht1.1 ht1.2).1.2)]; exact q1) (xPT_el hPT (Or.inl (xtg_9_5 _ ht1.1 ht1.2).1) q1.1 q1.2) (by have := hb2.1; omega) (n := 9) rfl ?_
  refine xw_astore_n (n := 10) (show xlook 51 9 = some (9, .astore_n 2, 1, 0, 0, 0, 0) from xlk (by decide +kernel)) rfl (ls' := [.ref (o0), vi (x1), .ref (t1 + 1 + 6 + (x1 : Int).toNat), w3, w4]) (Nat.le_of_ble_eq_true rfl) rfl ?_
  refine xw_iconst (n := 11) (show xlook 51 10 = some (10, .iconst 0, 1, 0, 0, 0, 0) from xlk (by decide +kernel)) rfl ?_
  refine xw_istore_n (n := 12) (show xlook 51 11 = some (11, .istore_n 3, 1, 0, 0, 0, 0) from xlk (by decide +kernel)) rfl (ls' := [.ref (o0), vi (x1), .ref (t1 + 1 + 6 + (x1 : Int).toNat), vi (0), w4]) (Nat.le_of_ble_eq_true rfl) rfl ?_
  exact t hPT
theorem m51 {X : List Int32} {d : Nat} {F : XF} {Q : Int → XF → Prop} {o0 : Nat} {x1 : Int} (hPT : xPT F) (h0 : xob 6 o0) (t : ∃ t1 : Nat, (F) (o0) 0 = (t1 : Int) ∧ xob 9 t1 ∧ ((0 ≤ (x1 : Int) ∧ (x1 : Int) < 10) ∧ (xPT (F) → xW X d 51 12 [.ref (o0), vi (x1), .ref (t1 + 1 + 6 + (x1 : Int).toNat), vi (0), xU0] [] (F) (xqi Q)))) : xMI X d 51 [.ref (o0), vi (x1)] F Q := by
  show xW X d 51 0 [.ref (o0), vi (x1), xU0, xU0, xU0] [] F (xqi Q)
  exact s51_0 hPT h0 t

theorem s51_12 {X : List Int32} {d : Nat} {F : XF} {Q : Int → XF → Prop} {o0 : Nat} {x1 : Int} {o2 : Nat} {x3 : Int} {w4 : Value} (hPT : xPT F) (h0 : xob 6 o0) (h2 : xob 1 o2) (t : inR (x3) ∧ inR ((F) (o0 + 1) 0) ∧ (((((F) (o0 + 1) 0) ≤ (x3)) → (xPT (F) → Q ((-1)) (F))) ∧ (¬ (((F) (o0 + 1) 0) ≤ (x3)) → ((0 ≤ (x3) ∧ (x3) < 30) ∧ ((0 ≤ ((F) (o0 + 1 + 1) (x3)) ∧ ((F) (o0 + 1 + 1) (x3)) < 30) ∧ (inR ((F) (o0 + 7) ((F) (o0 + 1 + 1) (x3))) ∧ inR ((F) (o2) 0) ∧ (((((F) (o0 + 7) ((F) (o0 + 1 + 1) (x3))) ≤ ((F) (o2) 0)) → (xPT (F) → xW X d 51 12 [.ref (o0), vi (x1), .ref (o2), vi (x3 + 1), vi (0)] [] (F) (xqi Q))) ∧ (¬ (((F) (o0 + 7) ((F) (o0 + 1 + 1) (x3))) ≤ ((F) (o2) 0)) → ((0 ≤ (x3) ∧ (x3) < 30) ∧ (∃ (j1 : Nat), j1 < d ∧ xMI X j1 49 [.ref (o0), vi ((F) (o0 + 1 + 2) (x3))] (F) (fun (y1 : Int) (G1 : XF) => (inR (y1) ∧ inR ((G1) (o2) 1) ∧ (((((G1) (o2) 1) ≤ (y1)) → (xPT (G1) → xW X d 51 12 [.ref (o0), vi (x1), .ref (o2), vi (x3 + 1), vi (1)] [] (G1) (xqi Q))) ∧ (¬ (((G1) (o2) 1) ≤ (y1)) → (xPT (G1) → Q (x3) (G1)))))))))))))))) : xW X d 51 12 [.ref (o0), vi (x1), .ref (o2), vi (x3), w4] [] F (xqi Q) := by
  refine xw_iload_n (n := 13) (show xlook 51 12 = some (12, .iload_n 3, 1, 0, 0, 0, 0) from xlk (by decide +kernel)) rfl rfl ?_
  refine xw_aload_n (n := 14) (show xlook 51 13 = some (13, .aload_n 0, 1, 0, 0, 0, 0) from xlk (by decide +kernel)) rfl rfl ?_
  refine xw_getr (q := o0 + 1) (show xlook 51 14 = some (14, .getfield 12, 3, 6, 1, 0, 74) from xlk (by decide +kernel)) (by decide) (xobf h0 (by decide) (by decide)) rfl (xPT_get (k := 1) (f := 1) hPT h0 (by decide)) (by have := (xtg_6_1 _ h0.1 h0.2).1; omega) (n := 17) rfl ?_
  refine xw_geti (show xlook 51 17 = some (17, .getfield 96, 3, 7, 0, 0, 93) from xlk (by decide +kernel)) (by decide) (xobf (xtg_6_1 _ h0.1 h0.2) (by decide) (by decide)) rfl (n := 20) rfl ?_
  obtain ⟨q0, q1, t⟩ := t
  refine xw_icmp_ge (n := 23) (m := 84) (show xlook 51 20 = some (20, .if_icmp .ge 64, 3, 84, 0, 0, 0) from xlk (by decide +kernel)) rfl rfl q0 q1 ⟨fun c => ?_, fun c => ?_⟩
  · replace t := t.1 c
    refine xw_iconst (n := 85) (show xlook 51 84 = some (84, .iconst (-1), 1, 0, 0, 0, 0) from xlk (by decide +kernel)) rfl ?_
    exact xw_ireturn hPT (show xlook 51 85 = some (85, .ireturn, 1, 0, 0, 0, 0) from xlk (by decide +kernel)) rfl (t hPT)
  · replace t := t.2 c
    refine xw_aload_n (n := 24) (show xlook 51 23 = some (23, .aload_n 0, 1, 0, 0, 0, 0) from xlk (by decide +kernel)) rfl rfl ?_
    refine xw_getr (q := o0 + 7) (show xlook 51 24 = some (24, .getfield 18, 3, 6, 6, 0, 75) from xlk (by decide +kernel)) (by decide) (xobf h0 (by decide) (by decide)) rfl (xPT_get (k := 6) (f := 7) hPT h0 (by decide)) (by have := (xtg_6_6 _ h0.1 h0.2).1.1; omega) (n := 27) rfl ?_
    refine xw_aload_n (n := 28) (show xlook 51 27 = some (27, .aload_n 0, 1, 0, 0, 0, 0) from xlk (by decide +kernel)) rfl rfl ?_
    refine xw_getr (q := o0 + 1) (show xlook 51 28 = some (28, .getfield 12, 3, 6, 1, 0, 74) from xlk (by decide +kernel)) (by decide) (xobf h0 (by decide) (by decide)) rfl (xPT_get (k := 1) (f := 1) hPT h0 (by decide)) (by have := (xtg_6_1 _ h0.1 h0.2).1; omega) (n := 31) rfl ?_
    refine xw_getr (q := o0 + 1 + 1) (show xlook 51 31 = some (31, .getfield 97, 3, 7, 1, 0, 94) from xlk (by decide +kernel)) (by decide) (xobf (xtg_6_1 _ h0.1 h0.2) (by decide) (by decide)) rfl (xPT_get (k := 1) (f := 1) hPT (xtg_6_1 _ h0.1 h0.2) (by decide)) (by have := (xtg_7_1 _ (xtg_6_1 _ h0.1 h0.2).1 (xtg_6_1 _ h0.1 h0.2).2).1.1; omega) (n := 34) rfl ?_
    refine xw_iload_n (n := 35) (show xlook 51 34 = some (34, .iload_n 3, 1, 0, 0, 0, 0) from xlk (by decide +kernel)) rfl rfl ?_
    obtain ⟨q1, t⟩ := t
    refine xw_iald (show xlook 51 35 = some (35, .iaload, 1, 0, 0, 0, 0) from xlk (by decide +kernel)) (xtg_7_1 _ (xtg_6_1 _ h0.1 h0.2).1 (xtg_6_1 _ h0.1 h0.2).2).1 (by rw [(xtg_7_1 _ (xtg_6_1 _ h0.1 h0.2).1 (xtg_6_1 _ h0.1 h0.2).2).2]; exact q1) (n := 36) rfl ?_
    obtain ⟨q1, t⟩ := t
    refine xw_iald (show xlook 51 36 = some (36, .iaload, 1, 0, 0, 0, 0) from xlk (by decide +kernel)) (xtg_6_6 _ h0.1 h0.2).1 (by rw [(xtg_6_6 _ h0.1 h0.2).2]; exact q1) (n := 37) rfl ?_
    refine xw_aload_n (n := 38) (show xlook 51 37 = some (37, .aload_n 2, 1, 0, 0, 0, 0) from xlk (by decide +kernel)) rfl rfl ?_
    refine xw_geti (show xlook 51 38 = some (38, .getfield 100, 3, 1, 0, 0, 95) from xlk (by decide +kernel)) (by decide) (xobf h2 (by decide) (by decide)) rfl (n := 41) rfl ?_
    obtain ⟨q0, q1, t⟩ := t
    refine xw_icmp_le (n := 44) (m := 48) (show xlook 51 41 = some (41, .if_icmp .le 7, 3, 48, 0, 0, 0) from xlk (by decide +kernel)) rfl rfl q0 q1 ⟨fun c => ?_, fun c => ?_⟩
    · replace t := t.1 c
      refine xw_iconst (n := 49) (show xlook 51 48 = some (48, .iconst 0, 1, 0, 0, 0, 0) from xlk (by decide +kernel)) rfl ?_
      refine xw_istore (n := 51) (show xlook 51 49 = some (49, .istore 4, 2, 0, 0, 0, 0) from xlk (by decide +kernel)) rfl (ls' := [.ref (o0), vi (x1), .ref (o2), vi (x3), vi (0)]) (Nat.le_of_ble_eq_true rfl) rfl ?_
      refine xw_iload (n := 53) (show xlook 51 51 = some (51, .iload 4, 2, 0, 0, 0, 0) from xlk (by decide +kernel)) rfl rfl ?_
      refine xw_if_eq (n := 56) (m := 78) (show xlook 51 53 = some (53, .ifCond .eq 25, 3, 78, 0, 0, 0) from xlk (by decide +kernel)) rfl rfl ⟨by decide, by decide⟩ ⟨fun _ => ?_, fun c => absurd c (by decide)⟩
      refine xw_iinc (n := 81) (show xlook 51 78 = some (78, .iinc 3 1, 3, 0, 0, 0, 0) from xlk (by decide +kernel)) rfl (ls' := [.ref (o0), vi (x1), .ref (o2), vi (x3 + 1), vi (0)]) rfl rfl ?_
      refine xw_goto (m := 12) (show xlook 51 81 = some (81, .goto (-69), 3, 12, 0, 0, 0) from xlk (by decide +kernel)) rfl ?_
      exact t hPT
    · replace t := t.2 c
      refine xw_iconst (n := 45) (show xlook 51 44 = some (44, .iconst 1, 1, 0, 0, 0, 0) from xlk (by decide +kernel)) rfl ?_
      refine xw_goto (m := 49) (show xlook 51 45 = some (45, .goto 4, 3, 49, 0, 0, 0) from xlk (by decide +kernel)) rfl ?_
      refine xw_istore (n := 51) (show xlook 51 49 = some (49, .istore 4, 2, 0, 0, 0, 0) from xlk (by decide +kernel)) rfl (ls' := [.ref (o0), vi (x1), .ref (o2), vi (x3), vi (1)]) (Nat.le_of_ble_eq_true rfl) rfl ?_
      refine xw_iload (n := 53) (show xlook 51 51 = some (51, .iload 4, 2, 0, 0, 0, 0) from xlk (by decide +kernel)) rfl rfl ?_
      refine xw_if_eq (n := 56) (m := 78) (show xlook 51 53 = some (53, .ifCond .eq 25, 3, 78, 0, 0, 0) from xlk (by decide +kernel)) rfl rfl ⟨by decide, by decide⟩ ⟨fun c => absurd c (by decide), fun _ => ?_⟩
      refine xw_aload_n (n := 57) (show xlook 51 56 = some (56, .aload_n 0, 1, 0, 0, 0, 0) from xlk (by decide +kernel)) rfl rfl ?_
      refine xw_aload_n (n := 58) (show xlook 51 57 = some (57, .aload_n 0, 1, 0, 0, 0, 0) from xlk (by decide +kernel)) rfl rfl ?_
      refine xw_getr (q := o0 + 1) (show xlook 51 58 = some (58, .getfield 12, 3, 6, 1, 0, 74) from xlk (by decide +kernel)) (by decide) (xobf h0 (by decide) (by decide)) rfl (xPT_get (k := 1) (f := 1) hPT h0 (by decide)) (by have := (xtg_6_1 _ h0.1 h0.2).1; omega) (n := 61) rfl ?_
      refine xw_getr (q := o0 + 1 + 2) (show xlook 51 61 = some (61, .getfield 105, 3, 7, 2, 0, 96) from xlk (by decide +kernel)) (by decide) (xobf (xtg_6_1 _ h0.1 h0.2) (by decide) (by decide)) rfl (xPT_get (k := 2) (f := 2) hPT (xtg_6_1 _ h0.1 h0.2) (by decide)) (by have := (xtg_7_2 _ (xtg_6_1 _ h0.1 h0.2).1 (xtg_6_1 _ h0.1 h0.2).2).1.1; omega) (n := 64) rfl ?_
      refine xw_iload_n (n := 65) (show xlook 51 64 = some (64, .iload_n 3, 1, 0, 0, 0, 0) from xlk (by decide +kernel)) rfl rfl ?_
      obtain ⟨q1, t⟩ := t
      refine xw_iald (show xlook 51 65 = some (65, .iaload, 1, 0, 0, 0, 0) from xlk (by decide +kernel)) (xtg_7_2 _ (xtg_6_1 _ h0.1 h0.2).1 (xtg_6_1 _ h0.1 h0.2).2).1 (by rw [(xtg_7_2 _ (xtg_6_1 _ h0.1 h0.2).1 (xtg_6_1 _ h0.1 h0.2).2).2]; exact q1) (n := 66) rfl ?_
      obtain ⟨j1, hj1, rr1, G1, hm1, hG1, t⟩ := t
      obtain ⟨y1, rfl, t⟩ := t
      refine xw_callv (dk := j1) (o := o0) (as := [vi ((F) (o0 + 1 + 2) (x3))]) (show xlook 51 66 = some (66, .invokevirtual 108, 3, 49, 2, 0, 56) from xlk (by decide +kernel)) (by decide) hj1 ⟨Nat.le_of_ble_eq_true rfl, Nat.le_of_ble_eq_true rfl, Nat.le_of_ble_eq_true rfl⟩ ⟨h0.1, h0.2, by decide⟩ rfl hm1 (n := 69) rfl ?_
      show xW X d 51 69 [.ref (o0), vi (x1), .ref (o2), vi (x3), vi (1)] [vi (y1)] G1 (xqi Q)
      refine xw_aload_n (n := 70) (show xlook 51 69 = some (69, .aload_n 2, 1, 0, 0, 0, 0) from xlk (by decide +kernel)) rfl rfl ?_
      refine xw_geti (show xlook 51 70 = some (70, .getfield 112, 3, 1, 1, 0, 97) from xlk (by decide +kernel)) (by decide) (xobf h2 (by decide) (by decide)) rfl (n := 73) rfl ?_
      obtain ⟨q0, q1, t⟩ := t
      refine xw_icmp_ge (n := 76) (m := 78) (show xlook 51 73 = some (73, .if_icmp .ge 5, 3, 78, 0, 0, 0) from xlk (by decide +kernel)) rfl rfl q0 q1 ⟨fun c => ?_, fun c => ?_⟩
      · replace t := t.1 c
        refine xw_iinc (n := 81) (show xlook 51 78 = some (78, .iinc 3 1, 3, 0, 0, 0, 0) from xlk (by decide +kernel)) rfl (ls' := [.ref (o0), vi (x1), .ref (o2), vi (x3 + 1), vi (1)]) rfl rfl ?_
        refine xw_goto (m := 12) (show xlook 51 81 = some (81, .goto (-69), 3, 12, 0, 0, 0) from xlk (by decide +kernel)) rfl ?_
        exact t hG1
      · replace t := t.2 c
        refine xw_iload_n (n := 77) (show xlook 51 76 = some (76, .iload_n 3, 1, 0, 0, 0, 0) from xlk (by decide +kernel)) rfl rfl ?_
        exact xw_ireturn hG1 (show xlook 51 77 = some (77, .ireturn, 1, 0, 0, 0, 0) from xlk (by decide +kernel)) rfl (t hG1)

theorem s52_0 {X : List Int32} {d : Nat} {F : XF} {Q : Int → XF → Prop} {o0 : Nat} {w1 : Value} {w2 : Value} (hPT : xPT F) (h0 : xob 6 o0) (t : xPT (F) → xW X d 52 4 [.ref (o0), vi (0), vi (0)] [] (F) (xqi Q)) : xW X d 52 0 [.ref (o0), w1, w2] [] F (xqi Q) := by
  refine xw_iconst (n := 1) (show xlook 52 0 = some (0, .iconst 0, 1, 0, 0, 0, 0) from xlk (by decide +kernel)) rfl ?_
  refine xw_istore_n (n := 2) (show xlook 52 1 = some (1, .istore_n 1, 1, 0, 0, 0, 0) from xlk (by decide +kernel)) rfl (ls' := [.ref (o0), vi (0), w2]) (Nat.le_of_ble_eq_true rfl) rfl ?_
  refine xw_iconst (n := 3) (show xlook 52 2 = some (2, .iconst 0, 1, 0, 0, 0, 0) from xlk (by decide +kernel)) rfl ?_
  refine xw_istore_n (n := 4) (show xlook 52 3 = some (3, .istore_n 2, 1, 0, 0, 0, 0) from xlk (by decide +kernel)) rfl (ls' := [.ref (o0), vi (0), vi (0)]) (Nat.le_of_ble_eq_true rfl) rfl ?_
  exact t hPT
theorem m52 {X : List Int32} {d : Nat} {F : XF} {Q : Int → XF → Prop} {o0 : Nat} (hPT : xPT F) (h0 : xob 6 o0) (t : xPT (F) → xW X d 52 4 [.ref (o0), vi (0), vi (0)] [] (F) (xqi Q)) : xMI X d 52 [.ref (o0)] F Q := by
  show xW X d 52 0 [.ref (o0), xU0, xU0] [] F (xqi Q)
  exact s52_0 hPT h0 t

theorem s52_4 {X : List Int32} {d : Nat} {F : XF} {Q : Int → XF → Prop} {o0 : Nat} {x1 : Int} {x2 : Int} (hPT : xPT F) (h0 : xob 6 o0) (t : ∃ t1 : Nat, (F) (o0) 0 = (t1 : Int) ∧ xob 9 t1 ∧ (inR (x2) ∧ inR ((F) (t1) 4) ∧ (((((F) (t1) 4) ≤ (x2)) → (xPT (F) → Q (x1) (F))) ∧ (¬ (((F) (t1) 4) ≤ (x2)) → ((0 ≤ (x2 : Int) ∧ (x2 : Int) < 10) ∧ (xPT (F) → xW X d 52 4 [.ref (o0), vi ((x1) + ((F) (o0 + 12 + 6 + (x2 : Int).toNat) 1)), vi (x2 + 1)] [] (F) (xqi Q))))))) : xW X d 52 4 [.ref (o0), vi (x1), vi (x2)] [] F (xqi Q) := by
  refine xw_iload_n (n := 5) (show xlook 52 4 = some (4, .iload_n 2, 1, 0, 0, 0, 0) from xlk (by decide +kernel)) rfl rfl ?_
  refine xw_aload_n (n := 6) (show xlook 52 5 = some (5, .aload_n 0, 1, 0, 0, 0, 0) from xlk (by decide +kernel)) rfl rfl ?_
  obtain ⟨t1, q1, ht1, t⟩ := t
  refine xw_getr (q := t1) (show xlook 52 6 = some (6, .getfield 40, 3, 6, 0, 0, 81) from xlk (by decide +kernel)) (by decide) (xobf h0 (by decide) (by decide)) rfl q1 (by have := ht1.1; omega) (n := 9) rfl ?_
  refine xw_geti (show xlook 52 9 = some (9, .getfield 86, 3, 9, 4, 0, 91) from xlk (by decide +kernel)) (by decide) (xobf ht1 (by decide) (by decide)) rfl (n := 12) rfl ?_
  obtain ⟨q0, q1, t⟩ := t
  refine xw_icmp_ge (n := 15) (m := 33) (show xlook 52 12 = some (12, .if_icmp .ge 21, 3, 33, 0, 0, 0) from xlk (by decide +kernel)) rfl rfl q0 q1 ⟨fun c => ?_, fun c => ?_⟩
  · replace t := t.1 c
    refine xw_iload_n (n := 34) (show xlook 52 33 = some (33, .iload_n 1, 1, 0, 0, 0, 0) from xlk (by decide +kernel)) rfl rfl ?_
    exact xw_ireturn hPT (show xlook 52 34 = some (34, .ireturn, 1, 0, 0, 0, 0) from xlk (by decide +kernel)) rfl (t hPT)
  · replace t := t.2 c
    refine xw_iload_n (n := 16) (show xlook 52 15 = some (15, .iload_n 1, 1, 0, 0, 0, 0) from xlk (by decide +kernel)) rfl rfl ?_
    refine xw_aload_n (n := 17) (show xlook 52 16 = some (16, .aload_n 0, 1, 0, 0, 0, 0) from xlk (by decide +kernel)) rfl rfl ?_
    refine xw_getr (q := o0 + 12) (show xlook 52 17 = some (17, .getfield 36, 3, 6, 11, 0, 80) from xlk (by decide +kernel)) (by decide) (xobf h0 (by decide) (by decide)) rfl (xPT_get (k := 11) (f := 12) hPT h0 (by decide)) (by have := (xtg_6_11 _ h0.1 h0.2).1.1; omega) (n := 20) rfl ?_
    refine xw_iload_n (n := 21) (show xlook 52 20 = some (20, .iload_n 2, 1, 0, 0, 0, 0) from xlk (by decide +kernel)) rfl rfl ?_
    obtain ⟨q1, t⟩ := t
    have hb2 : xob 8 (o0 + 12 + 6 + (x2 : Int).toNat) := xel16 _ (xtg_6_11 _ h0.1 h0.2).1.1 (xtg_6_11 _ h0.1 h0.2).1.2 _ (xidx10 q1)
    refine xw_aald (q := o0 + 12 + 6 + (x2 : Int).toNat) (show xlook 52 21 = some (21, .aaload, 1, 0, 0, 0, 0) from xlk (by decide +kernel)) ⟨(xtg_6_11 _ h0.1 h0.2).1.1, (Or.inr (xtg_6_11 _ h0.1 h0.2).1.2)⟩ (by rw [xln15 _ (xtg_6_11 _ h0.1 h0.2).1.1 (Or.inr (xtg_6_11 _ h0.1 h0.2).1.2)]; exact q1) (xPT_el hPT (Or.inr (xtg_6_11 _ h0.1 h0.2).1) q1.1 q1.2) (by have := hb2.1; omega) (n := 22) rfl ?_
    refine xw_geti (show xlook 52 22 = some (22, .getfield 115, 3, 8, 1, 0, 98) from xlk (by decide +kernel)) (by decide) (xobf hb2 (by decide) (by decide)) rfl (n := 25) rfl ?_
    refine xw_iadd (n := 26) (show xlook 52 25 = some (25, .iadd, 1, 0, 0, 0, 0) from xlk (by decide +kernel)) rfl ?_
    refine xw_istore_n (n := 27) (show xlook 52 26 = some (26, .istore_n 1, 1, 0, 0, 0, 0) from xlk (by decide +kernel)) rfl (ls' := [.ref (o0), vi ((x1) + ((F) (o0 + 12 + 6 + (x2 : Int).toNat) 1)), vi (x2)]) (Nat.le_of_ble_eq_true rfl) rfl ?_
    refine xw_iinc (n := 30) (show xlook 52 27 = some (27, .iinc 2 1, 3, 0, 0, 0, 0) from xlk (by decide +kernel)) rfl (ls' := [.ref (o0), vi ((x1) + ((F) (o0 + 12 + 6 + (x2 : Int).toNat) 1)), vi (x2 + 1)]) rfl rfl ?_
    refine xw_goto (m := 4) (show xlook 52 30 = some (30, .goto (-26), 3, 4, 0, 0, 0) from xlk (by decide +kernel)) rfl ?_
    exact t hPT

theorem s53_0 {X : List Int32} {d : Nat} {F : XF} {Q : XF → Prop} {o0 : Nat} {w1 : Value} (hPT : xPT F) (h0 : xob 6 o0) (t : xPT (F) → xW X d 53 2 [.ref (o0), vi (0)] [] (F) (xqv Q)) : xW X d 53 0 [.ref (o0), w1] [] F (xqv Q) := by
  refine xw_iconst (n := 1) (show xlook 53 0 = some (0, .iconst 0, 1, 0, 0, 0, 0) from xlk (by decide +kernel)) rfl ?_
  refine xw_istore_n (n := 2) (show xlook 53 1 = some (1, .istore_n 1, 1, 0, 0, 0, 0) from xlk (by decide +kernel)) rfl (ls' := [.ref (o0), vi (0)]) (Nat.le_of_ble_eq_true rfl) rfl ?_
  exact t hPT
theorem m53 {X : List Int32} {d : Nat} {F : XF} {Q : XF → Prop} {o0 : Nat} (hPT : xPT F) (h0 : xob 6 o0) (t : xPT (F) → xW X d 53 2 [.ref (o0), vi (0)] [] (F) (xqv Q)) : xMV X d 53 [.ref (o0)] F Q := by
  show xW X d 53 0 [.ref (o0), xU0] [] F (xqv Q)
  exact s53_0 hPT h0 t

theorem s53_2 {X : List Int32} {d : Nat} {F : XF} {Q : XF → Prop} {o0 : Nat} {x1 : Int} (hPT : xPT F) (h0 : xob 6 o0) (t : ∃ t1 : Nat, (F) (o0) 0 = (t1 : Int) ∧ xob 9 t1 ∧ (inR (x1) ∧ inR ((F) (t1) 4) ∧ (((((F) (t1) 4) ≤ (x1)) → (∃ (j2 : Nat), j2 < d ∧ xMV X j2 60 [.ref (o0)] (F) (fun (G2 : XF) => (xPT (xup (G2) (o0) 2 (((G2) (o0) 2) + (1))) → Q (xup (G2) (o0) 2 (((G2) (o0) 2) + (1))))))) ∧ (¬ (((F) (t1) 4) ≤ (x1)) → ((0 ≤ (x1 : Int) ∧ (x1 : Int) < 10) ∧ (∃ t4 : Nat, (F) (o0) 0 = (t4 : Int) ∧ xob 9 t4 ∧ ((0 ≤ (x1 : Int) ∧ (x1 : Int) < 10) ∧ ((0 ≤ (x1) ∧ (x1) < 10) ∧ (inR ((F) (o0 + 11) (x1)) ∧ (((((F) (o0 + 11) (x1)) ≤ (0)) → (∃ (j6 : Nat), j6 < d ∧ xMV X j6 69 [.ref (o0 + 12 + 6 + (x1 : Int).toNat), .ref (t4 + 1 + 6 + (x1 : Int).toNat), vi ((F) (o0) 2), vi (0)] (F) (fun (G6 : XF) => (xPT (G6) → xW X d 53 2 [.ref (o0), vi (x1 + 1)] [] (G6) (xqv Q))))) ∧ (¬ (((F) (o0 + 11) (x1)) ≤ (0)) → (∃ (j7 : Nat), j7 < d ∧ xMV X j7 69 [.ref (o0 + 12 + 6 + (x1 : Int).toNat), .ref (t4 + 1 + 6 + (x1 : Int).toNat), vi ((F) (o0) 2), vi (1)] (F) (fun (G7 : XF) => (xPT (G7) → xW X d 53 2 [.ref (o0), vi (x1 + 1)] [] (G7) (xqv Q))))))))))))))) : xW X d 53 2 [.ref (o0), vi (x1)] [] F (xqv Q) := by
  refine xw_iload_n (n := 3) (show xlook 53 2 = some (2, .iload_n 1, 1, 0, 0, 0, 0) from xlk (by decide +kernel)) rfl rfl ?_
  refine xw_aload_n (n := 4) (show xlook 53 3 = some (3, .aload_n 0, 1, 0, 0, 0, 0) from xlk (by decide +kernel)) rfl rfl ?_
  obtain ⟨t1, q1, ht1, t⟩ := t
  refine xw_getr (q := t1) (show xlook 53 4 = some (4, .getfield 40, 3, 6, 0, 0, 81) from xlk (by decide +kernel)) (by decide) (xobf h0 (by decide) (by decide)) rfl q1 (by have := ht1.1; omega) (n := 7) rfl ?_
  refine xw_geti (show xlook 53 7 = some (7, .getfield 86, 3, 9, 4, 0, 91) from xlk (by decide +kernel)) (by decide) (xobf ht1 (by decide) (by decide)) rfl (n := 10) rfl ?_
  obtain ⟨q0, q1, t⟩ := t
  refine xw_icmp_ge (n := 13) (m := 55) (show xlook 53 10 = some (10, .if_icmp .ge 45, 3, 55, 0, 0, 0) from xlk (by decide +kernel)) rfl rfl q0 q1 ⟨fun c => ?_, fun c => ?_⟩
  · replace t := t.1 c
    refine xw_aload_n (n := 56) (show xlook 53 55 = some (55, .aload_n 0, 1, 0, 0, 0, 0) from xlk (by decide +kernel)) rfl rfl ?_
    obtain ⟨j2, hj2, rr2, G2, hm2, hG2, t⟩ := t
    obtain ⟨rfl, t⟩ := t
    refine xw_callv (dk := j2) (o := o0) (as := []) (show xlook 53 56 = some (56, .invokevirtual 122, 3, 60, 1, 0, 58) from xlk (by decide +kernel)) (by decide) hj2 ⟨Nat.le_of_ble_eq_true rfl, Nat.le_of_ble_eq_true rfl, Nat.le_of_ble_eq_true rfl⟩ ⟨h0.1, h0.2, by decide⟩ rfl hm2 (n := 59) rfl ?_
    show xW X d 53 59 [.ref (o0), vi (x1)] [] G2 (xqv Q)
    refine xw_aload_n (n := 60) (show xlook 53 59 = some (59, .aload_n 0, 1, 0, 0, 0, 0) from xlk (by decide +kernel)) rfl rfl ?_
    refine xw_dupr (n := 61) (show xlook 53 60 = some (60, .dup, 1, 0, 0, 0, 0) from xlk (by decide +kernel)) rfl ?_
    refine xw_geti (show xlook 53 61 = some (61, .getfield 58, 3, 6, 2, 0, 83) from xlk (by decide +kernel)) (by decide) (xobf h0 (by decide) (by decide)) rfl (n := 64) rfl ?_
    refine xw_iconst (n := 65) (show xlook 53 64 = some (64, .iconst 1, 1, 0, 0, 0, 0) from xlk (by decide +kernel)) rfl ?_
    refine xw_iadd (n := 66) (show xlook 53 65 = some (65, .iadd, 1, 0, 0, 0, 0) from xlk (by decide +kernel)) rfl ?_
    refine xw_puti (show xlook 53 66 = some (66, .putfield 58, 3, 6, 2, 0, 83) from xlk (by decide +kernel)) (xobf h0 (by decide) (by decide)) rfl (n := 69) rfl ?_
    exact xw_return (xPT_fld (k := 2) hG2 h0 (by decide) (by decide)) (show xlook 53 69 = some (69, .return_, 1, 0, 0, 0, 0) from xlk (by decide +kernel)) rfl (t (xPT_fld (k := 2) hG2 h0 (by decide) (by decide)))
  · replace t := t.2 c
    refine xw_aload_n (n := 14) (show xlook 53 13 = some (13, .aload_n 0, 1, 0, 0, 0, 0) from xlk (by decide +kernel)) rfl rfl ?_
    refine xw_getr (q := o0 + 12) (show xlook 53 14 = some (14, .getfield 36, 3, 6, 11, 0, 80) from xlk (by decide +kernel)) (by decide) (xobf h0 (by decide) (by decide)) rfl (xPT_get (k := 11) (f := 12) hPT h0 (by decide)) (by have := (xtg_6_11 _ h0.1 h0.2).1.1; omega) (n := 17) rfl ?_
    refine xw_iload_n (n := 18) (show xlook 53 17 = some (17, .iload_n 1, 1, 0, 0, 0, 0) from xlk (by decide +kernel)) rfl rfl ?_
    obtain ⟨q1, t⟩ := t
    have hb3 : xob 8 (o0 + 12 + 6 + (x1 : Int).toNat) := xel16 _ (xtg_6_11 _ h0.1 h0.2).1.1 (xtg_6_11 _ h0.1 h0.2).1.2 _ (xidx10 q1)
    refine xw_aald (q := o0 + 12 + 6 + (x1 : Int).toNat) (show xlook 53 18 = some (18, .aaload, 1, 0, 0, 0, 0) from xlk (by decide +kernel)) ⟨(xtg_6_11 _ h0.1 h0.2).1.1, (Or.inr (xtg_6_11 _ h0.1 h0.2).1.2)⟩ (by rw [xln15 _ (xtg_6_11 _ h0.1 h0.2).1.1 (Or.inr (xtg_6_11 _ h0.1 h0.2).1.2)]; exact q1) (xPT_el hPT (Or.inr (xtg_6_11 _ h0.1 h0.2).1) q1.1 q1.2) (by have := hb3.1; omega) (n := 19) rfl ?_
    refine xw_aload_n (n := 20) (show xlook 53 19 = some (19, .aload_n 0, 1, 0, 0, 0, 0) from xlk (by decide +kernel)) rfl rfl ?_
    obtain ⟨t4, q1, ht4, t⟩ := t
    refine xw_getr (q := t4) (show xlook 53 20 = some (20, .getfield 40, 3, 6, 0, 0, 81) from xlk (by decide +kernel)) (by decide) (xobf h0 (by decide) (by decide)) rfl q1 (by have := ht4.1; omega) (n := 23) rfl ?_
    refine xw_getr (q := t4 + 1) (show xlook 53 23 = some (23, .getfield 92, 3, 9, 5, 0, 92) from xlk (by decide +kernel)) (by decide) (xobf ht4 (by decide) (by decide)) rfl (xPT_get (k := 5) (f := 1) hPT ht4 (by decide)) (by have := (xtg_9_5 _ ht4.1 ht4.2).1.1; omega) (n := 26) rfl ?_
    refine xw_iload_n (n := 27) (show xlook 53 26 = some (26, .iload_n 1, 1, 0, 0, 0, 0) from xlk (by decide +kernel)) rfl rfl ?_
    obtain ⟨q1, t⟩ := t
    have hb5 : xob 1 (t4 + 1 + 6 + (x1 : Int).toNat) := xel15 _ (xtg_9_5 _ ht4.1 ht4.2).1.1 (xtg_9_5 _ ht4.1 ht4.2).1.2 _ (xidx10 q1)
    refine xw_aald (q := t4 + 1 + 6 + (x1 : Int).toNat) (show xlook 53 27 = some (27, .aaload, 1, 0, 0, 0, 0) from xlk (by decide +kernel)) ⟨(xtg_9_5 _ ht4.1 ht4.2).1.1, (Or.inl (xtg_9_5 _ ht4.1 ht4.2).1.2)⟩ (by rw [xln15 _ (xtg_9_5 _ ht4.1 ht4.2).1.1 (Or.inl (xtg_9_5 _ ht4.1 ht4.2).1.2)]; exact q1) (xPT_el hPT (Or.inl (xtg_9_5 _ ht4.1 ht4.2).1) q1.1 q1.2) (by have := hb5.1; omega) (n := 28) rfl ?_
    refine xw_aload_n (n := 29) (show xlook 53 28 = some (28, .aload_n 0, 1, 0, 0, 0, 0) from xlk (by decide +kernel)) rfl rfl ?_
    refine xw_geti (show xlook 53 29 = some (29, .getfield 58, 3, 6, 2, 0, 83) from xlk (by decide +kernel)) (by decide) (xobf h0 (by decide) (by decide)) rfl (n := 32) rfl ?_
    refine xw_aload_n (n := 33) (show xlook 53 32 = some (32, .aload_n 0, 1, 0, 0, 0, 0) from xlk (by decide +kernel)) rfl rfl ?_
    refine xw_getr (q := o0 + 11) (show xlook 53 33 = some (33, .getfield 31, 3, 6, 10, 0, 79) from xlk (by decide +kernel)) (by decide) (xobf h0 (by decide) (by decide)) rfl (xPT_get (k := 10) (f := 11) hPT h0 (by decide)) (by have := (xtg_6_10 _ h0.1 h0.2).1.1; omega) (n := 36) rfl ?_
    refine xw_iload_n (n := 37) (show xlook 53 36 = some (36, .iload_n 1, 1, 0, 0, 0, 0) from xlk (by decide +kernel)) rfl rfl ?_
    obtain ⟨q1, t⟩ := t
    refine xw_iald (show xlook 53 37 = some (37, .iaload, 1, 0, 0, 0, 0) from xlk (by decide +kernel)) (xtg_6_10 _ h0.1 h0.2).1 (by rw [(xtg_6_10 _ h0.1 h0.2).2]; exact q1) (n := 38) rfl ?_
    obtain ⟨q0, t⟩ := t
    refine xw_if_le (n := 41) (m := 45) (show xlook 53 38 = some (38, .ifCond .le 7, 3, 45, 0, 0, 0) from xlk (by decide +kernel)) rfl rfl q0 ⟨fun c => ?_, fun c => ?_⟩
    · replace t := t.1 c
      refine xw_iconst (n := 46) (show xlook 53 45 = some (45, .iconst 0, 1, 0, 0, 0, 0) from xlk (by decide +kernel)) rfl ?_
      obtain ⟨j6, hj6, rr6, G6, hm6, hG6, t⟩ := t
      obtain ⟨rfl, t⟩ := t
      refine xw_callv (dk := j6) (o := o0 + 12 + 6 + (x1 : Int).toNat) (as := [.ref (t4 + 1 + 6 + (x1 : Int).toNat), vi ((F) (o0) 2), vi (0)]) (show xlook 53 46 = some (46, .invokevirtual 118, 3, 69, 4, 0, 57) from xlk (by decide +kernel)) (by decide) hj6 ⟨Nat.le_of_ble_eq_true rfl, Nat.le_of_ble_eq_true rfl, Nat.le_of_ble_eq_true rfl⟩ ⟨hb3.1, hb3.2, by decide⟩ rfl hm6 (n := 49) rfl ?_
      show xW X d 53 49 [.ref (o0), vi (x1)] [] G6 (xqv Q)
      refine xw_iinc (n := 52) (show xlook 53 49 = some (49, .iinc 1 1, 3, 0, 0, 0, 0) from xlk (by decide +kernel)) rfl (ls' := [.ref (o0), vi (x1 + 1)]) rfl rfl ?_
      refine xw_goto (m := 2) (show xlook 53 52 = some (52, .goto (-50), 3, 2, 0, 0, 0) from xlk (by decide +kernel)) rfl ?_
      exact t hG6
    · replace t := t.2 c
      refine xw_iconst (n := 42) (show xlook 53 41 = some (41, .iconst 1, 1, 0, 0, 0, 0) from xlk (by decide +kernel)) rfl ?_
      refine xw_goto (m := 46) (show xlook 53 42 = some (42, .goto 4, 3, 46, 0, 0, 0) from xlk (by decide +kernel)) rfl ?_
      obtain ⟨j7, hj7, rr7, G7, hm7, hG7, t⟩ := t
      obtain ⟨rfl, t⟩ := t
      refine xw_callv (dk := j7) (o := o0 + 12 + 6 + (x1 : Int).toNat) (as := [.ref (t4 + 1 + 6 + (x1 : Int).toNat), vi ((F) (o0) 2), vi (1)]) (show xlook 53 46 = some (46, .invokevirtual 118, 3, 69, 4, 0, 57) from xlk (by decide +kernel)) (by decide) hj7 ⟨Nat.le_of_ble_eq_true rfl, Nat.le_of_ble_eq_true rfl, Nat.le_of_ble_eq_true rfl⟩ ⟨hb3.1, hb3.2, by decide⟩ rfl hm7 (n := 49) rfl ?_
      show xW X d 53 49 [.ref (o0), vi (x1)] [] G7 (xqv Q)
      refine xw_iinc (n := 52) (show xlook 53 49 = some (49, .iinc 1 1, 3, 0, 0, 0, 0) from xlk (by decide +kernel)) rfl (ls' := [.ref (o0), vi (x1 + 1)]) rfl rfl ?_
      refine xw_goto (m := 2) (show xlook 53 52 = some (52, .goto (-50), 3, 2, 0, 0, 0) from xlk (by decide +kernel)) rfl ?_
      exact t hG7

theorem s54_0 {X : List Int32} {d : Nat} {F : XF} {Q : XF → Prop} {o0 : Nat} (hPT : xPT F) (h0 : xob 6 o0) (t : ∃ (j1 : Nat), j1 < d ∧ xMV X j1 60 [.ref (o0)] (F) (fun (G1 : XF) => (xPT (xup (G1) (o0) 2 (((G1) (o0) 2) + (1))) → Q (xup (G1) (o0) 2 (((G1) (o0) 2) + (1)))))) : xW X d 54 0 [.ref (o0)] [] F (xqv Q) := by
  refine xw_aload_n (n := 1) (show xlook 54 0 = some (0, .aload_n 0, 1, 0, 0, 0, 0) from xlk (by decide +kernel)) rfl rfl ?_
  obtain ⟨j1, hj1, rr1, G1, hm1, hG1, t⟩ := t
  obtain ⟨rfl, t⟩ := t
  refine xw_callv (dk := j1) (o := o0) (as := []) (show xlook 54 1 = some (1, .invokevirtual 122, 3, 60, 1, 0, 58) from xlk (by decide +kernel)) (by decide) hj1 ⟨Nat.le_of_ble_eq_true rfl, Nat.le_of_ble_eq_true rfl, Nat.le_of_ble_eq_true rfl⟩ ⟨h0.1, h0.2, by decide⟩ rfl hm1 (n := 4) rfl ?_
  show xW X d 54 4 [.ref (o0)] [] G1 (xqv Q)
  refine xw_aload_n (n := 5) (show xlook 54 4 = some (4, .aload_n 0, 1, 0, 0, 0, 0) from xlk (by decide +kernel)) rfl rfl ?_
  refine xw_dupr (n := 6) (show xlook 54 5 = some (5, .dup, 1, 0, 0, 0, 0) from xlk (by decide +kernel)) rfl ?_
  refine xw_geti (show xlook 54 6 = some (6, .getfield 58, 3, 6, 2, 0, 83) from xlk (by decide +kernel)) (by decide) (xobf h0 (by decide) (by decide)) rfl (n := 9) rfl ?_
  refine xw_iconst (n := 10) (show xlook 54 9 = some (9, .iconst 1, 1, 0, 0, 0, 0) from xlk (by decide +kernel)) rfl ?_
  refine xw_iadd (n := 11) (show xlook 54 10 = some (10, .iadd, 1, 0, 0, 0, 0) from xlk (by decide +kernel)) rfl ?_
  refine xw_puti (show xlook 54 11 = some (11, .putfield 58, 3, 6, 2, 0, 83) from xlk (by decide +kernel)) (xobf h0 (by decide) (by decide)) rfl (n := 14) rfl ?_
  exact xw_return (xPT_fld (k := 2) hG1 h0 (by decide) (by decide)) (show xlook 54 14 = some (14, .return_, 1, 0, 0, 0, 0) from xlk (by decide +kernel)) rfl (t (xPT_fld (k := 2) hG1 h0 (by decide) (by decide)))
theorem m54 {X : List Int32} {d : Nat} {F : XF} {Q : XF → Prop} {o0 : Nat} (hPT : xPT F) (h0 : xob 6 o0) (t : ∃ (j1 : Nat), j1 < d ∧ xMV X j1 60 [.ref (o0)] (F) (fun (G1 : XF) => (xPT (xup (G1) (o0) 2 (((G1) (o0) 2) + (1))) → Q (xup (G1) (o0) 2 (((G1) (o0) 2) + (1)))))) : xMV X d 54 [.ref (o0)] F Q := by
  show xW X d 54 0 [.ref (o0)] [] F (xqv Q)
  exact s54_0 hPT h0 t

theorem s55_0 {X : List Int32} {d : Nat} {F : XF} {Q : XF → Prop} {o0 : Nat} {x1 : Int} (hPT : xPT F) (h0 : xob 6 o0) (t : ∃ (j1 : Nat), j1 < d ∧ xMV X j1 60 [.ref (o0)] (F) (fun (G1 : XF) => (inR ((G1) (o0) 4) ∧ (((¬ ((G1) (o0) 4) = (0)) → (xPT (xup (G1) (o0) 2 (((G1) (o0) 2) + (1))) → Q (xup (G1) (o0) 2 (((G1) (o0) 2) + (1))))) ∧ (¬ (¬ ((G1) (o0) 4) = (0)) → (∃ (j2 : Nat), j2 < d ∧ xMI X j2 56 [.ref (o0)] (xup (G1) (o0) 2 (((G1) (o0) 2) + (1))) (fun (y2 : Int) (G2 : XF) => (inR (x1) ∧ inR (y2) ∧ (inR (((G1) (o0) 2) + (1)) ∧ inR (min (x1) (y2)) ∧ (xPT (xup (G2) (o0) 2 (max (((G1) (o0) 2) + (1)) (min (x1) (y2)))) → Q (xup (G2) (o0) 2 (max (((G1) (o0) 2) + (1)) (min (x1) (y2)))))))))))))) : xW X d 55 0 [.ref (o0), vi (x1)] [] F (xqv Q) := by
  refine xw_aload_n (n := 1) (show xlook 55 0 = some (0, .aload_n 0, 1, 0, 0, 0, 0) from xlk (by decide +kernel)) rfl rfl ?_
  obtain ⟨j1, hj1, rr1, G1, hm1, hG1, t⟩ := t
  obtain ⟨rfl, t⟩ := t
  refine xw_callv (dk := j1) (o := o0) (as := []) (show xlook 55 1 = some (1, .invokevirtual 122, 3, 60, 1, 0, 58) from xlk (by decide +kernel)) (by decide) hj1 ⟨Nat.le_of_ble_eq_true rfl, Nat.le_of_ble_eq_true rfl, Nat.le_of_ble_eq_true rfl⟩ ⟨h0.1, h0.2, by decide⟩ rfl hm1 (n := 4) rfl ?_
  show xW X d 55 4 [.ref (o0), vi (x1)] [] G1 (xqv Q)
  refine xw_aload_n (n := 5) (show xlook 55 4 = some (4, .aload_n 0, 1, 0, 0, 0, 0) from xlk (by decide +kernel)) rfl rfl ?_
  refine xw_dupr (n := 6) (show xlook 55 5 = some (5, .dup, 1, 0, 0, 0, 0) from xlk (by decide +kernel)) rfl ?_
  refine xw_geti (show xlook 55 6 = some (6, .getfield 58, 3, 6, 2, 0, 83) from xlk (by decide +kernel)) (by decide) (xobf h0 (by decide) (by decide)) rfl (n := 9) rfl ?_
  refine xw_iconst (n := 10) (show xlook 55 9 = some (9, .iconst 1, 1, 0, 0, 0, 0) from xlk (by decide +kernel)) rfl ?_
  refine xw_iadd (n := 11) (show xlook 55 10 = some (10, .iadd, 1, 0, 0, 0, 0) from xlk (by decide +kernel)) rfl ?_
  refine xw_puti (show xlook 55 11 = some (11, .putfield 58, 3, 6, 2, 0, 83) from xlk (by decide +kernel)) (xobf h0 (by decide) (by decide)) rfl (n := 14) rfl ?_
  refine xw_aload_n (n := 15) (show xlook 55 14 = some (14, .aload_n 0, 1, 0, 0, 0, 0) from xlk (by decide +kernel)) rfl rfl ?_
  refine xw_geti2 (u := (G1) (o0) 4) (show xlook 55 15 = some (15, .getfield 65, 3, 6, 4, 0, 85) from xlk (by decide +kernel)) (by decide) (xobf h0 (by decide) (by decide)) rfl (xup_i (by decide)) (n := 18) rfl ?_
  obtain ⟨q0, t⟩ := t
  refine xw_if_ne (n := 21) (m := 40) (show xlook 55 18 = some (18, .ifCond .ne 22, 3, 40, 0, 0, 0) from xlk (by decide +kernel)) rfl rfl q0 ⟨fun c => ?_, fun c => ?_⟩
  · replace t := t.1 c
    exact xw_return (xPT_fld (k := 2) hG1 h0 (by decide) (by decide)) (show xlook 55 40 = some (40, .return_, 1, 0, 0, 0, 0) from xlk (by decide +kernel)) rfl (t (xPT_fld (k := 2) hG1 h0 (by decide) (by decide)))
  · replace t := t.2 c
    refine xw_aload_n (n := 22) (show xlook 55 21 = some (21, .aload_n 0, 1, 0, 0, 0, 0) from xlk (by decide +kernel)) rfl rfl ?_
    refine xw_aload_n (n := 23) (show xlook 55 22 = some (22, .aload_n 0, 1, 0, 0, 0, 0) from xlk (by decide +kernel)) rfl rfl ?_
    refine xw_geti2 (u := ((G1) (o0) 2) + (1)) (show xlook 55 23 = some (23, .getfield 58, 3, 6, 2, 0, 83) from xlk (by decide +kernel)) (by decide) (xobf h0 (by decide) (by decide)) rfl (xup_s) (n := 26) rfl ?_
    refine xw_iload_n (n := 27) (show xlook 55 26 = some (26, .iload_n 1, 1, 0, 0, 0, 0) from xlk (by decide +kernel)) rfl rfl ?_
    refine xw_aload_n (n := 28) (show xlook 55 27 = some (27, .aload_n 0, 1, 0, 0, 0, 0) from xlk (by decide +kernel)) rfl rfl ?_
    obtain ⟨j2, hj2, rr2, G2, hm2, hG2, t⟩ := t
    obtain ⟨y2, rfl, t⟩ := t
    refine xw_callv (dk := j2) (o := o0) (as := []) (show xlook 55 28 = some (28, .invokevirtual 125, 3, 56, 1, 0, 59) from xlk (by decide +kernel)) (by decide) hj2 ⟨Nat.le_of_ble_eq_true rfl, Nat.le_of_ble_eq_true rfl, Nat.le_of_ble_eq_true rfl⟩ ⟨h0.1, h0.2, by decide⟩ rfl hm2 (n := 31) rfl ?_
    show xW X d 55 31 [.ref (o0), vi (x1)] [vi (y2), vi (x1), vi (((G1) (o0) 2) + (1)), .ref (o0)] G2 (xqv Q)
    obtain ⟨q0, q1, t⟩ := t
    refine xw_min (show xlook 55 31 = some (31, .invokestatic 129, 3, 1002, 2, 0, 60) from xlk (by decide +kernel)) rfl (Nat.le_of_ble_eq_true rfl) q0 q1 (n := 34) rfl ?_
    obtain ⟨q0, q1, t⟩ := t
    refine xw_max (show xlook 55 34 = some (34, .invokestatic 135, 3, 1001, 2, 0, 61) from xlk (by decide +kernel)) rfl (Nat.le_of_ble_eq_true rfl) q0 q1 (n := 37) rfl ?_
    refine xw_puti (show xlook 55 37 = some (37, .putfield 58, 3, 6, 2, 0, 83) from xlk (by decide +kernel)) (xobf h0 (by decide) (by decide)) rfl (n := 40) rfl ?_
    exact xw_return (xPT_fld (k := 2) hG2 h0 (by decide) (by decide)) (show xlook 55 40 = some (40, .return_, 1, 0, 0, 0, 0) from xlk (by decide +kernel)) rfl (t (xPT_fld (k := 2) hG2 h0 (by decide) (by decide)))
theorem m55 {X : List Int32} {d : Nat} {F : XF} {Q : XF → Prop} {o0 : Nat} {x1 : Int} (hPT : xPT F) (h0 : xob 6 o0) (t : ∃ (j1 : Nat), j1 < d ∧ xMV X j1 60 [.ref (o0)] (F) (fun (G1 : XF) => (inR ((G1) (o0) 4) ∧ (((¬ ((G1) (o0) 4) = (0)) → (xPT (xup (G1) (o0) 2 (((G1) (o0) 2) + (1))) → Q (xup (G1) (o0) 2 (((G1) (o0) 2) + (1))))) ∧ (¬ (¬ ((G1) (o0) 4) = (0)) → (∃ (j2 : Nat), j2 < d ∧ xMI X j2 56 [.ref (o0)] (xup (G1) (o0) 2 (((G1) (o0) 2) + (1))) (fun (y2 : Int) (G2 : XF) => (inR (x1) ∧ inR (y2) ∧ (inR (((G1) (o0) 2) + (1)) ∧ inR (min (x1) (y2)) ∧ (xPT (xup (G2) (o0) 2 (max (((G1) (o0) 2) + (1)) (min (x1) (y2)))) → Q (xup (G2) (o0) 2 (max (((G1) (o0) 2) + (1)) (min (x1) (y2)))))))))))))) : xMV X d 55 [.ref (o0), vi (x1)] F Q := by
  show xW X d 55 0 [.ref (o0), vi (x1)] [] F (xqv Q)
  exact s55_0 hPT h0 t

theorem s56_0 {X : List Int32} {d : Nat} {F : XF} {Q : Int → XF → Prop} {o0 : Nat} {w1 : Value} {w2 : Value} {w3 : Value} {w4 : Value} {w5 : Value} (hPT : xPT F) (h0 : xob 6 o0) (t : ∃ t1 : Nat, (F) (o0) 0 = (t1 : Int) ∧ xob 9 t1 ∧ (inR ((F) (o0) 2) ∧ inR ((F) (t1) 3) ∧ (((((F) (t1) 3) < ((F) (o0) 2)) → (xPT (F) → xW X d 56 28 [.ref (o0), vi (2000), vi (0), w3, w4, w5] [] (F) (xqi Q))) ∧ (¬ (((F) (t1) 3) < ((F) (o0) 2)) → (∃ t2 : Nat, (F) (o0) 0 = (t2 : Int) ∧ xob 9 t2 ∧ (xPT (F) → Q ((F) (t2) 3) (F))))))) : xW X d 56 0 [.ref (o0), w1, w2, w3, w4, w5] [] F (xqi Q) := by
  refine xw_aload_n (n := 1) (show xlook 56 0 = some (0, .aload_n 0, 1, 0, 0, 0, 0) from xlk (by decide +kernel)) rfl rfl ?_
  refine xw_geti (show xlook 56 1 = some (1, .getfield 58, 3, 6, 2, 0, 83) from xlk (by decide +kernel)) (by decide) (xobf h0 (by decide) (by decide)) rfl (n := 4) rfl ?_
  refine xw_aload_n (n := 5) (show xlook 56 4 = some (4, .aload_n 0, 1, 0, 0, 0, 0) from xlk (by decide +kernel)) rfl rfl ?_
  obtain ⟨t1, q1, ht1, t⟩ := t
  refine xw_getr (q := t1) (show xlook 56 5 = some (5, .getfield 40, 3, 6, 0, 0, 81) from xlk (by decide +kernel)) (by decide) (xobf h0 (by decide) (by decide)) rfl q1 (by have := ht1.1; omega) (n := 8) rfl ?_
  refine xw_geti (show xlook 56 8 = some (8, .getfield 138, 3, 9, 3, 0, 99) from xlk (by decide +kernel)) (by decide) (xobf ht1 (by decide) (by decide)) rfl (n := 11) rfl ?_
  obtain ⟨q0, q1, t⟩ := t
  refine xw_icmp_gt (n := 14) (m := 22) (show xlook 56 11 = some (11, .if_icmp .gt 11, 3, 22, 0, 0, 0) from xlk (by decide +kernel)) rfl rfl q0 q1 ⟨fun c => ?_, fun c => ?_⟩
  · replace t := t.1 c
    refine xw_sipush (n := 25) (show xlook 56 22 = some (22, .sipush 2000, 3, 0, 0, 0, 0) from xlk (by decide +kernel)) rfl (by decide) ?_
    refine xw_istore_n (n := 26) (show xlook 56 25 = some (25, .istore_n 1, 1, 0, 0, 0, 0) from xlk (by decide +kernel)) rfl (ls' := [.ref (o0), vi (2000), w2, w3, w4, w5]) (Nat.le_of_ble_eq_true rfl) rfl ?_
    refine xw_iconst (n := 27) (show xlook 56 26 = some (26, .iconst 0, 1, 0, 0, 0, 0) from xlk (by decide +kernel)) rfl ?_
    refine xw_istore_n (n := 28) (show xlook 56 27 = some (27, .istore_n 2, 1, 0, 0, 0, 0) from xlk (by decide +kernel)) rfl (ls' := [.ref (o0), vi (2000), vi (0), w3, w4, w5]) (Nat.le_of_ble_eq_true rfl) rfl ?_
    exact t hPT
  · replace t := t.2 c
    refine xw_aload_n (n := 15) (show xlook 56 14 = some (14, .aload_n 0, 1, 0, 0, 0, 0) from xlk (by decide +kernel)) rfl rfl ?_
    obtain ⟨t2, q1, ht2, t⟩ := t
    refine xw_getr (q := t2) (show xlook 56 15 = some (15, .getfield 40, 3, 6, 0, 0, 81) from xlk (by decide +kernel)) (by decide) (xobf h0 (by decide) (by decide)) rfl q1 (by have := ht2.1; omega) (n := 18) rfl ?_
    refine xw_geti (show xlook 56 18 = some (18, .getfield 138, 3, 9, 3, 0, 99) from xlk (by decide +kernel)) (by decide) (xobf ht2 (by decide) (by decide)) rfl (n := 21) rfl ?_
    exact xw_ireturn hPT (show xlook 56 21 = some (21, .ireturn, 1, 0, 0, 0, 0) from xlk (by decide +kernel)) rfl (t hPT)
theorem m56 {X : List Int32} {d : Nat} {F : XF} {Q : Int → XF → Prop} {o0 : Nat} (hPT : xPT F) (h0 : xob 6 o0) (t : ∃ t1 : Nat, (F) (o0) 0 = (t1 : Int) ∧ xob 9 t1 ∧ (inR ((F) (o0) 2) ∧ inR ((F) (t1) 3) ∧ (((((F) (t1) 3) < ((F) (o0) 2)) → (xPT (F) → xW X d 56 28 [.ref (o0), vi (2000), vi (0), xU0, xU0, xU0] [] (F) (xqi Q))) ∧ (¬ (((F) (t1) 3) < ((F) (o0) 2)) → (∃ t2 : Nat, (F) (o0) 0 = (t2 : Int) ∧ xob 9 t2 ∧ (xPT (F) → Q ((F) (t2) 3) (F))))))) : xMI X d 56 [.ref (o0)] F Q := by
  show xW X d 56 0 [.ref (o0), xU0, xU0, xU0, xU0, xU0] [] F (xqi Q)
  exact s56_0 hPT h0 t

theorem s56_28 {X : List Int32} {d : Nat} {F : XF} {Q : Int → XF → Prop} {o0 : Nat} {x1 : Int} {x2 : Int} {w3 : Value} {w4 : Value} {w5 : Value} (hPT : xPT F) (h0 : xob 6 o0) (t : ∃ t1 : Nat, (F) (o0) 0 = (t1 : Int) ∧ xob 9 t1 ∧ (inR (x2) ∧ inR ((F) (t1) 11) ∧ (((((F) (t1) 11) ≤ (x2)) → (xPT (F) → xW X d 56 81 [.ref (o0), vi (x1), vi (0), w3, w4, w5] [] (F) (xqi Q))) ∧ (¬ (((F) (t1) 11) ≤ (x2)) → (∃ t2 : Nat, (F) (o0) 0 = (t2 : Int) ∧ xob 9 t2 ∧ ((0 ≤ (x2) ∧ (x2) < 7) ∧ (∃ t3 : Nat, (F) (o0) 0 = (t3 : Int) ∧ xob 9 t3 ∧ ((0 ≤ (x2) ∧ (x2) < 7) ∧ (inR (((F) (t2 + 5) (x2)) + ((F) (t3 + 6) (x2))) ∧ inR ((F) (o0) 2) ∧ ((((((F) (t2 + 5) (x2)) + ((F) (t3 + 6) (x2))) < ((F) (o0) 2)) → (xPT (F) → xW X d 56 28 [.ref (o0), vi (x1), vi (x2 + 1), vi (((F) (t2 + 5) (x2)) + ((F) (t3 + 6) (x2))), w4, w5] [] (F) (xqi Q))) ∧ (¬ ((((F) (t2 + 5) (x2)) + ((F) (t3 + 6) (x2))) < ((F) (o0) 2)) → (inR (x1) ∧ inR (((F) (t2 + 5) (x2)) + ((F) (t3 + 6) (x2))) ∧ (xPT (F) → xW X d 56 28 [.ref (o0), vi (min (x1) (((F) (t2 + 5) (x2)) + ((F) (t3 + 6) (x2)))), vi (x2 + 1), vi (((F) (t2 + 5) (x2)) + ((F) (t3 + 6) (x2))), w4, w5] [] (F) (xqi Q)))))))))))))) : xW X d 56 28 [.ref (o0), vi (x1), vi (x2), w3, w4, w5] [] F (xqi Q) := by
  refine xw_iload_n (n := 29) (show xlook 56 28 = some (28, .iload_n 2, 1, 0, 0, 0, 0) from xlk (by decide +kernel)) rfl rfl ?_
  refine xw_aload_n (n := 30) (show xlook 56 29 = some (29, .aload_n 0, 1, 0, 0, 0, 0) from xlk (by decide +kernel)) rfl rfl ?_
  obtain ⟨t1, q1, ht1, t⟩ := t
  refine xw_getr (q := t1) (show xlook 56 30 = some (30, .getfield 40, 3, 6, 0, 0, 81) from xlk (by decide +kernel)) (by decide) (xobf h0 (by decide) (by decide)) rfl q1 (by have := ht1.1; omega) (n := 33) rfl ?_
  refine xw_geti (show xlook 56 33 = some (33, .getfield 141, 3, 9, 11, 0, 100) from xlk (by decide +kernel)) (by decide) (xobf ht1 (by decide) (by decide)) rfl (n := 36) rfl ?_
  obtain ⟨q0, q1, t⟩ := t
  refine xw_icmp_ge (n := 39) (m := 79) (show xlook 56 36 = some (36, .if_icmp .ge 43, 3, 79, 0, 0, 0) from xlk (by decide +kernel)) rfl rfl q0 q1 ⟨fun c => ?_, fun c => ?_⟩
  · replace t := t.1 c
    refine xw_iconst (n := 80) (show xlook 56 79 = some (79, .iconst 0, 1, 0, 0, 0, 0) from xlk (by decide +kernel)) rfl ?_
    refine xw_istore_n (n := 81) (show xlook 56 80 = some (80, .istore_n 2, 1, 0, 0, 0, 0) from xlk (by decide +kernel)) rfl (ls' := [.ref (o0), vi (x1), vi (0), w3, w4, w5]) (Nat.le_of_ble_eq_true rfl) rfl ?_
    exact t hPT
  · replace t := t.2 c
    refine xw_aload_n (n := 40) (show xlook 56 39 = some (39, .aload_n 0, 1, 0, 0, 0, 0) from xlk (by decide +kernel)) rfl rfl ?_
    obtain ⟨t2, q1, ht2, t⟩ := t
    refine xw_getr (q := t2) (show xlook 56 40 = some (40, .getfield 40, 3, 6, 0, 0, 81) from xlk (by decide +kernel)) (by decide) (xobf h0 (by decide) (by decide)) rfl q1 (by have := ht2.1; omega) (n := 43) rfl ?_
    refine xw_getr (q := t2 + 5) (show xlook 56 43 = some (43, .getfield 144, 3, 9, 13, 0, 101) from xlk (by decide +kernel)) (by decide) (xobf ht2 (by decide) (by decide)) rfl (xPT_get (k := 13) (f := 5) hPT ht2 (by decide)) (by have := (xtg_9_13 _ ht2.1 ht2.2).1.1; omega) (n := 46) rfl ?_
    refine xw_iload_n (n := 47) (show xlook 56 46 = some (46, .iload_n 2, 1, 0, 0, 0, 0) from xlk (by decide +kernel)) rfl rfl ?_
    obtain ⟨q1, t⟩ := t
    refine xw_iald (show xlook 56 47 = some (47, .iaload, 1, 0, 0, 0, 0) from xlk (by decide +kernel)) (xtg_9_13 _ ht2.1 ht2.2).1 (by rw [(xtg_9_13 _ ht2.1 ht2.2).2]; exact q1) (n := 48) rfl ?_
    refine xw_aload_n (n := 49) (show xlook 56 48 = some (48, .aload_n 0, 1, 0, 0, 0, 0) from xlk (by decide +kernel)) rfl rfl ?_
    obtain ⟨t3, q1, ht3, t⟩ := t
    refine xw_getr (q := t3) (show xlook 56 49 = some (49, .getfield 40, 3, 6, 0, 0, 81) from xlk (by decide +kernel)) (by decide) (xobf h0 (by decide) (by decide)) rfl q1 (by have := ht3.1; omega) (n := 52) rfl ?_
    refine xw_getr (q := t3 + 6) (show xlook 56 52 = some (52, .getfield 147, 3, 9, 14, 0, 102) from xlk (by decide +kernel)) (by decide) (xobf ht3 (by decide) (by decide)) rfl (xPT_get (k := 14) (f := 6) hPT ht3 (by decide)) (by have := (xtg_9_14 _ ht3.1 ht3.2).1.1; omega) (n := 55) rfl ?_
    refine xw_iload_n (n := 56) (show xlook 56 55 = some (55, .iload_n 2, 1, 0, 0, 0, 0) from xlk (by decide +kernel)) rfl rfl ?_
    obtain ⟨q1, t⟩ := t
    refine xw_iald (show xlook 56 56 = some (56, .iaload, 1, 0, 0, 0, 0) from xlk (by decide +kernel)) (xtg_9_14 _ ht3.1 ht3.2).1 (by rw [(xtg_9_14 _ ht3.1 ht3.2).2]; exact q1) (n := 57) rfl ?_
    refine xw_iadd (n := 58) (show xlook 56 57 = some (57, .iadd, 1, 0, 0, 0, 0) from xlk (by decide +kernel)) rfl ?_
    refine xw_istore_n (n := 59) (show xlook 56 58 = some (58, .istore_n 3, 1, 0, 0, 0, 0) from xlk (by decide +kernel)) rfl (ls' := [.ref (o0), vi (x1), vi (x2), vi (((F) (t2 + 5) (x2)) + ((F) (t3 + 6) (x2))), w4, w5]) (Nat.le_of_ble_eq_true rfl) rfl ?_
    refine xw_iload_n (n := 60) (show xlook 56 59 = some (59, .iload_n 3, 1, 0, 0, 0, 0) from xlk (by decide +kernel)) rfl rfl ?_
    refine xw_aload_n (n := 61) (show xlook 56 60 = some (60, .aload_n 0, 1, 0, 0, 0, 0) from xlk (by decide +kernel)) rfl rfl ?_
    refine xw_geti (show xlook 56 61 = some (61, .getfield 58, 3, 6, 2, 0, 83) from xlk (by decide +kernel)) (by decide) (xobf h0 (by decide) (by decide)) rfl (n := 64) rfl ?_
    obtain ⟨q0, q1, t⟩ := t
    refine xw_icmp_lt (n := 67) (m := 73) (show xlook 56 64 = some (64, .if_icmp .lt 9, 3, 73, 0, 0, 0) from xlk (by decide +kernel)) rfl rfl q0 q1 ⟨fun c => ?_, fun c => ?_⟩
    · replace t := t.1 c
      refine xw_iinc (n := 76) (show xlook 56 73 = some (73, .iinc 2 1, 3, 0, 0, 0, 0) from xlk (by decide +kernel)) rfl (ls' := [.ref (o0), vi (x1), vi (x2 + 1), vi (((F) (t2 + 5) (x2)) + ((F) (t3 + 6) (x2))), w4, w5]) rfl rfl ?_
      refine xw_goto (m := 28) (show xlook 56 76 = some (76, .goto (-48), 3, 28, 0, 0, 0) from xlk (by decide +kernel)) rfl ?_
      exact t hPT
    · replace t := t.2 c
      refine xw_iload_n (n := 68) (show xlook 56 67 = some (67, .iload_n 1, 1, 0, 0, 0, 0) from xlk (by decide +kernel)) rfl rfl ?_
      refine xw_iload_n (n := 69) (show xlook 56 68 = some (68, .iload_n 3, 1, 0, 0, 0, 0) from xlk (by decide +kernel)) rfl rfl ?_
      obtain ⟨q0, q1, t⟩ := t
      refine xw_min (show xlook 56 69 = some (69, .invokestatic 129, 3, 1002, 2, 0, 60) from xlk (by decide +kernel)) rfl (Nat.le_of_ble_eq_true rfl) q0 q1 (n := 72) rfl ?_
      refine xw_istore_n (n := 73) (show xlook 56 72 = some (72, .istore_n 1, 1, 0, 0, 0, 0) from xlk (by decide +kernel)) rfl (ls' := [.ref (o0), vi (min (x1) (((F) (t2 + 5) (x2)) + ((F) (t3 + 6) (x2)))), vi (x2), vi (((F) (t2 + 5) (x2)) + ((F) (t3 + 6) (x2))), w4, w5]) (Nat.le_of_ble_eq_true rfl) rfl ?_
      refine xw_iinc (n := 76) (show xlook 56 73 = some (73, .iinc 2 1, 3, 0, 0, 0, 0) from xlk (by decide +kernel)) rfl (ls' := [.ref (o0), vi (min (x1) (((F) (t2 + 5) (x2)) + ((F) (t3 + 6) (x2)))), vi (x2 + 1), vi (((F) (t2 + 5) (x2)) + ((F) (t3 + 6) (x2))), w4, w5]) rfl rfl ?_
      refine xw_goto (m := 28) (show xlook 56 76 = some (76, .goto (-48), 3, 28, 0, 0, 0) from xlk (by decide +kernel)) rfl ?_
      exact t hPT

theorem s56_81 {X : List Int32} {d : Nat} {F : XF} {Q : Int → XF → Prop} {o0 : Nat} {x1 : Int} {x2 : Int} {w3 : Value} {w4 : Value} {w5 : Value} (hPT : xPT F) (h0 : xob 6 o0) (t : inR (x2) ∧ inR ((F) (o0 + 1) 0) ∧ (((((F) (o0 + 1) 0) ≤ (x2)) → (xPT (F) → Q (x1) (F))) ∧ (¬ (((F) (o0 + 1) 0) ≤ (x2)) → ((0 ≤ (x2) ∧ (x2) < 30) ∧ ((0 ≤ ((F) (o0 + 1 + 1) (x2)) ∧ ((F) (o0 + 1 + 1) (x2)) < 30) ∧ (inR ((F) (o0 + 1 + 1) (x2)) ∧ inR ((F) (o0) 3) ∧ (((((F) (o0 + 1 + 1) (x2)) < ((F) (o0) 3)) → (xPT (F) → xW X d 56 81 [.ref (o0), vi (x1), vi (x2 + 1), vi ((F) (o0 + 1 + 1) (x2)), vi ((F) (o0 + 9) ((F) (o0 + 1 + 1) (x2))), w5] [] (F) (xqi Q))) ∧ (¬ (((F) (o0 + 1 + 1) (x2)) < ((F) (o0) 3)) → ((0 ≤ ((F) (o0 + 1 + 1) (x2)) ∧ ((F) (o0 + 1 + 1) (x2)) < 30) ∧ (inR ((F) (o0 + 8) ((F) (o0 + 1 + 1) (x2))) ∧ (((¬ ((F) (o0 + 8) ((F) (o0 + 1 + 1) (x2))) = (5)) → (xPT (F) → xW X d 56 81 [.ref (o0), vi (x1), vi (x2 + 1), vi ((F) (o0 + 1 + 1) (x2)), vi ((F) (o0 + 9) ((F) (o0 + 1 + 1) (x2))), w5] [] (F) (xqi Q))) ∧ (¬ (¬ ((F) (o0 + 8) ((F) (o0 + 1 + 1) (x2))) = (5)) → (∃ t1 : Nat, (F) (o0) 0 = (t1 : Int) ∧ xob 9 t1 ∧ (inR ((F) (o0 + 9) ((F) (o0 + 1 + 1) (x2))) ∧ inR ((F) (t1) 4) ∧ (((((F) (t1) 4) ≤ ((F) (o0 + 9) ((F) (o0 + 1 + 1) (x2)))) → (xPT (F) → xW X d 56 81 [.ref (o0), vi (x1), vi (x2 + 1), vi ((F) (o0 + 1 + 1) (x2)), vi ((F) (o0 + 9) ((F) (o0 + 1 + 1) (x2))), w5] [] (F) (xqi Q))) ∧ (¬ (((F) (t1) 4) ≤ ((F) (o0 + 9) ((F) (o0 + 1 + 1) (x2)))) → (∃ (j2 : Nat), j2 < d ∧ xMI X j2 66 [.ref (o0 + 1), vi (x2), vi ((F) (o0 + 9) ((F) (o0 + 1 + 1) (x2)))] (F) (fun (y2 : Int) (G2 : XF) => (∃ t3 : Nat, (G2) (o0) 0 = (t3 : Int) ∧ xob 9 t3 ∧ ((0 ≤ ((F) (o0 + 9) ((F) (o0 + 1 + 1) (x2)) : Int) ∧ ((F) (o0 + 9) ((F) (o0 + 1 + 1) (x2)) : Int) < 10) ∧ (∃ (j5 : Nat), j5 < d ∧ xMI X j5 12 [.ref (t3 + 1 + 6 + ((F) (o0 + 9) ((F) (o0 + 1 + 1) (x2)) : Int).toNat), vi ((G2) (o0) 2), vi (y2)] (G2) (fun (y5 : Int) (G5 : XF) => (inR (x1) ∧ inR (y5) ∧ (xPT (G5) → xW X d 56 81 [.ref (o0), vi (min (x1) (y5)), vi (x2 + 1), vi ((F) (o0 + 1 + 1) (x2)), vi ((F) (o0 + 9) ((F) (o0 + 1 + 1) (x2))), vi (y2)] [] (G5) (xqi Q))))))))))))))))))))))))) : xW X d 56 81 [.ref (o0), vi (x1), vi (x2), w3, w4, w5] [] F (xqi Q) := by
  refine xw_iload_n (n := 82) (show xlook 56 81 = some (81, .iload_n 2, 1, 0, 0, 0, 0) from xlk (by decide +kernel)) rfl rfl ?_
  refine xw_aload_n (n := 83) (show xlook 56 82 = some (82, .aload_n 0, 1, 0, 0, 0, 0) from xlk (by decide +kernel)) rfl rfl ?_
  refine xw_getr (q := o0 + 1) (show xlook 56 83 = some (83, .getfield 12, 3, 6, 1, 0, 74) from xlk (by decide +kernel)) (by decide) (xobf h0 (by decide) (by decide)) rfl (xPT_get (k := 1) (f := 1) hPT h0 (by decide)) (by have := (xtg_6_1 _ h0.1 h0.2).1; omega) (n := 86) rfl ?_
  refine xw_geti (show xlook 56 86 = some (86, .getfield 96, 3, 7, 0, 0, 93) from xlk (by decide +kernel)) (by decide) (xobf (xtg_6_1 _ h0.1 h0.2) (by decide) (by decide)) rfl (n := 89) rfl ?_
  obtain ⟨q0, q1, t⟩ := t
  refine xw_icmp_ge (n := 92) (m := 182) (show xlook 56 89 = some (89, .if_icmp .ge 93, 3, 182, 0, 0, 0) from xlk (by decide +kernel)) rfl rfl q0 q1 ⟨fun c => ?_, fun c => ?_⟩
  · replace t := t.1 c
    refine xw_iload_n (n := 183) (show xlook 56 182 = some (182, .iload_n 1, 1, 0, 0, 0, 0) from xlk (by decide +kernel)) rfl rfl ?_
    exact xw_ireturn hPT (show xlook 56 183 = some (183, .ireturn, 1, 0, 0, 0, 0) from xlk (by decide +kernel)) rfl (t hPT)
  · replace t := t.2 c
    refine xw_aload_n (n := 93) (show xlook 56 92 = some (92, .aload_n 0, 1, 0, 0, 0, 0) from xlk (by decide +kernel)) rfl rfl ?_
    refine xw_getr (q := o0 + 1) (show xlook 56 93 = some (93, .getfield 12, 3, 6, 1, 0, 74) from xlk (by decide +kernel)) (by decide) (xobf h0 (by decide) (by decide)) rfl (xPT_get (k := 1) (f := 1) hPT h0 (by decide)) (by have := (xtg_6_1 _ h0.1 h0.2).1; omega) (n := 96) rfl ?_
    refine xw_getr (q := o0 + 1 + 1) (show xlook 56 96 = some (96, .getfield 97, 3, 7, 1, 0, 94) from xlk (by decide +kernel)) (by decide) (xobf (xtg_6_1 _ h0.1 h0.2) (by decide) (by decide)) rfl (xPT_get (k := 1) (f := 1) hPT (xtg_6_1 _ h0.1 h0.2) (by decide)) (by have := (xtg_7_1 _ (xtg_6_1 _ h0.1 h0.2).1 (xtg_6_1 _ h0.1 h0.2).2).1.1; omega) (n := 99) rfl ?_
    refine xw_iload_n (n := 100) (show xlook 56 99 = some (99, .iload_n 2, 1, 0, 0, 0, 0) from xlk (by decide +kernel)) rfl rfl ?_
    obtain ⟨q1, t⟩ := t
    refine xw_iald (show xlook 56 100 = some (100, .iaload, 1, 0, 0, 0, 0) from xlk (by decide +kernel)) (xtg_7_1 _ (xtg_6_1 _ h0.1 h0.2).1 (xtg_6_1 _ h0.1 h0.2).2).1 (by rw [(xtg_7_1 _ (xtg_6_1 _ h0.1 h0.2).1 (xtg_6_1 _ h0.1 h0.2).2).2]; exact q1) (n := 101) rfl ?_
    refine xw_istore_n (n := 102) (show xlook 56 101 = some (101, .istore_n 3, 1, 0, 0, 0, 0) from xlk (by decide +kernel)) rfl (ls' := [.ref (o0), vi (x1), vi (x2), vi ((F) (o0 + 1 + 1) (x2)), w4, w5]) (Nat.le_of_ble_eq_true rfl) rfl ?_
    refine xw_aload_n (n := 103) (show xlook 56 102 = some (102, .aload_n 0, 1, 0, 0, 0, 0) from xlk (by decide +kernel)) rfl rfl ?_
    refine xw_getr (q := o0 + 9) (show xlook 56 103 = some (103, .getfield 25, 3, 6, 8, 0, 77) from xlk (by decide +kernel)) (by decide) (xobf h0 (by decide) (by decide)) rfl (xPT_get (k := 8) (f := 9) hPT h0 (by decide)) (by have := (xtg_6_8 _ h0.1 h0.2).1.1; omega) (n := 106) rfl ?_
    refine xw_iload_n (n := 107) (show xlook 56 106 = some (106, .iload_n 3, 1, 0, 0, 0, 0) from xlk (by decide +kernel)) rfl rfl ?_
    obtain ⟨q1, t⟩ := t
    refine xw_iald (show xlook 56 107 = some (107, .iaload, 1, 0, 0, 0, 0) from xlk (by decide +kernel)) (xtg_6_8 _ h0.1 h0.2).1 (by rw [(xtg_6_8 _ h0.1 h0.2).2]; exact q1) (n := 108) rfl ?_
    refine xw_istore (n := 110) (show xlook 56 108 = some (108, .istore 4, 2, 0, 0, 0, 0) from xlk (by decide +kernel)) rfl (ls' := [.ref (o0), vi (x1), vi (x2), vi ((F) (o0 + 1 + 1) (x2)), vi ((F) (o0 + 9) ((F) (o0 + 1 + 1) (x2))), w5]) (Nat.le_of_ble_eq_true rfl) rfl ?_
    refine xw_iload_n (n := 111) (show xlook 56 110 = some (110, .iload_n 3, 1, 0, 0, 0, 0) from xlk (by decide +kernel)) rfl rfl ?_
    refine xw_aload_n (n := 112) (show xlook 56 111 = some (111, .aload_n 0, 1, 0, 0, 0, 0) from xlk (by decide +kernel)) rfl rfl ?_
    refine xw_geti (show xlook 56 112 = some (112, .getfield 62, 3, 6, 3, 0, 84) from xlk (by decide +kernel)) (by decide) (xobf h0 (by decide) (by decide)) rfl (n := 115) rfl ?_
    obtain ⟨q0, q1, t⟩ := t
    refine xw_icmp_lt (n := 118) (m := 176) (show xlook 56 115 = some (115, .if_icmp .lt 61, 3, 176, 0, 0, 0) from xlk (by decide +kernel)) rfl rfl q0 q1 ⟨fun c => ?_, fun c => ?_⟩
    · replace t := t.1 c
      refine xw_iinc (n := 179) (show xlook 56 176 = some (176, .iinc 2 1, 3, 0, 0, 0, 0) from xlk (by decide +kernel)) rfl (ls' := [.ref (o0), vi (x1), vi (x2 + 1), vi ((F) (o0 + 1 + 1) (x2)), vi ((F) (o0 + 9) ((F) (o0 + 1 + 1) (x2))), w5]) rfl rfl ?_
      refine xw_goto (m := 81) (show xlook 56 179 = some (179, .goto (-98), 3, 81, 0, 0, 0) from xlk (by decide +kernel)) rfl ?_
      exact t hPT
    · replace t := t.2 c
      refine xw_aload_n (n := 119) (show xlook 56 118 = some (118, .aload_n 0, 1, 0, 0, 0, 0) from xlk (by decide +kernel)) rfl rfl ?_
      refine xw_getr (q := o0 + 8) (show xlook 56 119 = some (119, .getfield 22, 3, 6, 7, 0, 76) from xlk (by decide +kernel)) (by decide) (xobf h0 (by decide) (by decide)) rfl (xPT_get (k := 7) (f := 8) hPT h0 (by decide)) (by have := (xtg_6_7 _ h0.1 h0.2).1.1; omega) (n := 122) rfl ?_
      refine xw_iload_n (n := 123) (show xlook 56 122 = some (122, .iload_n 3, 1, 0, 0, 0, 0) from xlk (by decide +kernel)) rfl rfl ?_
      obtain ⟨q1, t⟩ := t
      refine xw_iald (show xlook 56 123 = some (123, .iaload, 1, 0, 0, 0, 0) from xlk (by decide +kernel)) (xtg_6_7 _ h0.1 h0.2).1 (by rw [(xtg_6_7 _ h0.1 h0.2).2]; exact q1) (n := 124) rfl ?_
      refine xw_iconst (n := 125) (show xlook 56 124 = some (124, .iconst 5, 1, 0, 0, 0, 0) from xlk (by decide +kernel)) rfl ?_
      obtain ⟨q0, t⟩ := t
      refine xw_icmp_ne (n := 128) (m := 176) (show xlook 56 125 = some (125, .if_icmp .ne 51, 3, 176, 0, 0, 0) from xlk (by decide +kernel)) rfl rfl q0 ⟨by decide, by decide⟩ ⟨fun c => ?_, fun c => ?_⟩
      · replace t := t.1 c
        refine xw_iinc (n := 179) (show xlook 56 176 = some (176, .iinc 2 1, 3, 0, 0, 0, 0) from xlk (by decide +kernel)) rfl (ls' := [.ref (o0), vi (x1), vi (x2 + 1), vi ((F) (o0 + 1 + 1) (x2)), vi ((F) (o0 + 9) ((F) (o0 + 1 + 1) (x2))), w5]) rfl rfl ?_
        refine xw_goto (m := 81) (show xlook 56 179 = some (179, .goto (-98), 3, 81, 0, 0, 0) from xlk (by decide +kernel)) rfl ?_
        exact t hPT
      · replace t := t.2 c
        refine xw_iload (n := 130) (show xlook 56 128 = some (128, .iload 4, 2, 0, 0, 0, 0) from xlk (by decide +kernel)) rfl rfl ?_
        refine xw_aload_n (n := 131) (show xlook 56 130 = some (130, .aload_n 0, 1, 0, 0, 0, 0) from xlk (by decide +kernel)) rfl rfl ?_
        obtain ⟨t1, q1, ht1, t⟩ := t
        refine xw_getr (q := t1) (show xlook 56 131 = some (131, .getfield 40, 3, 6, 0, 0, 81) from xlk (by decide +kernel)) (by decide) (xobf h0 (by decide) (by decide)) rfl q1 (by have := ht1.1; omega) (n := 134) rfl ?_
        refine xw_geti (show xlook 56 134 = some (134, .getfield 86, 3, 9, 4, 0, 91) from xlk (by decide +kernel)) (by decide) (xobf ht1 (by decide) (by decide)) rfl (n := 137) rfl ?_
        obtain ⟨q0, q1, t⟩ := t
        refine xw_icmp_ge (n := 140) (m := 176) (show xlook 56 137 = some (137, .if_icmp .ge 39, 3, 176, 0, 0, 0) from xlk (by decide +kernel)) rfl rfl q0 q1 ⟨fun c => ?_, fun c => ?_⟩
        · replace t := t.1 c
          refine xw_iinc (n := 179) (show xlook 56 176 = some (176, .iinc 2 1, 3, 0, 0, 0, 0) from xlk (by decide +kernel)) rfl (ls' := [.ref (o0), vi (x1), vi (x2 + 1), vi ((F) (o0 + 1 + 1) (x2)), vi ((F) (o0 + 9) ((F) (o0 + 1 + 1) (x2))), w5]) rfl rfl ?_
          refine xw_goto (m := 81) (show xlook 56 179 = some (179, .goto (-98), 3, 81, 0, 0, 0) from xlk (by decide +kernel)) rfl ?_
          exact t hPT
        · replace t := t.2 c
          refine xw_aload_n (n := 141) (show xlook 56 140 = some (140, .aload_n 0, 1, 0, 0, 0, 0) from xlk (by decide +kernel)) rfl rfl ?_
          refine xw_getr (q := o0 + 1) (show xlook 56 141 = some (141, .getfield 12, 3, 6, 1, 0, 74) from xlk (by decide +kernel)) (by decide) (xobf h0 (by decide) (by decide)) rfl (xPT_get (k := 1) (f := 1) hPT h0 (by decide)) (by have := (xtg_6_1 _ h0.1 h0.2).1; omega) (n := 144) rfl ?_
          refine xw_iload_n (n := 145) (show xlook 56 144 = some (144, .iload_n 2, 1, 0, 0, 0, 0) from xlk (by decide +kernel)) rfl rfl ?_
          refine xw_iload (n := 147) (show xlook 56 145 = some (145, .iload 4, 2, 0, 0, 0, 0) from xlk (by decide +kernel)) rfl rfl ?_
          obtain ⟨j2, hj2, rr2, G2, hm2, hG2, t⟩ := t
          obtain ⟨y2, rfl, t⟩ := t
          refine xw_callv (dk := j2) (o := o0 + 1) (as := [vi (x2), vi ((F) (o0 + 9) ((F) (o0 + 1 + 1) (x2)))]) (show xlook 56 147 = some (147, .invokevirtual 150, 3, 66, 3, 0, 62) from xlk (by decide +kernel)) (by decide) hj2 ⟨Nat.le_of_ble_eq_true rfl, Nat.le_of_ble_eq_true rfl, Nat.le_of_ble_eq_true rfl⟩ ⟨(xtg_6_1 _ h0.1 h0.2).1, (xtg_6_1 _ h0.1 h0.2).2, by decide⟩ rfl hm2 (n := 150) rfl ?_
          show xW X d 56 150 [.ref (o0), vi (x1), vi (x2), vi ((F) (o0 + 1 + 1) (x2)), vi ((F) (o0 + 9) ((F) (o0 + 1 + 1) (x2))), w5] [vi (y2)] G2 (xqi Q)
          refine xw_istore (n := 152) (show xlook 56 150 = some (150, .istore 5, 2, 0, 0, 0, 0) from xlk (by decide +kernel)) rfl (ls' := [.ref (o0), vi (x1), vi (x2), vi ((F) (o0 + 1 + 1) (x2)), vi ((F) (o0 + 9) ((F) (o0 + 1 + 1) (x2))), vi (y2)]) (Nat.le_of_ble_eq_true rfl) rfl ?_
          refine xw_iload_n (n := 153) (show xlook 56 152 = some (152, .iload_n 1, 1, 0, 0, 0, 0) from xlk (by decide +kernel)) rfl rfl ?_
          refine xw_aload_n (n := 154) (show xlook 56 153 = some (153, .aload_n 0, 1, 0, 0, 0, 0) from xlk (by decide +kernel)) rfl rfl ?_
          obtain ⟨t3, q1, ht3, t⟩ := t
          refine xw_getr (q := t3) (show xlook 56 154 = some (154, .getfield 40, 3, 6, 0, 0, 81) from xlk (by decide +kernel)) (by decide) (xobf h0 (by decide) (by decide)) rfl q1 (by have := ht3.1; omega) (n := 157) rfl ?_
          refine xw_getr (q := t3 + 1) (show xlook 56 157 = some (157, .getfield 92, 3, 9, 5, 0, 92) from xlk (by decide +kernel)) (by decide) (xobf ht3 (by decide) (by decide)) rfl (xPT_get (k := 5) (f := 1) hG2 ht3 (by decide)) (by have := (xtg_9_5 _ ht3.1 ht3.2).1.1; omega) (n := 160) rfl ?_
          refine xw_iload (n := 162) (show xlook 56 160 = some (160, .iload 4, 2, 0, 0, 0, 0) from xlk (by decide +kernel)) rfl rfl ?_
          obtain ⟨q1, t⟩ := t
          have hb4 : xob 1 (t3 + 1 + 6 + ((F) (o0 + 9) ((F) (o0 + 1 + 1) (x2)) : Int).toNat) := xel15 _ (xtg_9_5 _ ht3.1 ht3.2).1.1 (xtg_9_5 _ ht3.1 ht3.2).1.2 _ (xidx10 q1)
          refine xw_aald (q := t3 + 1 + 6 + ((F) (o0 + 9) ((F) (o0 + 1 + 1) (x2)) : Int).toNat) (show xlook 56 162 = some (162, .aaload, 1, 0, 0, 0, 0) from xlk (by decide +kernel)) ⟨(xtg_9_5 _ ht3.1 ht3.2).1.1, (Or.inl (xtg_9_5 _ ht3.1 ht3.2).1.2)⟩ (by rw [xln15 _ (xtg_9_5 _ ht3.1 ht3.2).1.1 (Or.inl (xtg_9_5 _ ht3.1 ht3.2).1.2)]; exact q1) (xPT_el hG2 (Or.inl (xtg_9_5 _ ht3.1 ht3.2).1) q1.1 q1.2) (by have := hb4.1; omega) (n := 163) rfl ?_
          refine xw_aload_n (n := 164) (show xlook 56 163 = some (163, .aload_n 0, 1, 0, 0, 0, 0) from xlk (by decide +kernel)) rfl rfl ?_
          refine xw_geti (show xlook 56 164 = some (164, .getfield 58, 3, 6, 2, 0, 83) from xlk (by decide +kernel)) (by decide) (xobf h0 (by decide) (by decide)) rfl (n := 167) rfl ?_
          refine xw_iload (n := 169) (show xlook 56 167 = some (167, .iload 5, 2, 0, 0, 0, 0) from xlk (by decide +kernel)) rfl rfl ?_
          obtain ⟨j5, hj5, rr5, G5, hm5, hG5, t⟩ := t
          obtain ⟨y5, rfl, t⟩ := t
          refine xw_callv (dk := j5) (o := t3 + 1 + 6 + ((F) (o0 + 9) ((F) (o0 + 1 + 1) (x2)) : Int).toNat) (as := [vi ((G2) (o0) 2), vi (y2)]) (show xlook 56 169 = some (169, .invokevirtual 153, 3, 12, 3, 0, 63) from xlk (by decide +kernel)) (by decide) hj5 ⟨Nat.le_of_ble_eq_true rfl, Nat.le_of_ble_eq_true rfl, Nat.le_of_ble_eq_true rfl⟩ ⟨hb4.1, hb4.2, by decide⟩ rfl hm5 (n := 172) rfl ?_
          show xW X d 56 172 [.ref (o0), vi (x1), vi (x2), vi ((F) (o0 + 1 + 1) (x2)), vi ((F) (o0 + 9) ((F) (o0 + 1 + 1) (x2))), vi (y2)] [vi (y5), vi (x1)] G5 (xqi Q)
          obtain ⟨q0, q1, t⟩ := t
          refine xw_min (show xlook 56 172 = some (172, .invokestatic 129, 3, 1002, 2, 0, 60) from xlk (by decide +kernel)) rfl (Nat.le_of_ble_eq_true rfl) q0 q1 (n := 175) rfl ?_
          refine xw_istore_n (n := 176) (show xlook 56 175 = some (175, .istore_n 1, 1, 0, 0, 0, 0) from xlk (by decide +kernel)) rfl (ls' := [.ref (o0), vi (min (x1) (y5)), vi (x2), vi ((F) (o0 + 1 + 1) (x2)), vi ((F) (o0 + 9) ((F) (o0 + 1 + 1) (x2))), vi (y2)]) (Nat.le_of_ble_eq_true rfl) rfl ?_
          refine xw_iinc (n := 179) (show xlook 56 176 = some (176, .iinc 2 1, 3, 0, 0, 0, 0) from xlk (by decide +kernel)) rfl (ls' := [.ref (o0), vi (min (x1) (y5)), vi (x2 + 1), vi ((F) (o0 + 1 + 1) (x2)), vi ((F) (o0 + 9) ((F) (o0 + 1 + 1) (x2))), vi (y2)]) rfl rfl ?_
          refine xw_goto (m := 81) (show xlook 56 179 = some (179, .goto (-98), 3, 81, 0, 0, 0) from xlk (by decide +kernel)) rfl ?_
          exact t hG5

theorem s57_0 {X : List Int32} {d : Nat} {F : XF} {Q : Int → XF → Prop} {o0 : Nat} {o1 : Nat} {x2 : Int} {w3 : Value} (hPT : xPT F) (h0 : xob 6 o0) (h1 : xob 9 o1) (t : ∃ (j1 : Nat), j1 < d ∧ xMV X j1 48 [.ref (o0), .ref (o1)] (F) (fun (G1 : XF) => (∃ (j2 : Nat), j2 < d ∧ xMI X j2 59 [.ref (o0)] (G1) (fun (y2 : Int) (G2 : XF) => (inR (y2) ∧ ((((y2) = (0)) → (xPT (G2) → xW X d 57 16 [.ref (o0), .ref (o1), vi (x2), vi (0)] [] (G2) (xqi Q))) ∧ (¬ ((y2) = (0)) → (xPT (G2) → Q ((-1)) (G2))))))))) : xW X d 57 0 [.ref (o0), .ref (o1), vi (x2), w3] [] F (xqi Q) := by
  refine xw_aload_n (n := 1) (show xlook 57 0 = some (0, .aload_n 0, 1, 0, 0, 0, 0) from xlk (by decide +kernel)) rfl rfl ?_
  refine xw_aload_n (n := 2) (show xlook 57 1 = some (1, .aload_n 1, 1, 0, 0, 0, 0) from xlk (by decide +kernel)) rfl rfl ?_
  obtain ⟨j1, hj1, rr1, G1, hm1, hG1, t⟩ := t
  obtain ⟨rfl, t⟩ := t
  refine xw_callv (dk := j1) (o := o0) (as := [.ref (o1)]) (show xlook 57 2 = some (2, .invokevirtual 156, 3, 48, 2, 0, 64) from xlk (by decide +kernel)) (by decide) hj1 ⟨Nat.le_of_ble_eq_true rfl, Nat.le_of_ble_eq_true rfl, Nat.le_of_ble_eq_true rfl⟩ ⟨h0.1, h0.2, by decide⟩ rfl hm1 (n := 5) rfl ?_
  show xW X d 57 5 [.ref (o0), .ref (o1), vi (x2), w3] [] G1 (xqi Q)
  refine xw_aload_n (n := 6) (show xlook 57 5 = some (5, .aload_n 0, 1, 0, 0, 0, 0) from xlk (by decide +kernel)) rfl rfl ?_
  obtain ⟨j2, hj2, rr2, G2, hm2, hG2, t⟩ := t
  obtain ⟨y2, rfl, t⟩ := t
  refine xw_callv (dk := j2) (o := o0) (as := []) (show xlook 57 6 = some (6, .invokevirtual 159, 3, 59, 1, 0, 65) from xlk (by decide +kernel)) (by decide) hj2 ⟨Nat.le_of_ble_eq_true rfl, Nat.le_of_ble_eq_true rfl, Nat.le_of_ble_eq_true rfl⟩ ⟨h0.1, h0.2, by decide⟩ rfl hm2 (n := 9) rfl ?_
  show xW X d 57 9 [.ref (o0), .ref (o1), vi (x2), w3] [vi (y2)] G2 (xqi Q)
  obtain ⟨q0, t⟩ := t
  refine xw_if_eq (n := 12) (m := 14) (show xlook 57 9 = some (9, .ifCond .eq 5, 3, 14, 0, 0, 0) from xlk (by decide +kernel)) rfl rfl q0 ⟨fun c => ?_, fun c => ?_⟩
  · replace t := t.1 c
    refine xw_iconst (n := 15) (show xlook 57 14 = some (14, .iconst 0, 1, 0, 0, 0, 0) from xlk (by decide +kernel)) rfl ?_
    refine xw_istore_n (n := 16) (show xlook 57 15 = some (15, .istore_n 3, 1, 0, 0, 0, 0) from xlk (by decide +kernel)) rfl (ls' := [.ref (o0), .ref (o1), vi (x2), vi (0)]) (Nat.le_of_ble_eq_true rfl) rfl ?_
    exact t hG2
  · replace t := t.2 c
    refine xw_iconst (n := 13) (show xlook 57 12 = some (12, .iconst (-1), 1, 0, 0, 0, 0) from xlk (by decide +kernel)) rfl ?_
    exact xw_ireturn hG2 (show xlook 57 13 = some (13, .ireturn, 1, 0, 0, 0, 0) from xlk (by decide +kernel)) rfl (t hG2)
theorem m57 {X : List Int32} {d : Nat} {F : XF} {Q : Int → XF → Prop} {o0 : Nat} {o1 : Nat} {x2 : Int} (hPT : xPT F) (h0 : xob 6 o0) (h1 : xob 9 o1) (t : ∃ (j1 : Nat), j1 < d ∧ xMV X j1 48 [.ref (o0), .ref (o1)] (F) (fun (G1 : XF) => (∃ (j2 : Nat), j2 < d ∧ xMI X j2 59 [.ref (o0)] (G1) (fun (y2 : Int) (G2 : XF) => (inR (y2) ∧ ((((y2) = (0)) → (xPT (G2) → xW X d 57 16 [.ref (o0), .ref (o1), vi (x2), vi (0)] [] (G2) (xqi Q))) ∧ (¬ ((y2) = (0)) → (xPT (G2) → Q ((-1)) (G2))))))))) : xMI X d 57 [.ref (o0), .ref (o1), vi (x2)] F Q := by
  show xW X d 57 0 [.ref (o0), .ref (o1), vi (x2), xU0] [] F (xqi Q)
  exact s57_0 hPT h0 h1 t

theorem s57_16 {X : List Int32} {d : Nat} {F : XF} {Q : Int → XF → Prop} {o0 : Nat} {o1 : Nat} {x2 : Int} {x3 : Int} (hPT : xPT F) (h0 : xob 6 o0) (h1 : xob 9 o1) (t : inR (x3) ∧ inR (x2) ∧ ((((x2) ≤ (x3)) → (xPT (F) → xW X d 57 59 [.ref (o0), .ref (o1), vi (x2), vi (x3)] [] (F) (xqi Q))) ∧ (¬ ((x2) ≤ (x3)) → (inR ((F) (o0) 2) ∧ inR (x2) ∧ ((((x2) ≤ ((F) (o0) 2)) → (xPT (F) → xW X d 57 59 [.ref (o0), .ref (o1), vi (x2), vi (x3)] [] (F) (xqi Q))) ∧ (¬ ((x2) ≤ ((F) (o0) 2)) → (inR ((F) (o0) 3) ∧ inR ((F) (o1) 6) ∧ (((((F) (o1) 6) ≤ ((F) (o0) 3)) → (xPT (F) → xW X d 57 59 [.ref (o0), .ref (o1), vi (x2), vi (x3)] [] (F) (xqi Q))) ∧ (¬ (((F) (o1) 6) ≤ ((F) (o0) 3)) → (∃ (j1 : Nat), j1 < d ∧ xMI X j1 58 [.ref (o0), vi (x2)] (F) (fun (y1 : Int) (G1 : XF) => (inR (y1) ∧ (((¬ (y1) = (0)) → (xPT (G1) → xW X d 57 59 [.ref (o0), .ref (o1), vi (x2), vi (x3)] [] (G1) (xqi Q))) ∧ (¬ (¬ (y1) = (0)) → (∃ (j2 : Nat), j2 < d ∧ xMV X j2 55 [.ref (o0), vi (x2)] (G1) (fun (G2 : XF) => (xPT (G2) → xW X d 57 16 [.ref (o0), .ref (o1), vi (x2), vi (x3 + 1)] [] (G2) (xqi Q)))))))))))))))))) : xW X d 57 16 [.ref (o0), .ref (o1), vi (x2), vi (x3)] [] F (xqi Q) := by
  refine xw_iload_n (n := 17) (show xlook 57 16 = some (16, .iload_n 3, 1, 0, 0, 0, 0) from xlk (by decide +kernel)) rfl rfl ?_
  refine xw_iload_n (n := 18) (show xlook 57 17 = some (17, .iload_n 2, 1, 0, 0, 0, 0) from xlk (by decide +kernel)) rfl rfl ?_
  obtain ⟨q0, q1, t⟩ := t
  refine xw_icmp_ge (n := 21) (m := 59) (show xlook 57 18 = some (18, .if_icmp .ge 41, 3, 59, 0, 0, 0) from xlk (by decide +kernel)) rfl rfl q0 q1 ⟨fun c => ?_, fun c => ?_⟩
  · replace t := t.1 c
    exact t hPT
  · replace t := t.2 c
    refine xw_aload_n (n := 22) (show xlook 57 21 = some (21, .aload_n 0, 1, 0, 0, 0, 0) from xlk (by decide +kernel)) rfl rfl ?_
    refine xw_geti (show xlook 57 22 = some (22, .getfield 58, 3, 6, 2, 0, 83) from xlk (by decide +kernel)) (by decide) (xobf h0 (by decide) (by decide)) rfl (n := 25) rfl ?_
    refine xw_iload_n (n := 26) (show xlook 57 25 = some (25, .iload_n 2, 1, 0, 0, 0, 0) from xlk (by decide +kernel)) rfl rfl ?_
    obtain ⟨q0, q1, t⟩ := t
    refine xw_icmp_ge (n := 29) (m := 59) (show xlook 57 26 = some (26, .if_icmp .ge 33, 3, 59, 0, 0, 0) from xlk (by decide +kernel)) rfl rfl q0 q1 ⟨fun c => ?_, fun c => ?_⟩
    · replace t := t.1 c
      exact t hPT
    · replace t := t.2 c
      refine xw_aload_n (n := 30) (show xlook 57 29 = some (29, .aload_n 0, 1, 0, 0, 0, 0) from xlk (by decide +kernel)) rfl rfl ?_
      refine xw_geti (show xlook 57 30 = some (30, .getfield 62, 3, 6, 3, 0, 84) from xlk (by decide +kernel)) (by decide) (xobf h0 (by decide) (by decide)) rfl (n := 33) rfl ?_
      refine xw_aload_n (n := 34) (show xlook 57 33 = some (33, .aload_n 1, 1, 0, 0, 0, 0) from xlk (by decide +kernel)) rfl rfl ?_
      refine xw_geti (show xlook 57 34 = some (34, .getfield 75, 3, 9, 6, 0, 88) from xlk (by decide +kernel)) (by decide) (xobf h1 (by decide) (by decide)) rfl (n := 37) rfl ?_
      obtain ⟨q0, q1, t⟩ := t
      refine xw_icmp_ge (n := 40) (m := 59) (show xlook 57 37 = some (37, .if_icmp .ge 22, 3, 59, 0, 0, 0) from xlk (by decide +kernel)) rfl rfl q0 q1 ⟨fun c => ?_, fun c => ?_⟩
      · replace t := t.1 c
        exact t hPT
      · replace t := t.2 c
        refine xw_aload_n (n := 41) (show xlook 57 40 = some (40, .aload_n 0, 1, 0, 0, 0, 0) from xlk (by decide +kernel)) rfl rfl ?_
        refine xw_iload_n (n := 42) (show xlook 57 41 = some (41, .iload_n 2, 1, 0, 0, 0, 0) from xlk (by decide +kernel)) rfl rfl ?_
        obtain ⟨j1, hj1, rr1, G1, hm1, hG1, t⟩ := t
        obtain ⟨y1, rfl, t⟩ := t
        refine xw_callv (dk := j1) (o := o0) (as := [vi (x2)]) (show xlook 57 42 = some (42, .invokevirtual 163, 3, 58, 2, 0, 66) from xlk (by decide +kernel)) (by decide) hj1 ⟨Nat.le_of_ble_eq_true rfl, Nat.le_of_ble_eq_true rfl, Nat.le_of_ble_eq_true rfl⟩ ⟨h0.1, h0.2, by decide⟩ rfl hm1 (n := 45) rfl ?_
        show xW X d 57 45 [.ref (o0), .ref (o1), vi (x2), vi (x3)] [vi (y1)] G1 (xqi Q)
        obtain ⟨q0, t⟩ := t
        refine xw_if_ne (n := 48) (m := 59) (show xlook 57 45 = some (45, .ifCond .ne 14, 3, 59, 0, 0, 0) from xlk (by decide +kernel)) rfl rfl q0 ⟨fun c => ?_, fun c => ?_⟩
        · replace t := t.1 c
          exact t hG1
        · replace t := t.2 c
          refine xw_aload_n (n := 49) (show xlook 57 48 = some (48, .aload_n 0, 1, 0, 0, 0, 0) from xlk (by decide +kernel)) rfl rfl ?_
          refine xw_iload_n (n := 50) (show xlook 57 49 = some (49, .iload_n 2, 1, 0, 0, 0, 0) from xlk (by decide +kernel)) rfl rfl ?_
          obtain ⟨j2, hj2, rr2, G2, hm2, hG2, t⟩ := t
          obtain ⟨rfl, t⟩ := t
          refine xw_callv (dk := j2) (o := o0) (as := [vi (x2)]) (show xlook 57 50 = some (50, .invokevirtual 167, 3, 55, 2, 0, 67) from xlk (by decide +kernel)) (by decide) hj2 ⟨Nat.le_of_ble_eq_true rfl, Nat.le_of_ble_eq_true rfl, Nat.le_of_ble_eq_true rfl⟩ ⟨h0.1, h0.2, by decide⟩ rfl hm2 (n := 53) rfl ?_
          show xW X d 57 53 [.ref (o0), .ref (o1), vi (x2), vi (x3)] [] G2 (xqi Q)
          refine xw_iinc (n := 56) (show xlook 57 53 = some (53, .iinc 3 1, 3, 0, 0, 0, 0) from xlk (by decide +kernel)) rfl (ls' := [.ref (o0), .ref (o1), vi (x2), vi (x3 + 1)]) rfl rfl ?_
          refine xw_goto (m := 16) (show xlook 57 56 = some (56, .goto (-40), 3, 16, 0, 0, 0) from xlk (by decide +kernel)) rfl ?_
          exact t hG2

theorem s57_59 {X : List Int32} {d : Nat} {F : XF} {Q : Int → XF → Prop} {o0 : Nat} {o1 : Nat} {x2 : Int} {x3 : Int} (hPT : xPT F) (h0 : xob 6 o0) (h1 : xob 9 o1) (t : inR ((F) (o0) 3) ∧ inR ((F) (o1) 6) ∧ (((((F) (o0) 3) < ((F) (o1) 6)) → (xPT (F) → Q ((-1)) (F))) ∧ (¬ (((F) (o0) 3) < ((F) (o1) 6)) → (xPT (F) → Q ((F) (o0) 2) (F))))) : xW X d 57 59 [.ref (o0), .ref (o1), vi (x2), vi (x3)] [] F (xqi Q) := by
  refine xw_aload_n (n := 60) (show xlook 57 59 = some (59, .aload_n 0, 1, 0, 0, 0, 0) from xlk (by decide +kernel)) rfl rfl ?_
  refine xw_geti (show xlook 57 60 = some (60, .getfield 62, 3, 6, 3, 0, 84) from xlk (by decide +kernel)) (by decide) (xobf h0 (by decide) (by decide)) rfl (n := 63) rfl ?_
  refine xw_aload_n (n := 64) (show xlook 57 63 = some (63, .aload_n 1, 1, 0, 0, 0, 0) from xlk (by decide +kernel)) rfl rfl ?_
  refine xw_geti (show xlook 57 64 = some (64, .getfield 75, 3, 9, 6, 0, 88) from xlk (by decide +kernel)) (by decide) (xobf h1 (by decide) (by decide)) rfl (n := 67) rfl ?_
  obtain ⟨q0, q1, t⟩ := t
  refine xw_icmp_lt (n := 70) (m := 77) (show xlook 57 67 = some (67, .if_icmp .lt 10, 3, 77, 0, 0, 0) from xlk (by decide +kernel)) rfl rfl q0 q1 ⟨fun c => ?_, fun c => ?_⟩
  · replace t := t.1 c
    refine xw_iconst (n := 78) (show xlook 57 77 = some (77, .iconst (-1), 1, 0, 0, 0, 0) from xlk (by decide +kernel)) rfl ?_
    exact xw_ireturn hPT (show xlook 57 78 = some (78, .ireturn, 1, 0, 0, 0, 0) from xlk (by decide +kernel)) rfl (t hPT)
  · replace t := t.2 c
    refine xw_aload_n (n := 71) (show xlook 57 70 = some (70, .aload_n 0, 1, 0, 0, 0, 0) from xlk (by decide +kernel)) rfl rfl ?_
    refine xw_geti (show xlook 57 71 = some (71, .getfield 58, 3, 6, 2, 0, 83) from xlk (by decide +kernel)) (by decide) (xobf h0 (by decide) (by decide)) rfl (n := 74) rfl ?_
    refine xw_goto (m := 78) (show xlook 57 74 = some (74, .goto 4, 3, 78, 0, 0, 0) from xlk (by decide +kernel)) rfl ?_
    exact xw_ireturn hPT (show xlook 57 78 = some (78, .ireturn, 1, 0, 0, 0, 0) from xlk (by decide +kernel)) rfl (t hPT)

theorem s58_0 {X : List Int32} {d : Nat} {F : XF} {Q : Int → XF → Prop} {o0 : Nat} {x1 : Int} {w2 : Value} {w3 : Value} (hPT : xPT F) (h0 : xob 6 o0) (t : ∃ t1 : Nat, (F) (o0) 0 = (t1 : Int) ∧ xob 9 t1 ∧ (∃ t2 : Nat, (F) (o0) 0 = (t2 : Int) ∧ xob 9 t2 ∧ (inR ((F) (o0) 2) ∧ inR ((F) (t2) 3) ∧ (inR (((F) (t1) 6) - (1)) ∧ ((((((F) (t1) 6) - (1)) < (0)) → (xPT (F) → Q (0) (F))) ∧ (¬ ((((F) (t1) 6) - (1)) < (0)) → (∃ (j3 : Nat), j3 < d ∧ xMI X j3 49 [.ref (o0), vi (((F) (t1) 6) - (1))] (F) (fun (y3 : Int) (G3 : XF) => (∃ t4 : Nat, (G3) (o0) 0 = (t4 : Int) ∧ xob 9 t4 ∧ (∃ t5 : Nat, (G3) (o0) 0 = (t5 : Int) ∧ xob 9 t5 ∧ (inR ((y3) + (((G3) (t4) 1) * ((x1) - (max ((F) (o0) 2) ((F) (t2) 3))))) ∧ inR ((G3) (t5) 0) ∧ (((((G3) (t5) 0) ≤ ((y3) + (((G3) (t4) 1) * ((x1) - (max ((F) (o0) 2) ((F) (t2) 3)))))) → (xPT (G3) → Q (0) (G3))) ∧ (¬ (((G3) (t5) 0) ≤ ((y3) + (((G3) (t4) 1) * ((x1) - (max ((F) (o0) 2) ((F) (t2) 3)))))) → (xPT (G3) → Q (1) (G3))))))))))))))) : xW X d 58 0 [.ref (o0), vi (x1), w2, w3] [] F (xqi Q) := by
  refine xw_aload_n (n := 1) (show xlook 58 0 = some (0, .aload_n 0, 1, 0, 0, 0, 0) from xlk (by decide +kernel)) rfl rfl ?_
  obtain ⟨t1, q1, ht1, t⟩ := t
  refine xw_getr (q := t1) (show xlook 58 1 = some (1, .getfield 40, 3, 6, 0, 0, 81) from xlk (by decide +kernel)) (by decide) (xobf h0 (by decide) (by decide)) rfl q1 (by have := ht1.1; omega) (n := 4) rfl ?_
  refine xw_geti (show xlook 58 4 = some (4, .getfield 75, 3, 9, 6, 0, 88) from xlk (by decide +kernel)) (by decide) (xobf ht1 (by decide) (by decide)) rfl (n := 7) rfl ?_
  refine xw_iconst (n := 8) (show xlook 58 7 = some (7, .iconst 1, 1, 0, 0, 0, 0) from xlk (by decide +kernel)) rfl ?_
  refine xw_isub (n := 9) (show xlook 58 8 = some (8, .isub, 1, 0, 0, 0, 0) from xlk (by decide +kernel)) rfl ?_
  refine xw_istore_n (n := 10) (show xlook 58 9 = some (9, .istore_n 2, 1, 0, 0, 0, 0) from xlk (by decide +kernel)) rfl (ls' := [.ref (o0), vi (x1), vi (((F) (t1) 6) - (1)), w3]) (Nat.le_of_ble_eq_true rfl) rfl ?_
  refine xw_iload_n (n := 11) (show xlook 58 10 = some (10, .iload_n 1, 1, 0, 0, 0, 0) from xlk (by decide +kernel)) rfl rfl ?_
  refine xw_aload_n (n := 12) (show xlook 58 11 = some (11, .aload_n 0, 1, 0, 0, 0, 0) from xlk (by decide +kernel)) rfl rfl ?_
  refine xw_geti (show xlook 58 12 = some (12, .getfield 58, 3, 6, 2, 0, 83) from xlk (by decide +kernel)) (by decide) (xobf h0 (by decide) (by decide)) rfl (n := 15) rfl ?_
  refine xw_aload_n (n := 16) (show xlook 58 15 = some (15, .aload_n 0, 1, 0, 0, 0, 0) from xlk (by decide +kernel)) rfl rfl ?_
  obtain ⟨t2, q1, ht2, t⟩ := t
  refine xw_getr (q := t2) (show xlook 58 16 = some (16, .getfield 40, 3, 6, 0, 0, 81) from xlk (by decide +kernel)) (by decide) (xobf h0 (by decide) (by decide)) rfl q1 (by have := ht2.1; omega) (n := 19) rfl ?_
  refine xw_geti (show xlook 58 19 = some (19, .getfield 138, 3, 9, 3, 0, 99) from xlk (by decide +kernel)) (by decide) (xobf ht2 (by decide) (by decide)) rfl (n := 22) rfl ?_
  obtain ⟨q0, q1, t⟩ := t
  refine xw_max (show xlook 58 22 = some (22, .invokestatic 135, 3, 1001, 2, 0, 61) from xlk (by decide +kernel)) rfl (Nat.le_of_ble_eq_true rfl) q0 q1 (n := 25) rfl ?_
  refine xw_isub (n := 26) (show xlook 58 25 = some (25, .isub, 1, 0, 0, 0, 0) from xlk (by decide +kernel)) rfl ?_
  refine xw_istore_n (n := 27) (show xlook 58 26 = some (26, .istore_n 3, 1, 0, 0, 0, 0) from xlk (by decide +kernel)) rfl (ls' := [.ref (o0), vi (x1), vi (((F) (t1) 6) - (1)), vi ((x1) - (max ((F) (o0) 2) ((F) (t2) 3)))]) (Nat.le_of_ble_eq_true rfl) rfl ?_
  refine xw_iload_n (n := 28) (show xlook 58 27 = some (27, .iload_n 2, 1, 0, 0, 0, 0) from xlk (by decide +kernel)) rfl rfl ?_
  obtain ⟨q0, t⟩ := t
  refine xw_if_lt (n := 31) (m := 60) (show xlook 58 28 = some (28, .ifCond .lt 32, 3, 60, 0, 0, 0) from xlk (by decide +kernel)) rfl rfl q0 ⟨fun c => ?_, fun c => ?_⟩
  · replace t := t.1 c
    refine xw_iconst (n := 61) (show xlook 58 60 = some (60, .iconst 0, 1, 0, 0, 0, 0) from xlk (by decide +kernel)) rfl ?_
    exact xw_zreturn hPT (show xlook 58 61 = some (61, .ireturn, 1, 0, 0, 0, 0) from xlk (by decide +kernel)) rfl (by decide) (t hPT)
  · replace t := t.2 c
    refine xw_aload_n (n := 32) (show xlook 58 31 = some (31, .aload_n 0, 1, 0, 0, 0, 0) from xlk (by decide +kernel)) rfl rfl ?_
    refine xw_iload_n (n := 33) (show xlook 58 32 = some (32, .iload_n 2, 1, 0, 0, 0, 0) from xlk (by decide +kernel)) rfl rfl ?_
    obtain ⟨j3, hj3, rr3, G3, hm3, hG3, t⟩ := t
    obtain ⟨y3, rfl, t⟩ := t
    refine xw_callv (dk := j3) (o := o0) (as := [vi (((F) (t1) 6) - (1))]) (show xlook 58 33 = some (33, .invokevirtual 108, 3, 49, 2, 0, 56) from xlk (by decide +kernel)) (by decide) hj3 ⟨Nat.le_of_ble_eq_true rfl, Nat.le_of_ble_eq_true rfl, Nat.le_of_ble_eq_true rfl⟩ ⟨h0.1, h0.2, by decide⟩ rfl hm3 (n := 36) rfl ?_
    show xW X d 58 36 [.ref (o0), vi (x1), vi (((F) (t1) 6) - (1)), vi ((x1) - (max ((F) (o0) 2) ((F) (t2) 3)))] [vi (y3)] G3 (xqi Q)
    refine xw_aload_n (n := 37) (show xlook 58 36 = some (36, .aload_n 0, 1, 0, 0, 0, 0) from xlk (by decide +kernel)) rfl rfl ?_
    obtain ⟨t4, q1, ht4, t⟩ := t
    refine xw_getr (q := t4) (show xlook 58 37 = some (37, .getfield 40, 3, 6, 0, 0, 81) from xlk (by decide +kernel)) (by decide) (xobf h0 (by decide) (by decide)) rfl q1 (by have := ht4.1; omega) (n := 40) rfl ?_
    refine xw_geti (show xlook 58 40 = some (40, .getfield 170, 3, 9, 1, 0, 103) from xlk (by decide +kernel)) (by decide) (xobf ht4 (by decide) (by decide)) rfl (n := 43) rfl ?_
    refine xw_iload_n (n := 44) (show xlook 58 43 = some (43, .iload_n 3, 1, 0, 0, 0, 0) from xlk (by decide +kernel)) rfl rfl ?_
    refine xw_imul (n := 45) (show xlook 58 44 = some (44, .imul, 1, 0, 0, 0, 0) from xlk (by decide +kernel)) rfl ?_
    refine xw_iadd (n := 46) (show xlook 58 45 = some (45, .iadd, 1, 0, 0, 0, 0) from xlk (by decide +kernel)) rfl ?_
    refine xw_aload_n (n := 47) (show xlook 58 46 = some (46, .aload_n 0, 1, 0, 0, 0, 0) from xlk (by decide +kernel)) rfl rfl ?_
    obtain ⟨t5, q1, ht5, t⟩ := t
    refine xw_getr (q := t5) (show xlook 58 47 = some (47, .getfield 40, 3, 6, 0, 0, 81) from xlk (by decide +kernel)) (by decide) (xobf h0 (by decide) (by decide)) rfl q1 (by have := ht5.1; omega) (n := 50) rfl ?_
    refine xw_geti (show xlook 58 50 = some (50, .getfield 173, 3, 9, 0, 0, 104) from xlk (by decide +kernel)) (by decide) (xobf ht5 (by decide) (by decide)) rfl (n := 53) rfl ?_
    obtain ⟨q0, q1, t⟩ := t
    refine xw_icmp_ge (n := 56) (m := 60) (show xlook 58 53 = some (53, .if_icmp .ge 7, 3, 60, 0, 0, 0) from xlk (by decide +kernel)) rfl rfl q0 q1 ⟨fun c => ?_, fun c => ?_⟩
    · replace t := t.1 c
      refine xw_iconst (n := 61) (show xlook 58 60 = some (60, .iconst 0, 1, 0, 0, 0, 0) from xlk (by decide +kernel)) rfl ?_
      exact xw_zreturn hG3 (show xlook 58 61 = some (61, .ireturn, 1, 0, 0, 0, 0) from xlk (by decide +kernel)) rfl (by decide) (t hG3)
    · replace t := t.2 c
      refine xw_iconst (n := 57) (show xlook 58 56 = some (56, .iconst 1, 1, 0, 0, 0, 0) from xlk (by decide +kernel)) rfl ?_
      refine xw_goto (m := 61) (show xlook 58 57 = some (57, .goto 4, 3, 61, 0, 0, 0) from xlk (by decide +kernel)) rfl ?_
      exact xw_zreturn hG3 (show xlook 58 61 = some (61, .ireturn, 1, 0, 0, 0, 0) from xlk (by decide +kernel)) rfl (by decide) (t hG3)
theorem m58 {X : List Int32} {d : Nat} {F : XF} {Q : Int → XF → Prop} {o0 : Nat} {x1 : Int} (hPT : xPT F) (h0 : xob 6 o0) (t : ∃ t1 : Nat, (F) (o0) 0 = (t1 : Int) ∧ xob 9 t1 ∧ (∃ t2 : Nat, (F) (o0) 0 = (t2 : Int) ∧ xob 9 t2 ∧ (inR ((F) (o0) 2) ∧ inR ((F) (t2) 3) ∧ (inR (((F) (t1) 6) - (1)) ∧ ((((((F) (t1) 6) - (1)) < (0)) → (xPT (F) → Q (0) (F))) ∧ (¬ ((((F) (t1) 6) - (1)) < (0)) → (∃ (j3 : Nat), j3 < d ∧ xMI X j3 49 [.ref (o0), vi (((F) (t1) 6) - (1))] (F) (fun (y3 : Int) (G3 : XF) => (∃ t4 : Nat, (G3) (o0) 0 = (t4 : Int) ∧ xob 9 t4 ∧ (∃ t5 : Nat, (G3) (o0) 0 = (t5 : Int) ∧ xob 9 t5 ∧ (inR ((y3) + (((G3) (t4) 1) * ((x1) - (max ((F) (o0) 2) ((F) (t2) 3))))) ∧ inR ((G3) (t5) 0) ∧ (((((G3) (t5) 0) ≤ ((y3) + (((G3) (t4) 1) * ((x1) - (max ((F) (o0) 2) ((F) (t2) 3)))))) → (xPT (G3) → Q (0) (G3))) ∧ (¬ (((G3) (t5) 0) ≤ ((y3) + (((G3) (t4) 1) * ((x1) - (max ((F) (o0) 2) ((F) (t2) 3)))))) → (xPT (G3) → Q (1) (G3))))))))))))))) : xMI X d 58 [.ref (o0), vi (x1)] F Q := by
  show xW X d 58 0 [.ref (o0), vi (x1), xU0, xU0] [] F (xqi Q)
  exact s58_0 hPT h0 t

theorem s59_0 {X : List Int32} {d : Nat} {F : XF} {Q : Int → XF → Prop} {o0 : Nat} {w1 : Value} {w2 : Value} (hPT : xPT F) (h0 : xob 6 o0) (t : xPT (F) → xW X d 59 2 [.ref (o0), vi (0), w2] [] (F) (xqi Q)) : xW X d 59 0 [.ref (o0), w1, w2] [] F (xqi Q) := by
  refine xw_iconst (n := 1) (show xlook 59 0 = some (0, .iconst 0, 1, 0, 0, 0, 0) from xlk (by decide +kernel)) rfl ?_
  refine xw_istore_n (n := 2) (show xlook 59 1 = some (1, .istore_n 1, 1, 0, 0, 0, 0) from xlk (by decide +kernel)) rfl (ls' := [.ref (o0), vi (0), w2]) (Nat.le_of_ble_eq_true rfl) rfl ?_
  exact t hPT
theorem m59 {X : List Int32} {d : Nat} {F : XF} {Q : Int → XF → Prop} {o0 : Nat} (hPT : xPT F) (h0 : xob 6 o0) (t : xPT (F) → xW X d 59 2 [.ref (o0), vi (0), xU0] [] (F) (xqi Q)) : xMI X d 59 [.ref (o0)] F Q := by
  show xW X d 59 0 [.ref (o0), xU0, xU0] [] F (xqi Q)
  exact s59_0 hPT h0 t

theorem s59_2 {X : List Int32} {d : Nat} {F : XF} {Q : Int → XF → Prop} {o0 : Nat} {x1 : Int} {w2 : Value} (hPT : xPT F) (h0 : xob 6 o0) (t : inR (x1) ∧ inR ((F) (o0 + 1) 0) ∧ (((((F) (o0 + 1) 0) ≤ (x1)) → (xPT (F) → Q (0) (F))) ∧ (¬ (((F) (o0 + 1) 0) ≤ (x1)) → (xPT (F) → xW X d 59 15 [.ref (o0), vi (x1), vi (0)] [] (F) (xqi Q))))) : xW X d 59 2 [.ref (o0), vi (x1), w2] [] F (xqi Q) := by
  refine xw_iload_n (n := 3) (show xlook 59 2 = some (2, .iload_n 1, 1, 0, 0, 0, 0) from xlk (by decide +kernel)) rfl rfl ?_
  refine xw_aload_n (n := 4) (show xlook 59 3 = some (3, .aload_n 0, 1, 0, 0, 0, 0) from xlk (by decide +kernel)) rfl rfl ?_
  refine xw_getr (q := o0 + 1) (show xlook 59 4 = some (4, .getfield 12, 3, 6, 1, 0, 74) from xlk (by decide +kernel)) (by decide) (xobf h0 (by decide) (by decide)) rfl (xPT_get (k := 1) (f := 1) hPT h0 (by decide)) (by have := (xtg_6_1 _ h0.1 h0.2).1; omega) (n := 7) rfl ?_
  refine xw_geti (show xlook 59 7 = some (7, .getfield 96, 3, 7, 0, 0, 93) from xlk (by decide +kernel)) (by decide) (xobf (xtg_6_1 _ h0.1 h0.2) (by decide) (by decide)) rfl (n := 10) rfl ?_
  obtain ⟨q0, q1, t⟩ := t
  refine xw_icmp_ge (n := 13) (m := 64) (show xlook 59 10 = some (10, .if_icmp .ge 54, 3, 64, 0, 0, 0) from xlk (by decide +kernel)) rfl rfl q0 q1 ⟨fun c => ?_, fun c => ?_⟩
  · replace t := t.1 c
    refine xw_iconst (n := 65) (show xlook 59 64 = some (64, .iconst 0, 1, 0, 0, 0, 0) from xlk (by decide +kernel)) rfl ?_
    exact xw_zreturn hPT (show xlook 59 65 = some (65, .ireturn, 1, 0, 0, 0, 0) from xlk (by decide +kernel)) rfl (by decide) (t hPT)
  · replace t := t.2 c
    refine xw_iconst (n := 14) (show xlook 59 13 = some (13, .iconst 0, 1, 0, 0, 0, 0) from xlk (by decide +kernel)) rfl ?_
    refine xw_istore_n (n := 15) (show xlook 59 14 = some (14, .istore_n 2, 1, 0, 0, 0, 0) from xlk (by decide +kernel)) rfl (ls' := [.ref (o0), vi (x1), vi (0)]) (Nat.le_of_ble_eq_true rfl) rfl ?_
    exact t hPT

theorem s59_15 {X : List Int32} {d : Nat} {F : XF} {Q : Int → XF → Prop} {o0 : Nat} {x1 : Int} {x2 : Int} (hPT : xPT F) (h0 : xob 6 o0) (t : ∃ t1 : Nat, (F) (o0) 0 = (t1 : Int) ∧ xob 9 t1 ∧ (inR (x2) ∧ inR ((F) (t1) 4) ∧ (((((F) (t1) 4) ≤ (x2)) → (xPT (F) → xW X d 59 2 [.ref (o0), vi (x1 + 1), vi (x2)] [] (F) (xqi Q))) ∧ (¬ (((F) (t1) 4) ≤ (x2)) → (∃ t2 : Nat, (F) (o0) 0 = (t2 : Int) ∧ xob 9 t2 ∧ ((0 ≤ (x2 : Int) ∧ (x2 : Int) < 10) ∧ (∃ (j4 : Nat), j4 < d ∧ xMI X j4 66 [.ref (o0 + 1), vi (x1), vi (x2)] (F) (fun (y4 : Int) (G4 : XF) => (∃ (j5 : Nat), j5 < d ∧ xMI X j5 10 [.ref (t2 + 1 + 6 + (x2 : Int).toNat), vi (y4)] (G4) (fun (y5 : Int) (G5 : XF) => (inR (y5) ∧ (((¬ (y5) = (0)) → (xPT (G5) → xW X d 59 15 [.ref (o0), vi (x1), vi (x2 + 1)] [] (G5) (xqi Q))) ∧ (¬ (¬ (y5) = (0)) → (xPT (G5) → Q (1) (G5))))))))))))))) : xW X d 59 15 [.ref (o0), vi (x1), vi (x2)] [] F (xqi Q) := by
  refine xw_iload_n (n := 16) (show xlook 59 15 = some (15, .iload_n 2, 1, 0, 0, 0, 0) from xlk (by decide +kernel)) rfl rfl ?_
  refine xw_aload_n (n := 17) (show xlook 59 16 = some (16, .aload_n 0, 1, 0, 0, 0, 0) from xlk (by decide +kernel)) rfl rfl ?_
  obtain ⟨t1, q1, ht1, t⟩ := t
  refine xw_getr (q := t1) (show xlook 59 17 = some (17, .getfield 40, 3, 6, 0, 0, 81) from xlk (by decide +kernel)) (by decide) (xobf h0 (by decide) (by decide)) rfl q1 (by have := ht1.1; omega) (n := 20) rfl ?_
  refine xw_geti (show xlook 59 20 = some (20, .getfield 86, 3, 9, 4, 0, 91) from xlk (by decide +kernel)) (by decide) (xobf ht1 (by decide) (by decide)) rfl (n := 23) rfl ?_
  obtain ⟨q0, q1, t⟩ := t
  refine xw_icmp_ge (n := 26) (m := 58) (show xlook 59 23 = some (23, .if_icmp .ge 35, 3, 58, 0, 0, 0) from xlk (by decide +kernel)) rfl rfl q0 q1 ⟨fun c => ?_, fun c => ?_⟩
  · replace t := t.1 c
    refine xw_iinc (n := 61) (show xlook 59 58 = some (58, .iinc 1 1, 3, 0, 0, 0, 0) from xlk (by decide +kernel)) rfl (ls' := [.ref (o0), vi (x1 + 1), vi (x2)]) rfl rfl ?_
    refine xw_goto (m := 2) (show xlook 59 61 = some (61, .goto (-59), 3, 2, 0, 0, 0) from xlk (by decide +kernel)) rfl ?_
    exact t hPT
  · replace t := t.2 c
    refine xw_aload_n (n := 27) (show xlook 59 26 = some (26, .aload_n 0, 1, 0, 0, 0, 0) from xlk (by decide +kernel)) rfl rfl ?_
    obtain ⟨t2, q1, ht2, t⟩ := t
    refine xw_getr (q := t2) (show xlook 59 27 = some (27, .getfield 40, 3, 6, 0, 0, 81) from xlk (by decide +kernel)) (by decide) (xobf h0 (by decide) (by decide)) rfl q1 (by have := ht2.1; omega) (n := 30) rfl ?_
    refine xw_getr (q := t2 + 1) (show xlook 59 30 = some (30, .getfield 92, 3, 9, 5, 0, 92) from xlk (by decide +kernel)) (by decide) (xobf ht2 (by decide) (by decide)) rfl (xPT_get (k := 5) (f := 1) hPT ht2 (by decide)) (by have := (xtg_9_5 _ ht2.1 ht2.2).1.1; omega) (n := 33) rfl ?_
    refine xw_iload_n (n := 34) (show xlook 59 33 = some (33, .iload_n 2, 1, 0, 0, 0, 0) from xlk (by decide +kernel)) rfl rfl ?_
    obtain ⟨q1, t⟩ := t
    have hb3 : xob 1 (t2 + 1 + 6 + (x2 : Int).toNat) := xel15 _ (xtg_9_5 _ ht2.1 ht2.2).1.1 (xtg_9_5 _ ht2.1 ht2.2).1.2 _ (xidx10 q1)
    refine xw_aald (q := t2 + 1 + 6 + (x2 : Int).toNat) (show xlook 59 34 = some (34, .aaload, 1, 0, 0, 0, 0) from xlk (by decide +kernel)) ⟨(xtg_9_5 _ ht2.1 ht2.2).1.1, (Or.inl (xtg_9_5 _ ht2.1 ht2.2).1.2)⟩ (by rw [xln15 _ (xtg_9_5 _ ht2.1 ht2.2).1.1 (Or.inl (xtg_9_5 _ ht2.1 ht2.2).1.2)]; exact q1) (xPT_el hPT (Or.inl (xtg_9_5 _ ht2.1 ht2.2).1) q1.1 q1.2) (by have := hb3.1; omega) (n := 35) rfl ?_
    refine xw_aload_n (n := 36) (show xlook 59 35 = some (35, .aload_n 0, 1, 0, 0, 0, 0) from xlk (by decide +kernel)) rfl rfl ?_
    refine xw_getr (q := o0 + 1) (show xlook 59 36 = some (36, .getfield 12, 3, 6, 1, 0, 74) from xlk (by decide +kernel)) (by decide) (xobf h0 (by decide) (by decide)) rfl (xPT_get (k := 1) (f := 1) hPT h0 (by decide)) (by have := (xtg_6_1 _ h0.1 h0.2).1; omega) (n := 39) rfl ?_
    refine xw_iload_n (n := 40) (show xlook 59 39 = some (39, .iload_n 1, 1, 0, 0, 0, 0) from xlk (by decide +kernel)) rfl rfl ?_
    refine xw_iload_n (n := 41) (show xlook 59 40 = some (40, .iload_n 2, 1, 0, 0, 0, 0) from xlk (by decide +kernel)) rfl rfl ?_
    obtain ⟨j4, hj4, rr4, G4, hm4, hG4, t⟩ := t
    obtain ⟨y4, rfl, t⟩ := t
    refine xw_callv (dk := j4) (o := o0 + 1) (as := [vi (x1), vi (x2)]) (show xlook 59 41 = some (41, .invokevirtual 150, 3, 66, 3, 0, 62) from xlk (by decide +kernel)) (by decide) hj4 ⟨Nat.le_of_ble_eq_true rfl, Nat.le_of_ble_eq_true rfl, Nat.le_of_ble_eq_true rfl⟩ ⟨(xtg_6_1 _ h0.1 h0.2).1, (xtg_6_1 _ h0.1 h0.2).2, by decide⟩ rfl hm4 (n := 44) rfl ?_
    show xW X d 59 44 [.ref (o0), vi (x1), vi (x2)] [vi (y4), .ref (t2 + 1 + 6 + (x2 : Int).toNat)] G4 (xqi Q)
    obtain ⟨j5, hj5, rr5, G5, hm5, hG5, t⟩ := t
    obtain ⟨y5, rfl, t⟩ := t
    refine xw_callv (dk := j5) (o := t2 + 1 + 6 + (x2 : Int).toNat) (as := [vi (y4)]) (show xlook 59 44 = some (44, .invokevirtual 176, 3, 10, 2, 0, 68) from xlk (by decide +kernel)) (by decide) hj5 ⟨Nat.le_of_ble_eq_true rfl, Nat.le_of_ble_eq_true rfl, Nat.le_of_ble_eq_true rfl⟩ ⟨hb3.1, hb3.2, by decide⟩ rfl hm5 (n := 47) rfl ?_
    show xW X d 59 47 [.ref (o0), vi (x1), vi (x2)] [vi (y5)] G5 (xqi Q)
    obtain ⟨q0, t⟩ := t
    refine xw_if_ne (n := 50) (m := 52) (show xlook 59 47 = some (47, .ifCond .ne 5, 3, 52, 0, 0, 0) from xlk (by decide +kernel)) rfl rfl q0 ⟨fun c => ?_, fun c => ?_⟩
    · replace t := t.1 c
      refine xw_iinc (n := 55) (show xlook 59 52 = some (52, .iinc 2 1, 3, 0, 0, 0, 0) from xlk (by decide +kernel)) rfl (ls' := [.ref (o0), vi (x1), vi (x2 + 1)]) rfl rfl ?_
      refine xw_goto (m := 15) (show xlook 59 55 = some (55, .goto (-40), 3, 15, 0, 0, 0) from xlk (by decide +kernel)) rfl ?_
      exact t hG5
    · replace t := t.2 c
      refine xw_iconst (n := 51) (show xlook 59 50 = some (50, .iconst 1, 1, 0, 0, 0, 0) from xlk (by decide +kernel)) rfl ?_
      exact xw_zreturn hG5 (show xlook 59 51 = some (51, .ireturn, 1, 0, 0, 0, 0) from xlk (by decide +kernel)) rfl (by decide) (t hG5)

theorem s60_0 {X : List Int32} {d : Nat} {F : XF} {Q : XF → Prop} {o0 : Nat} {w1 : Value} {w2 : Value} {w3 : Value} (hPT : xPT F) (h0 : xob 6 o0) (t : xPT (xup (F) (o0) 4 (0)) → xW X d 60 7 [.ref (o0), vi (0), w2, w3] [] (xup (F) (o0) 4 (0)) (xqv Q)) : xW X d 60 0 [.ref (o0), w1, w2, w3] [] F (xqv Q) := by
  refine xw_aload_n (n := 1) (show xlook 60 0 = some (0, .aload_n 0, 1, 0, 0, 0, 0) from xlk (by decide +kernel)) rfl rfl ?_
  refine xw_iconst (n := 2) (show xlook 60 1 = some (1, .iconst 0, 1, 0, 0, 0, 0) from xlk (by decide +kernel)) rfl ?_
  refine xw_putz (show xlook 60 2 = some (2, .putfield 65, 3, 6, 4, 0, 85) from xlk (by decide +kernel)) (xobf h0 (by decide) (by decide)) rfl (by decide) (n := 5) rfl ?_
  refine xw_iconst (n := 6) (show xlook 60 5 = some (5, .iconst 0, 1, 0, 0, 0, 0) from xlk (by decide +kernel)) rfl ?_
  refine xw_istore_n (n := 7) (show xlook 60 6 = some (6, .istore_n 1, 1, 0, 0, 0, 0) from xlk (by decide +kernel)) rfl (ls' := [.ref (o0), vi (0), w2, w3]) (Nat.le_of_ble_eq_true rfl) rfl ?_
  exact t (xPT_fld (k := 4) hPT h0 (by decide) (by decide))
theorem m60 {X : List Int32} {d : Nat} {F : XF} {Q : XF → Prop} {o0 : Nat} (hPT : xPT F) (h0 : xob 6 o0) (t : xPT (xup (F) (o0) 4 (0)) → xW X d 60 7 [.ref (o0), vi (0), xU0, xU0] [] (xup (F) (o0) 4 (0)) (xqv Q)) : xMV X d 60 [.ref (o0)] F Q := by
  show xW X d 60 0 [.ref (o0), xU0, xU0, xU0] [] F (xqv Q)
  exact s60_0 hPT h0 t

theorem s60_7 {X : List Int32} {d : Nat} {F : XF} {Q : XF → Prop} {o0 : Nat} {x1 : Int} {w2 : Value} {w3 : Value} (hPT : xPT F) (h0 : xob 6 o0) (t : inR (x1) ∧ inR ((F) (o0) 3) ∧ (((((F) (o0) 3) ≤ (x1)) → (∃ t1 : Nat, (F) (o0) 0 = (t1 : Int) ∧ xob 9 t1 ∧ (inR ((F) (o0) 2) ∧ inR ((F) (t1) 3) ∧ (((((F) (t1) 3) ≤ ((F) (o0) 2)) → (∃ t2 : Nat, (F) (o0) 0 = (t2 : Int) ∧ xob 9 t2 ∧ (∃ (j3 : Nat), j3 < d ∧ xMI X j3 75 [.ref (t2), vi ((F) (o0) 2)] (F) (fun (y3 : Int) (G3 : XF) => (∃ (j4 : Nat), j4 < d ∧ xMI X j4 61 [.ref (o0)] (G3) (fun (y4 : Int) (G4 : XF) => (xPT (G4) → xW X d 60 94 [.ref (o0), vi (y3), vi (y4), vi ((G4) (o0) 3)] [] (G4) (xqv Q)))))))) ∧ (¬ (((F) (t1) 3) ≤ ((F) (o0) 2)) → (xPT (F) → xW X d 60 47 [.ref (o0), vi ((F) (o0) 3), w2, w3] [] (F) (xqv Q))))))) ∧ (¬ (((F) (o0) 3) ≤ (x1)) → ((0 ≤ (x1) ∧ (x1) < 30) ∧ (xPT (xup (F) (o0 + 8) (x1) (0)) → xW X d 60 7 [.ref (o0), vi (x1 + 1), w2, w3] [] (xup (F) (o0 + 8) (x1) (0)) (xqv Q)))))) : xW X d 60 7 [.ref (o0), vi (x1), w2, w3] [] F (xqv Q) := by
  refine xw_iload_n (n := 8) (show xlook 60 7 = some (7, .iload_n 1, 1, 0, 0, 0, 0) from xlk (by decide +kernel)) rfl rfl ?_
  refine xw_aload_n (n := 9) (show xlook 60 8 = some (8, .aload_n 0, 1, 0, 0, 0, 0) from xlk (by decide +kernel)) rfl rfl ?_
  refine xw_geti (show xlook 60 9 = some (9, .getfield 62, 3, 6, 3, 0, 84) from xlk (by decide +kernel)) (by decide) (xobf h0 (by decide) (by decide)) rfl (n := 12) rfl ?_
  obtain ⟨q0, q1, t⟩ := t
  refine xw_icmp_ge (n := 15) (m := 28) (show xlook 60 12 = some (12, .if_icmp .ge 16, 3, 28, 0, 0, 0) from xlk (by decide +kernel)) rfl rfl q0 q1 ⟨fun c => ?_, fun c => ?_⟩
  · replace t := t.1 c
    refine xw_aload_n (n := 29) (show xlook 60 28 = some (28, .aload_n 0, 1, 0, 0, 0, 0) from xlk (by decide +kernel)) rfl rfl ?_
    refine xw_geti (show xlook 60 29 = some (29, .getfield 58, 3, 6, 2, 0, 83) from xlk (by decide +kernel)) (by decide) (xobf h0 (by decide) (by decide)) rfl (n := 32) rfl ?_
    refine xw_aload_n (n := 33) (show xlook 60 32 = some (32, .aload_n 0, 1, 0, 0, 0, 0) from xlk (by decide +kernel)) rfl rfl ?_
    obtain ⟨t1, q1, ht1, t⟩ := t
    refine xw_getr (q := t1) (show xlook 60 33 = some (33, .getfield 40, 3, 6, 0, 0, 81) from xlk (by decide +kernel)) (by decide) (xobf h0 (by decide) (by decide)) rfl q1 (by have := ht1.1; omega) (n := 36) rfl ?_
    refine xw_geti (show xlook 60 36 = some (36, .getfield 138, 3, 9, 3, 0, 99) from xlk (by decide +kernel)) (by decide) (xobf ht1 (by decide) (by decide)) rfl (n := 39) rfl ?_
    obtain ⟨q0, q1, t⟩ := t
    refine xw_icmp_ge (n := 42) (m := 72) (show xlook 60 39 = some (39, .if_icmp .ge 33, 3, 72, 0, 0, 0) from xlk (by decide +kernel)) rfl rfl q0 q1 ⟨fun c => ?_, fun c => ?_⟩
    · replace t := t.1 c
      refine xw_aload_n (n := 73) (show xlook 60 72 = some (72, .aload_n 0, 1, 0, 0, 0, 0) from xlk (by decide +kernel)) rfl rfl ?_
      obtain ⟨t2, q1, ht2, t⟩ := t
      refine xw_getr (q := t2) (show xlook 60 73 = some (73, .getfield 40, 3, 6, 0, 0, 81) from xlk (by decide +kernel)) (by decide) (xobf h0 (by decide) (by decide)) rfl q1 (by have := ht2.1; omega) (n := 76) rfl ?_
      refine xw_aload_n (n := 77) (show xlook 60 76 = some (76, .aload_n 0, 1, 0, 0, 0, 0) from xlk (by decide +kernel)) rfl rfl ?_
      refine xw_geti (show xlook 60 77 = some (77, .getfield 58, 3, 6, 2, 0, 83) from xlk (by decide +kernel)) (by decide) (xobf h0 (by decide) (by decide)) rfl (n := 80) rfl ?_
      obtain ⟨j3, hj3, rr3, G3, hm3, hG3, t⟩ := t
      obtain ⟨y3, rfl, t⟩ := t
      refine xw_callv (dk := j3) (o := t2) (as := [vi ((F) (o0) 2)]) (show xlook 60 80 = some (80, .invokevirtual 179, 3, 75, 2, 0, 69) from xlk (by decide +kernel)) (by decide) hj3 ⟨Nat.le_of_ble_eq_true rfl, Nat.le_of_ble_eq_true rfl, Nat.le_of_ble_eq_true rfl⟩ ⟨ht2.1, ht2.2, by decide⟩ rfl hm3 (n := 83) rfl ?_
      show xW X d 60 83 [.ref (o0), vi (x1), w2, w3] [vi (y3)] G3 (xqv Q)
      refine xw_istore_n (n := 84) (show xlook 60 83 = some (83, .istore_n 1, 1, 0, 0, 0, 0) from xlk (by decide +kernel)) rfl (ls' := [.ref (o0), vi (y3), w2, w3]) (Nat.le_of_ble_eq_true rfl) rfl ?_
      refine xw_aload_n (n := 85) (show xlook 60 84 = some (84, .aload_n 0, 1, 0, 0, 0, 0) from xlk (by decide +kernel)) rfl rfl ?_
      obtain ⟨j4, hj4, rr4, G4, hm4, hG4, t⟩ := t
      obtain ⟨y4, rfl, t⟩ := t
      refine xw_callv (dk := j4) (o := o0) (as := []) (show xlook 60 85 = some (85, .invokevirtual 182, 3, 61, 1, 0, 70) from xlk (by decide +kernel)) (by decide) hj4 ⟨Nat.le_of_ble_eq_true rfl, Nat.le_of_ble_eq_true rfl, Nat.le_of_ble_eq_true rfl⟩ ⟨h0.1, h0.2, by decide⟩ rfl hm4 (n := 88) rfl ?_
      show xW X d 60 88 [.ref (o0), vi (y3), w2, w3] [vi (y4)] G4 (xqv Q)
      refine xw_istore_n (n := 89) (show xlook 60 88 = some (88, .istore_n 2, 1, 0, 0, 0, 0) from xlk (by decide +kernel)) rfl (ls' := [.ref (o0), vi (y3), vi (y4), w3]) (Nat.le_of_ble_eq_true rfl) rfl ?_
      refine xw_aload_n (n := 90) (show xlook 60 89 = some (89, .aload_n 0, 1, 0, 0, 0, 0) from xlk (by decide +kernel)) rfl rfl ?_
      refine xw_geti (show xlook 60 90 = some (90, .getfield 62, 3, 6, 3, 0, 84) from xlk (by decide +kernel)) (by decide) (xobf h0 (by decide) (by decide)) rfl (n := 93) rfl ?_
      refine xw_istore_n (n := 94) (show xlook 60 93 = some (93, .istore_n 3, 1, 0, 0, 0, 0) from xlk (by decide +kernel)) rfl (ls' := [.ref (o0), vi (y3), vi (y4), vi ((G4) (o0) 3)]) (Nat.le_of_ble_eq_true rfl) rfl ?_
      exact t hG4
    · replace t := t.2 c
      refine xw_aload_n (n := 43) (show xlook 60 42 = some (42, .aload_n 0, 1, 0, 0, 0, 0) from xlk (by decide +kernel)) rfl rfl ?_
      refine xw_geti (show xlook 60 43 = some (43, .getfield 62, 3, 6, 3, 0, 84) from xlk (by decide +kernel)) (by decide) (xobf h0 (by decide) (by decide)) rfl (n := 46) rfl ?_
      refine xw_istore_n (n := 47) (show xlook 60 46 = some (46, .istore_n 1, 1, 0, 0, 0, 0) from xlk (by decide +kernel)) rfl (ls' := [.ref (o0), vi ((F) (o0) 3), w2, w3]) (Nat.le_of_ble_eq_true rfl) rfl ?_
      exact t hPT
  · replace t := t.2 c
    refine xw_aload_n (n := 16) (show xlook 60 15 = some (15, .aload_n 0, 1, 0, 0, 0, 0) from xlk (by decide +kernel)) rfl rfl ?_
    refine xw_getr (q := o0 + 8) (show xlook 60 16 = some (16, .getfield 22, 3, 6, 7, 0, 76) from xlk (by decide +kernel)) (by decide) (xobf h0 (by decide) (by decide)) rfl (xPT_get (k := 7) (f := 8) hPT h0 (by decide)) (by have := (xtg_6_7 _ h0.1 h0.2).1.1; omega) (n := 19) rfl ?_
    refine xw_iload_n (n := 20) (show xlook 60 19 = some (19, .iload_n 1, 1, 0, 0, 0, 0) from xlk (by decide +kernel)) rfl rfl ?_
    refine xw_iconst (n := 21) (show xlook 60 20 = some (20, .iconst 0, 1, 0, 0, 0, 0) from xlk (by decide +kernel)) rfl ?_
    obtain ⟨q1, t⟩ := t
    refine xw_iast (show xlook 60 21 = some (21, .iastore, 1, 0, 0, 0, 0) from xlk (by decide +kernel)) (xtg_6_7 _ h0.1 h0.2).1 (by rw [(xtg_6_7 _ h0.1 h0.2).2]; exact q1) (n := 22) rfl ?_
    refine xw_iinc (n := 25) (show xlook 60 22 = some (22, .iinc 1 1, 3, 0, 0, 0, 0) from xlk (by decide +kernel)) rfl (ls' := [.ref (o0), vi (x1 + 1), w2, w3]) rfl rfl ?_
    refine xw_goto (m := 7) (show xlook 60 25 = some (25, .goto (-18), 3, 7, 0, 0, 0) from xlk (by decide +kernel)) rfl ?_
    exact t (xPT_arr hPT (Or.inl (xtg_6_7 _ h0.1 h0.2).1.2))

theorem s60_47 {X : List Int32} {d : Nat} {F : XF} {Q : XF → Prop} {o0 : Nat} {x1 : Int} {w2 : Value} {w3 : Value} (hPT : xPT F) (h0 : xob 6 o0) (t : ∃ t1 : Nat, (F) (o0) 0 = (t1 : Int) ∧ xob 9 t1 ∧ (inR (x1) ∧ inR ((F) (t1) 6) ∧ (((((F) (t1) 6) ≤ (x1)) → (xPT (F) → Q (F))) ∧ (¬ (((F) (t1) 6) ≤ (x1)) → ((0 ≤ (x1) ∧ (x1) < 30) ∧ (xPT (xup (F) (o0 + 8) (x1) (1)) → xW X d 60 47 [.ref (o0), vi (x1 + 1), w2, w3] [] (xup (F) (o0 + 8) (x1) (1)) (xqv Q))))))) : xW X d 60 47 [.ref (o0), vi (x1), w2, w3] [] F (xqv Q) := by
  refine xw_iload_n (n := 48) (show xlook 60 47 = some (47, .iload_n 1, 1, 0, 0, 0, 0) from xlk (by decide +kernel)) rfl rfl ?_
  refine xw_aload_n (n := 49) (show xlook 60 48 = some (48, .aload_n 0, 1, 0, 0, 0, 0) from xlk (by decide +kernel)) rfl rfl ?_
  obtain ⟨t1, q1, ht1, t⟩ := t
  refine xw_getr (q := t1) (show xlook 60 49 = some (49, .getfield 40, 3, 6, 0, 0, 81) from xlk (by decide +kernel)) (by decide) (xobf h0 (by decide) (by decide)) rfl q1 (by have := ht1.1; omega) (n := 52) rfl ?_
  refine xw_geti (show xlook 60 52 = some (52, .getfield 75, 3, 9, 6, 0, 88) from xlk (by decide +kernel)) (by decide) (xobf ht1 (by decide) (by decide)) rfl (n := 55) rfl ?_
  obtain ⟨q0, q1, t⟩ := t
  refine xw_icmp_ge (n := 58) (m := 71) (show xlook 60 55 = some (55, .if_icmp .ge 16, 3, 71, 0, 0, 0) from xlk (by decide +kernel)) rfl rfl q0 q1 ⟨fun c => ?_, fun c => ?_⟩
  · replace t := t.1 c
    exact xw_return hPT (show xlook 60 71 = some (71, .return_, 1, 0, 0, 0, 0) from xlk (by decide +kernel)) rfl (t hPT)
  · replace t := t.2 c
    refine xw_aload_n (n := 59) (show xlook 60 58 = some (58, .aload_n 0, 1, 0, 0, 0, 0) from xlk (by decide +kernel)) rfl rfl ?_
    refine xw_getr (q := o0 + 8) (show xlook 60 59 = some (59, .getfield 22, 3, 6, 7, 0, 76) from xlk (by decide +kernel)) (by decide) (xobf h0 (by decide) (by decide)) rfl (xPT_get (k := 7) (f := 8) hPT h0 (by decide)) (by have := (xtg_6_7 _ h0.1 h0.2).1.1; omega) (n := 62) rfl ?_
    refine xw_iload_n (n := 63) (show xlook 60 62 = some (62, .iload_n 1, 1, 0, 0, 0, 0) from xlk (by decide +kernel)) rfl rfl ?_
    refine xw_iconst (n := 64) (show xlook 60 63 = some (63, .iconst 1, 1, 0, 0, 0, 0) from xlk (by decide +kernel)) rfl ?_
    obtain ⟨q1, t⟩ := t
    refine xw_iast (show xlook 60 64 = some (64, .iastore, 1, 0, 0, 0, 0) from xlk (by decide +kernel)) (xtg_6_7 _ h0.1 h0.2).1 (by rw [(xtg_6_7 _ h0.1 h0.2).2]; exact q1) (n := 65) rfl ?_
    refine xw_iinc (n := 68) (show xlook 60 65 = some (65, .iinc 1 1, 3, 0, 0, 0, 0) from xlk (by decide +kernel)) rfl (ls' := [.ref (o0), vi (x1 + 1), w2, w3]) rfl rfl ?_
    refine xw_goto (m := 47) (show xlook 60 68 = some (68, .goto (-21), 3, 47, 0, 0, 0) from xlk (by decide +kernel)) rfl ?_
    exact t (xPT_arr hPT (Or.inl (xtg_6_7 _ h0.1 h0.2).1.2))

theorem s60_94 {X : List Int32} {d : Nat} {F : XF} {Q : XF → Prop} {o0 : Nat} {x1 : Int} {x2 : Int} {x3 : Int} (hPT : xPT F) (h0 : xob 6 o0) (t : ∃ t1 : Nat, (F) (o0) 0 = (t1 : Int) ∧ xob 9 t1 ∧ (inR (x3) ∧ inR ((F) (t1) 6) ∧ (((((F) (t1) 6) ≤ (x3)) → (xPT (F) → Q (F))) ∧ (¬ (((F) (t1) 6) ≤ (x3)) → (inR (xand (xshr (x1) (x3)) (1)) ∧ ((((xand (xshr (x1) (x3)) (1)) = (0)) → (∃ (j2 : Nat), j2 < d ∧ xMV X j2 62 [.ref (o0), vi (x3), vi (x2)] (F) (fun (G2 : XF) => (xPT (G2) → xW X d 60 94 [.ref (o0), vi (x1), vi (x2), vi (x3 + 1)] [] (G2) (xqv Q))))) ∧ (¬ ((xand (xshr (x1) (x3)) (1)) = (0)) → ((0 ≤ (x3) ∧ (x3) < 30) ∧ (xPT (xup (F) (o0 + 8) (x3) (2)) → xW X d 60 94 [.ref (o0), vi (x1), vi (x2), vi (x3 + 1)] [] (xup (F) (o0 + 8) (x3) (2)) (xqv Q)))))))))) : xW X d 60 94 [.ref (o0), vi (x1), vi (x2), vi (x3)] [] F (xqv Q) := by
  refine xw_iload_n (n := 95) (show xlook 60 94 = some (94, .iload_n 3, 1, 0, 0, 0, 0) from xlk (by decide +kernel)) rfl rfl ?_
  refine xw_aload_n (n := 96) (show xlook 60 95 = some (95, .aload_n 0, 1, 0, 0, 0, 0) from xlk (by decide +kernel)) rfl rfl ?_
  obtain ⟨t1, q1, ht1, t⟩ := t
  refine xw_getr (q := t1) (show xlook 60 96 = some (96, .getfield 40, 3, 6, 0, 0, 81) from xlk (by decide +kernel)) (by decide) (xobf h0 (by decide) (by decide)) rfl q1 (by have := ht1.1; omega) (n := 99) rfl ?_
  refine xw_geti (show xlook 60 99 = some (99, .getfield 75, 3, 9, 6, 0, 88) from xlk (by decide +kernel)) (by decide) (xobf ht1 (by decide) (by decide)) rfl (n := 102) rfl ?_
  obtain ⟨q0, q1, t⟩ := t
  refine xw_icmp_ge (n := 105) (m := 135) (show xlook 60 102 = some (102, .if_icmp .ge 33, 3, 135, 0, 0, 0) from xlk (by decide +kernel)) rfl rfl q0 q1 ⟨fun c => ?_, fun c => ?_⟩
  · replace t := t.1 c
    exact xw_return hPT (show xlook 60 135 = some (135, .return_, 1, 0, 0, 0, 0) from xlk (by decide +kernel)) rfl (t hPT)
  · replace t := t.2 c
    refine xw_iload_n (n := 106) (show xlook 60 105 = some (105, .iload_n 1, 1, 0, 0, 0, 0) from xlk (by decide +kernel)) rfl rfl ?_
    refine xw_iload_n (n := 107) (show xlook 60 106 = some (106, .iload_n 3, 1, 0, 0, 0, 0) from xlk (by decide +kernel)) rfl rfl ?_
    refine xw_ishr (n := 108) (show xlook 60 107 = some (107, .ishr, 1, 0, 0, 0, 0) from xlk (by decide +kernel)) rfl ?_
    refine xw_iconst (n := 109) (show xlook 60 108 = some (108, .iconst 1, 1, 0, 0, 0, 0) from xlk (by decide +kernel)) rfl ?_
    refine xw_iand (n := 110) (show xlook 60 109 = some (109, .iand, 1, 0, 0, 0, 0) from xlk (by decide +kernel)) rfl ?_
    obtain ⟨q0, t⟩ := t
    refine xw_if_eq (n := 113) (m := 123) (show xlook 60 110 = some (110, .ifCond .eq 13, 3, 123, 0, 0, 0) from xlk (by decide +kernel)) rfl rfl q0 ⟨fun c => ?_, fun c => ?_⟩
    · replace t := t.1 c
      refine xw_aload_n (n := 124) (show xlook 60 123 = some (123, .aload_n 0, 1, 0, 0, 0, 0) from xlk (by decide +kernel)) rfl rfl ?_
      refine xw_iload_n (n := 125) (show xlook 60 124 = some (124, .iload_n 3, 1, 0, 0, 0, 0) from xlk (by decide +kernel)) rfl rfl ?_
      refine xw_iload_n (n := 126) (show xlook 60 125 = some (125, .iload_n 2, 1, 0, 0, 0, 0) from xlk (by decide +kernel)) rfl rfl ?_
      obtain ⟨j2, hj2, rr2, G2, hm2, hG2, t⟩ := t
      obtain ⟨rfl, t⟩ := t
      refine xw_callv (dk := j2) (o := o0) (as := [vi (x3), vi (x2)]) (show xlook 60 126 = some (126, .invokevirtual 185, 3, 62, 3, 0, 71) from xlk (by decide +kernel)) (by decide) hj2 ⟨Nat.le_of_ble_eq_true rfl, Nat.le_of_ble_eq_true rfl, Nat.le_of_ble_eq_true rfl⟩ ⟨h0.1, h0.2, by decide⟩ rfl hm2 (n := 129) rfl ?_
      show xW X d 60 129 [.ref (o0), vi (x1), vi (x2), vi (x3)] [] G2 (xqv Q)
      refine xw_iinc (n := 132) (show xlook 60 129 = some (129, .iinc 3 1, 3, 0, 0, 0, 0) from xlk (by decide +kernel)) rfl (ls' := [.ref (o0), vi (x1), vi (x2), vi (x3 + 1)]) rfl rfl ?_
      refine xw_goto (m := 94) (show xlook 60 132 = some (132, .goto (-38), 3, 94, 0, 0, 0) from xlk (by decide +kernel)) rfl ?_
      exact t hG2
    · replace t := t.2 c
      refine xw_aload_n (n := 114) (show xlook 60 113 = some (113, .aload_n 0, 1, 0, 0, 0, 0) from xlk (by decide +kernel)) rfl rfl ?_
      refine xw_getr (q := o0 + 8) (show xlook 60 114 = some (114, .getfield 22, 3, 6, 7, 0, 76) from xlk (by decide +kernel)) (by decide) (xobf h0 (by decide) (by decide)) rfl (xPT_get (k := 7) (f := 8) hPT h0 (by decide)) (by have := (xtg_6_7 _ h0.1 h0.2).1.1; omega) (n := 117) rfl ?_
      refine xw_iload_n (n := 118) (show xlook 60 117 = some (117, .iload_n 3, 1, 0, 0, 0, 0) from xlk (by decide +kernel)) rfl rfl ?_
      refine xw_iconst (n := 119) (show xlook 60 118 = some (118, .iconst 2, 1, 0, 0, 0, 0) from xlk (by decide +kernel)) rfl ?_
      obtain ⟨q1, t⟩ := t
      refine xw_iast (show xlook 60 119 = some (119, .iastore, 1, 0, 0, 0, 0) from xlk (by decide +kernel)) (xtg_6_7 _ h0.1 h0.2).1 (by rw [(xtg_6_7 _ h0.1 h0.2).2]; exact q1) (n := 120) rfl ?_
      refine xw_goto (m := 129) (show xlook 60 120 = some (120, .goto 9, 3, 129, 0, 0, 0) from xlk (by decide +kernel)) rfl ?_
      refine xw_iinc (n := 132) (show xlook 60 129 = some (129, .iinc 3 1, 3, 0, 0, 0, 0) from xlk (by decide +kernel)) rfl (ls' := [.ref (o0), vi (x1), vi (x2), vi (x3 + 1)]) rfl rfl ?_
      refine xw_goto (m := 94) (show xlook 60 132 = some (132, .goto (-38), 3, 94, 0, 0, 0) from xlk (by decide +kernel)) rfl ?_
      exact t (xPT_arr hPT (Or.inl (xtg_6_7 _ h0.1 h0.2).1.2))

theorem s61_0 {X : List Int32} {d : Nat} {F : XF} {Q : Int → XF → Prop} {o0 : Nat} {w1 : Value} (hPT : xPT F) (h0 : xob 6 o0) (t : ∃ t1 : Nat, (F) (o0) 0 = (t1 : Int) ∧ xob 9 t1 ∧ (inR ((F) (t1) 9) ∧ (((((F) (t1) 9) = (0)) → (xPT (F) → Q (1) (F))) ∧ (¬ (((F) (t1) 9) = (0)) → (inR ((F) (o0) 3) ∧ (((((F) (o0) 3) ≤ (0)) → (xPT (F) → xW X d 61 21 [.ref (o0), vi (1)] [] (F) (xqi Q))) ∧ (¬ (((F) (o0) 3) ≤ (0)) → (xPT (F) → Q (1) (F))))))))) : xW X d 61 0 [.ref (o0), w1] [] F (xqi Q) := by
  refine xw_aload_n (n := 1) (show xlook 61 0 = some (0, .aload_n 0, 1, 0, 0, 0, 0) from xlk (by decide +kernel)) rfl rfl ?_
  obtain ⟨t1, q1, ht1, t⟩ := t
  refine xw_getr (q := t1) (show xlook 61 1 = some (1, .getfield 40, 3, 6, 0, 0, 81) from xlk (by decide +kernel)) (by decide) (xobf h0 (by decide) (by decide)) rfl q1 (by have := ht1.1; omega) (n := 4) rfl ?_
  refine xw_geti (show xlook 61 4 = some (4, .getfield 189, 3, 9, 9, 0, 105) from xlk (by decide +kernel)) (by decide) (xobf ht1 (by decide) (by decide)) rfl (n := 7) rfl ?_
  obtain ⟨q0, t⟩ := t
  refine xw_if_eq (n := 10) (m := 17) (show xlook 61 7 = some (7, .ifCond .eq 10, 3, 17, 0, 0, 0) from xlk (by decide +kernel)) rfl rfl q0 ⟨fun c => ?_, fun c => ?_⟩
  · replace t := t.1 c
    refine xw_iconst (n := 18) (show xlook 61 17 = some (17, .iconst 1, 1, 0, 0, 0, 0) from xlk (by decide +kernel)) rfl ?_
    exact xw_zreturn hPT (show xlook 61 18 = some (18, .ireturn, 1, 0, 0, 0, 0) from xlk (by decide +kernel)) rfl (by decide) (t hPT)
  · replace t := t.2 c
    refine xw_aload_n (n := 11) (show xlook 61 10 = some (10, .aload_n 0, 1, 0, 0, 0, 0) from xlk (by decide +kernel)) rfl rfl ?_
    refine xw_geti (show xlook 61 11 = some (11, .getfield 62, 3, 6, 3, 0, 84) from xlk (by decide +kernel)) (by decide) (xobf h0 (by decide) (by decide)) rfl (n := 14) rfl ?_
    obtain ⟨q0, t⟩ := t
    refine xw_if_le (n := 17) (m := 19) (show xlook 61 14 = some (14, .ifCond .le 5, 3, 19, 0, 0, 0) from xlk (by decide +kernel)) rfl rfl q0 ⟨fun c => ?_, fun c => ?_⟩
    · replace t := t.1 c
      refine xw_iconst (n := 20) (show xlook 61 19 = some (19, .iconst 1, 1, 0, 0, 0, 0) from xlk (by decide +kernel)) rfl ?_
      refine xw_istore_n (n := 21) (show xlook 61 20 = some (20, .istore_n 1, 1, 0, 0, 0, 0) from xlk (by decide +kernel)) rfl (ls' := [.ref (o0), vi (1)]) (Nat.le_of_ble_eq_true rfl) rfl ?_
      exact t hPT
    · replace t := t.2 c
      refine xw_iconst (n := 18) (show xlook 61 17 = some (17, .iconst 1, 1, 0, 0, 0, 0) from xlk (by decide +kernel)) rfl ?_
      exact xw_zreturn hPT (show xlook 61 18 = some (18, .ireturn, 1, 0, 0, 0, 0) from xlk (by decide +kernel)) rfl (by decide) (t hPT)
theorem m61 {X : List Int32} {d : Nat} {F : XF} {Q : Int → XF → Prop} {o0 : Nat} (hPT : xPT F) (h0 : xob 6 o0) (t : ∃ t1 : Nat, (F) (o0) 0 = (t1 : Int) ∧ xob 9 t1 ∧ (inR ((F) (t1) 9) ∧ (((((F) (t1) 9) = (0)) → (xPT (F) → Q (1) (F))) ∧ (¬ (((F) (t1) 9) = (0)) → (inR ((F) (o0) 3) ∧ (((((F) (o0) 3) ≤ (0)) → (xPT (F) → xW X d 61 21 [.ref (o0), vi (1)] [] (F) (xqi Q))) ∧ (¬ (((F) (o0) 3) ≤ (0)) → (xPT (F) → Q (1) (F))))))))) : xMI X d 61 [.ref (o0)] F Q := by
  show xW X d 61 0 [.ref (o0), xU0] [] F (xqi Q)
  exact s61_0 hPT h0 t

theorem s61_21 {X : List Int32} {d : Nat} {F : XF} {Q : Int → XF → Prop} {o0 : Nat} {x1 : Int} (hPT : xPT F) (h0 : xob 6 o0) (t : ∃ t1 : Nat, (F) (o0) 0 = (t1 : Int) ∧ xob 9 t1 ∧ (inR (x1) ∧ inR ((F) (t1) 6) ∧ (((((F) (t1) 6) ≤ (x1)) → (xPT (F) → Q (1) (F))) ∧ (¬ (((F) (t1) 6) ≤ (x1)) → ((0 ≤ (x1) ∧ (x1) < 30) ∧ (∃ (j2 : Nat), j2 < d ∧ xMI X j2 49 [.ref (o0), vi ((x1) - (1))] (F) (fun (y2 : Int) (G2 : XF) => (∃ t3 : Nat, (G2) (o0) 0 = (t3 : Int) ∧ xob 9 t3 ∧ (inR ((F) (o0 + 7) (x1)) ∧ inR ((y2) - ((G2) (t3) 2)) ∧ (((((F) (o0 + 7) (x1)) = ((y2) - ((G2) (t3) 2))) → (xPT (G2) → xW X d 61 21 [.ref (o0), vi (x1 + 1)] [] (G2) (xqi Q))) ∧ (¬ (((F) (o0 + 7) (x1)) = ((y2) - ((G2) (t3) 2))) → (xPT (G2) → Q (0) (G2))))))))))))) : xW X d 61 21 [.ref (o0), vi (x1)] [] F (xqi Q) := by
  refine xw_iload_n (n := 22) (show xlook 61 21 = some (21, .iload_n 1, 1, 0, 0, 0, 0) from xlk (by decide +kernel)) rfl rfl ?_
  refine xw_aload_n (n := 23) (show xlook 61 22 = some (22, .aload_n 0, 1, 0, 0, 0, 0) from xlk (by decide +kernel)) rfl rfl ?_
  obtain ⟨t1, q1, ht1, t⟩ := t
  refine xw_getr (q := t1) (show xlook 61 23 = some (23, .getfield 40, 3, 6, 0, 0, 81) from xlk (by decide +kernel)) (by decide) (xobf h0 (by decide) (by decide)) rfl q1 (by have := ht1.1; omega) (n := 26) rfl ?_
  refine xw_geti (show xlook 61 26 = some (26, .getfield 75, 3, 9, 6, 0, 88) from xlk (by decide +kernel)) (by decide) (xobf ht1 (by decide) (by decide)) rfl (n := 29) rfl ?_
  obtain ⟨q0, q1, t⟩ := t
  refine xw_icmp_ge (n := 32) (m := 64) (show xlook 61 29 = some (29, .if_icmp .ge 35, 3, 64, 0, 0, 0) from xlk (by decide +kernel)) rfl rfl q0 q1 ⟨fun c => ?_, fun c => ?_⟩
  · replace t := t.1 c
    refine xw_iconst (n := 65) (show xlook 61 64 = some (64, .iconst 1, 1, 0, 0, 0, 0) from xlk (by decide +kernel)) rfl ?_
    exact xw_zreturn hPT (show xlook 61 65 = some (65, .ireturn, 1, 0, 0, 0, 0) from xlk (by decide +kernel)) rfl (by decide) (t hPT)
  · replace t := t.2 c
    refine xw_aload_n (n := 33) (show xlook 61 32 = some (32, .aload_n 0, 1, 0, 0, 0, 0) from xlk (by decide +kernel)) rfl rfl ?_
    refine xw_getr (q := o0 + 7) (show xlook 61 33 = some (33, .getfield 18, 3, 6, 6, 0, 75) from xlk (by decide +kernel)) (by decide) (xobf h0 (by decide) (by decide)) rfl (xPT_get (k := 6) (f := 7) hPT h0 (by decide)) (by have := (xtg_6_6 _ h0.1 h0.2).1.1; omega) (n := 36) rfl ?_
    refine xw_iload_n (n := 37) (show xlook 61 36 = some (36, .iload_n 1, 1, 0, 0, 0, 0) from xlk (by decide +kernel)) rfl rfl ?_
    obtain ⟨q1, t⟩ := t
    refine xw_iald (show xlook 61 37 = some (37, .iaload, 1, 0, 0, 0, 0) from xlk (by decide +kernel)) (xtg_6_6 _ h0.1 h0.2).1 (by rw [(xtg_6_6 _ h0.1 h0.2).2]; exact q1) (n := 38) rfl ?_
    refine xw_aload_n (n := 39) (show xlook 61 38 = some (38, .aload_n 0, 1, 0, 0, 0, 0) from xlk (by decide +kernel)) rfl rfl ?_
    refine xw_iload_n (n := 40) (show xlook 61 39 = some (39, .iload_n 1, 1, 0, 0, 0, 0) from xlk (by decide +kernel)) rfl rfl ?_
    refine xw_iconst (n := 41) (show xlook 61 40 = some (40, .iconst 1, 1, 0, 0, 0, 0) from xlk (by decide +kernel)) rfl ?_
    refine xw_isub (n := 42) (show xlook 61 41 = some (41, .isub, 1, 0, 0, 0, 0) from xlk (by decide +kernel)) rfl ?_
    obtain ⟨j2, hj2, rr2, G2, hm2, hG2, t⟩ := t
    obtain ⟨y2, rfl, t⟩ := t
    refine xw_callv (dk := j2) (o := o0) (as := [vi ((x1) - (1))]) (show xlook 61 42 = some (42, .invokevirtual 108, 3, 49, 2, 0, 56) from xlk (by decide +kernel)) (by decide) hj2 ⟨Nat.le_of_ble_eq_true rfl, Nat.le_of_ble_eq_true rfl, Nat.le_of_ble_eq_true rfl⟩ ⟨h0.1, h0.2, by decide⟩ rfl hm2 (n := 45) rfl ?_
    show xW X d 61 45 [.ref (o0), vi (x1)] [vi (y2), vi ((F) (o0 + 7) (x1))] G2 (xqi Q)
    refine xw_aload_n (n := 46) (show xlook 61 45 = some (45, .aload_n 0, 1, 0, 0, 0, 0) from xlk (by decide +kernel)) rfl rfl ?_
    obtain ⟨t3, q1, ht3, t⟩ := t
    refine xw_getr (q := t3) (show xlook 61 46 = some (46, .getfield 40, 3, 6, 0, 0, 81) from xlk (by decide +kernel)) (by decide) (xobf h0 (by decide) (by decide)) rfl q1 (by have := ht3.1; omega) (n := 49) rfl ?_
    refine xw_geti (show xlook 61 49 = some (49, .getfield 83, 3, 9, 2, 0, 90) from xlk (by decide +kernel)) (by decide) (xobf ht3 (by decide) (by decide)) rfl (n := 52) rfl ?_
    refine xw_isub (n := 53) (show xlook 61 52 = some (52, .isub, 1, 0, 0, 0, 0) from xlk (by decide +kernel)) rfl ?_
    obtain ⟨q0, q1, t⟩ := t
    refine xw_icmp_eq (n := 56) (m := 58) (show xlook 61 53 = some (53, .if_icmp .eq 5, 3, 58, 0, 0, 0) from xlk (by decide +kernel)) rfl rfl q0 q1 ⟨fun c => ?_, fun c => ?_⟩
    · replace t := t.1 c
      refine xw_iinc (n := 61) (show xlook 61 58 = some (58, .iinc 1 1, 3, 0, 0, 0, 0) from xlk (by decide +kernel)) rfl (ls' := [.ref (o0), vi (x1 + 1)]) rfl rfl ?_
      refine xw_goto (m := 21) (show xlook 61 61 = some (61, .goto (-40), 3, 21, 0, 0, 0) from xlk (by decide +kernel)) rfl ?_
      exact t hG2
    · replace t := t.2 c
      refine xw_iconst (n := 57) (show xlook 61 56 = some (56, .iconst 0, 1, 0, 0, 0, 0) from xlk (by decide +kernel)) rfl ?_
      exact xw_zreturn hG2 (show xlook 61 57 = some (57, .ireturn, 1, 0, 0, 0, 0) from xlk (by decide +kernel)) rfl (by decide) (t hG2)

theorem s62_0 {X : List Int32} {d : Nat} {F : XF} {Q : XF → Prop} {o0 : Nat} {x1 : Int} {x2 : Int} {w3 : Value} {w4 : Value} {w5 : Value} {w6 : Value} {w7 : Value} {w8 : Value} (hPT : xPT F) (h0 : xob 6 o0) (t : (0 ≤ (x1) ∧ (x1) < 30) ∧ (∃ t1 : Nat, (F) (o0) 0 = (t1 : Int) ∧ xob 9 t1 ∧ (inR (x1) ∧ (((¬ (x1) = (0)) → (xPT (F) → xW X d 62 82 [.ref (o0), vi (x1), vi (x2), vi ((F) (o0 + 7) (x1)), vi (((F) (o0 + 7) (x1)) + ((F) (t1) 1)), vi (3), w6, w7, w8] [] (F) (xqv Q))) ∧ (¬ (¬ (x1) = (0)) → (inR (x2) ∧ (((¬ (x2) = (0)) → (xPT (F) → xW X d 62 82 [.ref (o0), vi (x1), vi (x2), vi ((F) (o0 + 7) (x1)), vi (((F) (o0 + 7) (x1)) + ((F) (t1) 1)), vi (3), w6, w7, w8] [] (F) (xqv Q))) ∧ (¬ (¬ (x2) = (0)) → (xPT (F) → xW X d 62 32 [.ref (o0), vi (x1), vi (x2), vi ((F) (o0 + 7) (x1)), vi (((F) (o0 + 7) (x1)) + ((F) (t1) 1)), vi (3), vi (0), w7, w8] [] (F) (xqv Q)))))))))) : xW X d 62 0 [.ref (o0), vi (x1), vi (x2), w3, w4, w5, w6, w7, w8] [] F (xqv Q) := by
  refine xw_aload_n (n := 1) (show xlook 62 0 = some (0, .aload_n 0, 1, 0, 0, 0, 0) from xlk (by decide +kernel)) rfl rfl ?_
  refine xw_getr (q := o0 + 7) (show xlook 62 1 = some (1, .getfield 18, 3, 6, 6, 0, 75) from xlk (by decide +kernel)) (by decide) (xobf h0 (by decide) (by decide)) rfl (xPT_get (k := 6) (f := 7) hPT h0 (by decide)) (by have := (xtg_6_6 _ h0.1 h0.2).1.1; omega) (n := 4) rfl ?_
  refine xw_iload_n (n := 5) (show xlook 62 4 = some (4, .iload_n 1, 1, 0, 0, 0, 0) from xlk (by decide +kernel)) rfl rfl ?_
  obtain ⟨q1, t⟩ := t
  refine xw_iald (show xlook 62 5 = some (5, .iaload, 1, 0, 0, 0, 0) from xlk (by decide +kernel)) (xtg_6_6 _ h0.1 h0.2).1 (by rw [(xtg_6_6 _ h0.1 h0.2).2]; exact q1) (n := 6) rfl ?_
  refine xw_istore_n (n := 7) (show xlook 62 6 = some (6, .istore_n 3, 1, 0, 0, 0, 0) from xlk (by decide +kernel)) rfl (ls' := [.ref (o0), vi (x1), vi (x2), vi ((F) (o0 + 7) (x1)), w4, w5, w6, w7, w8]) (Nat.le_of_ble_eq_true rfl) rfl ?_
  refine xw_iload_n (n := 8) (show xlook 62 7 = some (7, .iload_n 3, 1, 0, 0, 0, 0) from xlk (by decide +kernel)) rfl rfl ?_
  refine xw_aload_n (n := 9) (show xlook 62 8 = some (8, .aload_n 0, 1, 0, 0, 0, 0) from xlk (by decide +kernel)) rfl rfl ?_
  obtain ⟨t1, q1, ht1, t⟩ := t
  refine xw_getr (q := t1) (show xlook 62 9 = some (9, .getfield 40, 3, 6, 0, 0, 81) from xlk (by decide +kernel)) (by decide) (xobf h0 (by decide) (by decide)) rfl q1 (by have := ht1.1; omega) (n := 12) rfl ?_
  refine xw_geti (show xlook 62 12 = some (12, .getfield 170, 3, 9, 1, 0, 103) from xlk (by decide +kernel)) (by decide) (xobf ht1 (by decide) (by decide)) rfl (n := 15) rfl ?_
  refine xw_iadd (n := 16) (show xlook 62 15 = some (15, .iadd, 1, 0, 0, 0, 0) from xlk (by decide +kernel)) rfl ?_
  refine xw_istore (n := 18) (show xlook 62 16 = some (16, .istore 4, 2, 0, 0, 0, 0) from xlk (by decide +kernel)) rfl (ls' := [.ref (o0), vi (x1), vi (x2), vi ((F) (o0 + 7) (x1)), vi (((F) (o0 + 7) (x1)) + ((F) (t1) 1)), w5, w6, w7, w8]) (Nat.le_of_ble_eq_true rfl) rfl ?_
  refine xw_iconst (n := 19) (show xlook 62 18 = some (18, .iconst 3, 1, 0, 0, 0, 0) from xlk (by decide +kernel)) rfl ?_
  refine xw_istore (n := 21) (show xlook 62 19 = some (19, .istore 5, 2, 0, 0, 0, 0) from xlk (by decide +kernel)) rfl (ls' := [.ref (o0), vi (x1), vi (x2), vi ((F) (o0 + 7) (x1)), vi (((F) (o0 + 7) (x1)) + ((F) (t1) 1)), vi (3), w6, w7, w8]) (Nat.le_of_ble_eq_true rfl) rfl ?_
  refine xw_iload_n (n := 22) (show xlook 62 21 = some (21, .iload_n 1, 1, 0, 0, 0, 0) from xlk (by decide +kernel)) rfl rfl ?_
  obtain ⟨q0, t⟩ := t
  refine xw_if_ne (n := 25) (m := 82) (show xlook 62 22 = some (22, .ifCond .ne 60, 3, 82, 0, 0, 0) from xlk (by decide +kernel)) rfl rfl q0 ⟨fun c => ?_, fun c => ?_⟩
  · replace t := t.1 c
    exact t hPT
  · replace t := t.2 c
    refine xw_iload_n (n := 26) (show xlook 62 25 = some (25, .iload_n 2, 1, 0, 0, 0, 0) from xlk (by decide +kernel)) rfl rfl ?_
    obtain ⟨q0, t⟩ := t
    refine xw_if_ne (n := 29) (m := 82) (show xlook 62 26 = some (26, .ifCond .ne 56, 3, 82, 0, 0, 0) from xlk (by decide +kernel)) rfl rfl q0 ⟨fun c => ?_, fun c => ?_⟩
    · replace t := t.1 c
      exact t hPT
    · replace t := t.2 c
      refine xw_iconst (n := 30) (show xlook 62 29 = some (29, .iconst 0, 1, 0, 0, 0, 0) from xlk (by decide +kernel)) rfl ?_
      refine xw_istore (n := 32) (show xlook 62 30 = some (30, .istore 6, 2, 0, 0, 0, 0) from xlk (by decide +kernel)) rfl (ls' := [.ref (o0), vi (x1), vi (x2), vi ((F) (o0 + 7) (x1)), vi (((F) (o0 + 7) (x1)) + ((F) (t1) 1)), vi (3), vi (0), w7, w8]) (Nat.le_of_ble_eq_true rfl) rfl ?_
      exact t hPT
theorem m62 {X : List Int32} {d : Nat} {F : XF} {Q : XF → Prop} {o0 : Nat} {x1 : Int} {x2 : Int} (hPT : xPT F) (h0 : xob 6 o0) (t : (0 ≤ (x1) ∧ (x1) < 30) ∧ (∃ t1 : Nat, (F) (o0) 0 = (t1 : Int) ∧ xob 9 t1 ∧ (inR (x1) ∧ (((¬ (x1) = (0)) → (xPT (F) → xW X d 62 82 [.ref (o0), vi (x1), vi (x2), vi ((F) (o0 + 7) (x1)), vi (((F) (o0 + 7) (x1)) + ((F) (t1) 1)), vi (3), xU0, xU0, xU0] [] (F) (xqv Q))) ∧ (¬ (¬ (x1) = (0)) → (inR (x2) ∧ (((¬ (x2) = (0)) → (xPT (F) → xW X d 62 82 [.ref (o0), vi (x1), vi (x2), vi ((F) (o0 + 7) (x1)), vi (((F) (o0 + 7) (x1)) + ((F) (t1) 1)), vi (3), xU0, xU0, xU0] [] (F) (xqv Q))) ∧ (¬ (¬ (x2) = (0)) → (xPT (F) → xW X d 62 32 [.ref (o0), vi (x1), vi (x2), vi ((F) (o0 + 7) (x1)), vi (((F) (o0 + 7) (x1)) + ((F) (t1) 1)), vi (3), vi (0), xU0, xU0] [] (F) (xqv Q)))))))))) : xMV X d 62 [.ref (o0), vi (x1), vi (x2)] F Q := by
  show xW X d 62 0 [.ref (o0), vi (x1), vi (x2), xU0, xU0, xU0, xU0, xU0, xU0] [] F (xqv Q)
  exact s62_0 hPT h0 t

theorem s62_32 {X : List Int32} {d : Nat} {F : XF} {Q : XF → Prop} {o0 : Nat} {x1 : Int} {x2 : Int} {x3 : Int} {x4 : Int} {x5 : Int} {x6 : Int} {w7 : Value} {w8 : Value} (hPT : xPT F) (h0 : xob 6 o0) (t : ∃ t1 : Nat, (F) (o0) 0 = (t1 : Int) ∧ xob 9 t1 ∧ (inR (x6) ∧ inR ((F) (t1) 9) ∧ (((((F) (t1) 9) ≤ (x6)) → (xPT (F) → xW X d 62 82 [.ref (o0), vi (x1), vi (x2), vi (x3), vi (x4), vi (x5), vi (x6), w7, w8] [] (F) (xqv Q))) ∧ (¬ (((F) (t1) 9) ≤ (x6)) → (∃ t2 : Nat, (F) (o0) 0 = (t2 : Int) ∧ xob 9 t2 ∧ ((0 ≤ (x6) ∧ (x6) < 4) ∧ (inR ((F) (t2 + 3) (x6)) ∧ inR (x3) ∧ (((((F) (t2 + 3) (x6)) < (x3)) → (xPT (F) → xW X d 62 32 [.ref (o0), vi (x1), vi (x2), vi (x3), vi (x4), vi (x5), vi (x6 + 1), vi ((F) (t2 + 3) (x6)), w8] [] (F) (xqv Q))) ∧ (¬ (((F) (t2 + 3) (x6)) < (x3)) → (inR ((F) (t2 + 3) (x6)) ∧ inR (x4) ∧ ((((x4) ≤ ((F) (t2 + 3) (x6))) → (xPT (F) → xW X d 62 32 [.ref (o0), vi (x1), vi (x2), vi (x3), vi (x4), vi (x5), vi (x6 + 1), vi ((F) (t2 + 3) (x6)), w8] [] (F) (xqv Q))) ∧ (¬ ((x4) ≤ ((F) (t2 + 3) (x6))) → (xPT (F) → xW X d 62 32 [.ref (o0), vi (x1), vi (x2), vi (x3), vi ((F) (t2 + 3) (x6)), vi (4), vi (x6 + 1), vi ((F) (t2 + 3) (x6)), w8] [] (F) (xqv Q)))))))))))))) : xW X d 62 32 [.ref (o0), vi (x1), vi (x2), vi (x3), vi (x4), vi (x5), vi (x6), w7, w8] [] F (xqv Q) := by
  refine xw_iload (n := 34) (show xlook 62 32 = some (32, .iload 6, 2, 0, 0, 0, 0) from xlk (by decide +kernel)) rfl rfl ?_
  refine xw_aload_n (n := 35) (show xlook 62 34 = some (34, .aload_n 0, 1, 0, 0, 0, 0) from xlk (by decide +kernel)) rfl rfl ?_
  obtain ⟨t1, q1, ht1, t⟩ := t
  refine xw_getr (q := t1) (show xlook 62 35 = some (35, .getfield 40, 3, 6, 0, 0, 81) from xlk (by decide +kernel)) (by decide) (xobf h0 (by decide) (by decide)) rfl q1 (by have := ht1.1; omega) (n := 38) rfl ?_
  refine xw_geti (show xlook 62 38 = some (38, .getfield 189, 3, 9, 9, 0, 105) from xlk (by decide +kernel)) (by decide) (xobf ht1 (by decide) (by decide)) rfl (n := 41) rfl ?_
  obtain ⟨q0, q1, t⟩ := t
  refine xw_icmp_ge (n := 44) (m := 82) (show xlook 62 41 = some (41, .if_icmp .ge 41, 3, 82, 0, 0, 0) from xlk (by decide +kernel)) rfl rfl q0 q1 ⟨fun c => ?_, fun c => ?_⟩
  · replace t := t.1 c
    exact t hPT
  · replace t := t.2 c
    refine xw_aload_n (n := 45) (show xlook 62 44 = some (44, .aload_n 0, 1, 0, 0, 0, 0) from xlk (by decide +kernel)) rfl rfl ?_
    obtain ⟨t2, q1, ht2, t⟩ := t
    refine xw_getr (q := t2) (show xlook 62 45 = some (45, .getfield 40, 3, 6, 0, 0, 81) from xlk (by decide +kernel)) (by decide) (xobf h0 (by decide) (by decide)) rfl q1 (by have := ht2.1; omega) (n := 48) rfl ?_
    refine xw_getr (q := t2 + 3) (show xlook 62 48 = some (48, .getfield 192, 3, 9, 10, 0, 106) from xlk (by decide +kernel)) (by decide) (xobf ht2 (by decide) (by decide)) rfl (xPT_get (k := 10) (f := 3) hPT ht2 (by decide)) (by have := (xtg_9_10 _ ht2.1 ht2.2).1.1; omega) (n := 51) rfl ?_
    refine xw_iload (n := 53) (show xlook 62 51 = some (51, .iload 6, 2, 0, 0, 0, 0) from xlk (by decide +kernel)) rfl rfl ?_
    obtain ⟨q1, t⟩ := t
    refine xw_iald (show xlook 62 53 = some (53, .iaload, 1, 0, 0, 0, 0) from xlk (by decide +kernel)) (xtg_9_10 _ ht2.1 ht2.2).1 (by rw [(xtg_9_10 _ ht2.1 ht2.2).2]; exact q1) (n := 54) rfl ?_
    refine xw_istore (n := 56) (show xlook 62 54 = some (54, .istore 7, 2, 0, 0, 0, 0) from xlk (by decide +kernel)) rfl (ls' := [.ref (o0), vi (x1), vi (x2), vi (x3), vi (x4), vi (x5), vi (x6), vi ((F) (t2 + 3) (x6)), w8]) (Nat.le_of_ble_eq_true rfl) rfl ?_
    refine xw_iload (n := 58) (show xlook 62 56 = some (56, .iload 7, 2, 0, 0, 0, 0) from xlk (by decide +kernel)) rfl rfl ?_
    refine xw_iload_n (n := 59) (show xlook 62 58 = some (58, .iload_n 3, 1, 0, 0, 0, 0) from xlk (by decide +kernel)) rfl rfl ?_
    obtain ⟨q0, q1, t⟩ := t
    refine xw_icmp_lt (n := 62) (m := 76) (show xlook 62 59 = some (59, .if_icmp .lt 17, 3, 76, 0, 0, 0) from xlk (by decide +kernel)) rfl rfl q0 q1 ⟨fun c => ?_, fun c => ?_⟩
    · replace t := t.1 c
      refine xw_iinc (n := 79) (show xlook 62 76 = some (76, .iinc 6 1, 3, 0, 0, 0, 0) from xlk (by decide +kernel)) rfl (ls' := [.ref (o0), vi (x1), vi (x2), vi (x3), vi (x4), vi (x5), vi (x6 + 1), vi ((F) (t2 + 3) (x6)), w8]) rfl rfl ?_
      refine xw_goto (m := 32) (show xlook 62 79 = some (79, .goto (-47), 3, 32, 0, 0, 0) from xlk (by decide +kernel)) rfl ?_
      exact t hPT
    · replace t := t.2 c
      refine xw_iload (n := 64) (show xlook 62 62 = some (62, .iload 7, 2, 0, 0, 0, 0) from xlk (by decide +kernel)) rfl rfl ?_
      refine xw_iload (n := 66) (show xlook 62 64 = some (64, .iload 4, 2, 0, 0, 0, 0) from xlk (by decide +kernel)) rfl rfl ?_
      obtain ⟨q0, q1, t⟩ := t
      refine xw_icmp_ge (n := 69) (m := 76) (show xlook 62 66 = some (66, .if_icmp .ge 10, 3, 76, 0, 0, 0) from xlk (by decide +kernel)) rfl rfl q0 q1 ⟨fun c => ?_, fun c => ?_⟩
      · replace t := t.1 c
        refine xw_iinc (n := 79) (show xlook 62 76 = some (76, .iinc 6 1, 3, 0, 0, 0, 0) from xlk (by decide +kernel)) rfl (ls' := [.ref (o0), vi (x1), vi (x2), vi (x3), vi (x4), vi (x5), vi (x6 + 1), vi ((F) (t2 + 3) (x6)), w8]) rfl rfl ?_
        refine xw_goto (m := 32) (show xlook 62 79 = some (79, .goto (-47), 3, 32, 0, 0, 0) from xlk (by decide +kernel)) rfl ?_
        exact t hPT
      · replace t := t.2 c
        refine xw_iload (n := 71) (show xlook 62 69 = some (69, .iload 7, 2, 0, 0, 0, 0) from xlk (by decide +kernel)) rfl rfl ?_
        refine xw_istore (n := 73) (show xlook 62 71 = some (71, .istore 4, 2, 0, 0, 0, 0) from xlk (by decide +kernel)) rfl (ls' := [.ref (o0), vi (x1), vi (x2), vi (x3), vi ((F) (t2 + 3) (x6)), vi (x5), vi (x6), vi ((F) (t2 + 3) (x6)), w8]) (Nat.le_of_ble_eq_true rfl) rfl ?_
        refine xw_iconst (n := 74) (show xlook 62 73 = some (73, .iconst 4, 1, 0, 0, 0, 0) from xlk (by decide +kernel)) rfl ?_
        refine xw_istore (n := 76) (show xlook 62 74 = some (74, .istore 5, 2, 0, 0, 0, 0) from xlk (by decide +kernel)) rfl (ls' := [.ref (o0), vi (x1), vi (x2), vi (x3), vi ((F) (t2 + 3) (x6)), vi (4), vi (x6), vi ((F) (t2 + 3) (x6)), w8]) (Nat.le_of_ble_eq_true rfl) rfl ?_
        refine xw_iinc (n := 79) (show xlook 62 76 = some (76, .iinc 6 1, 3, 0, 0, 0, 0) from xlk (by decide +kernel)) rfl (ls' := [.ref (o0), vi (x1), vi (x2), vi (x3), vi ((F) (t2 + 3) (x6)), vi (4), vi (x6 + 1), vi ((F) (t2 + 3) (x6)), w8]) rfl rfl ?_
        refine xw_goto (m := 32) (show xlook 62 79 = some (79, .goto (-47), 3, 32, 0, 0, 0) from xlk (by decide +kernel)) rfl ?_
        exact t hPT

theorem s62_82 {X : List Int32} {d : Nat} {F : XF} {Q : XF → Prop} {o0 : Nat} {x1 : Int} {x2 : Int} {x3 : Int} {x4 : Int} {x5 : Int} {w6 : Value} {w7 : Value} {w8 : Value} (hPT : xPT F) (h0 : xob 6 o0) (t : (0 ≤ (x1) ∧ (x1) < 30) ∧ ((0 ≤ ((F) (o0 + 1 + 4) (x1)) ∧ ((F) (o0 + 1 + 4) (x1)) < 30) ∧ (inR ((F) (o0 + 1 + 1) ((F) (o0 + 1 + 4) (x1))) ∧ inR (x1) ∧ (((¬ ((F) (o0 + 1 + 1) ((F) (o0 + 1 + 4) (x1))) = (x1)) → (xPT (F) → xW X d 62 191 [.ref (o0), vi (x1), vi (x2), vi (x3), vi (x4), vi (x5), vi ((F) (o0 + 1 + 4) (x1)), w7, w8] [] (F) (xqv Q))) ∧ (¬ (¬ ((F) (o0 + 1 + 1) ((F) (o0 + 1 + 4) (x1))) = (x1)) → ((0 ≤ (x1) ∧ (x1) < 30) ∧ (xPT (F) → xW X d 62 115 [.ref (o0), vi (x1), vi (x2), vi (x3), vi (x4), vi (x5), vi ((F) (o0 + 1 + 4) (x1)), vi ((F) (o0 + 9) (x1)), w8] [] (F) (xqv Q)))))))) : xW X d 62 82 [.ref (o0), vi (x1), vi (x2), vi (x3), vi (x4), vi (x5), w6, w7, w8] [] F (xqv Q) := by
  refine xw_aload_n (n := 83) (show xlook 62 82 = some (82, .aload_n 0, 1, 0, 0, 0, 0) from xlk (by decide +kernel)) rfl rfl ?_
  refine xw_getr (q := o0 + 1) (show xlook 62 83 = some (83, .getfield 12, 3, 6, 1, 0, 74) from xlk (by decide +kernel)) (by decide) (xobf h0 (by decide) (by decide)) rfl (xPT_get (k := 1) (f := 1) hPT h0 (by decide)) (by have := (xtg_6_1 _ h0.1 h0.2).1; omega) (n := 86) rfl ?_
  refine xw_getr (q := o0 + 1 + 4) (show xlook 62 86 = some (86, .getfield 195, 3, 7, 4, 0, 107) from xlk (by decide +kernel)) (by decide) (xobf (xtg_6_1 _ h0.1 h0.2) (by decide) (by decide)) rfl (xPT_get (k := 4) (f := 4) hPT (xtg_6_1 _ h0.1 h0.2) (by decide)) (by have := (xtg_7_4 _ (xtg_6_1 _ h0.1 h0.2).1 (xtg_6_1 _ h0.1 h0.2).2).1.1; omega) (n := 89) rfl ?_
  refine xw_iload_n (n := 90) (show xlook 62 89 = some (89, .iload_n 1, 1, 0, 0, 0, 0) from xlk (by decide +kernel)) rfl rfl ?_
  obtain ⟨q1, t⟩ := t
  refine xw_iald (show xlook 62 90 = some (90, .iaload, 1, 0, 0, 0, 0) from xlk (by decide +kernel)) (xtg_7_4 _ (xtg_6_1 _ h0.1 h0.2).1 (xtg_6_1 _ h0.1 h0.2).2).1 (by rw [(xtg_7_4 _ (xtg_6_1 _ h0.1 h0.2).1 (xtg_6_1 _ h0.1 h0.2).2).2]; exact q1) (n := 91) rfl ?_
  refine xw_istore (n := 93) (show xlook 62 91 = some (91, .istore 6, 2, 0, 0, 0, 0) from xlk (by decide +kernel)) rfl (ls' := [.ref (o0), vi (x1), vi (x2), vi (x3), vi (x4), vi (x5), vi ((F) (o0 + 1 + 4) (x1)), w7, w8]) (Nat.le_of_ble_eq_true rfl) rfl ?_
  refine xw_aload_n (n := 94) (show xlook 62 93 = some (93, .aload_n 0, 1, 0, 0, 0, 0) from xlk (by decide +kernel)) rfl rfl ?_
  refine xw_getr (q := o0 + 1) (show xlook 62 94 = some (94, .getfield 12, 3, 6, 1, 0, 74) from xlk (by decide +kernel)) (by decide) (xobf h0 (by decide) (by decide)) rfl (xPT_get (k := 1) (f := 1) hPT h0 (by decide)) (by have := (xtg_6_1 _ h0.1 h0.2).1; omega) (n := 97) rfl ?_
  refine xw_getr (q := o0 + 1 + 1) (show xlook 62 97 = some (97, .getfield 97, 3, 7, 1, 0, 94) from xlk (by decide +kernel)) (by decide) (xobf (xtg_6_1 _ h0.1 h0.2) (by decide) (by decide)) rfl (xPT_get (k := 1) (f := 1) hPT (xtg_6_1 _ h0.1 h0.2) (by decide)) (by have := (xtg_7_1 _ (xtg_6_1 _ h0.1 h0.2).1 (xtg_6_1 _ h0.1 h0.2).2).1.1; omega) (n := 100) rfl ?_
  refine xw_iload (n := 102) (show xlook 62 100 = some (100, .iload 6, 2, 0, 0, 0, 0) from xlk (by decide +kernel)) rfl rfl ?_
  obtain ⟨q1, t⟩ := t
  refine xw_iald (show xlook 62 102 = some (102, .iaload, 1, 0, 0, 0, 0) from xlk (by decide +kernel)) (xtg_7_1 _ (xtg_6_1 _ h0.1 h0.2).1 (xtg_6_1 _ h0.1 h0.2).2).1 (by rw [(xtg_7_1 _ (xtg_6_1 _ h0.1 h0.2).1 (xtg_6_1 _ h0.1 h0.2).2).2]; exact q1) (n := 103) rfl ?_
  refine xw_iload_n (n := 104) (show xlook 62 103 = some (103, .iload_n 1, 1, 0, 0, 0, 0) from xlk (by decide +kernel)) rfl rfl ?_
  obtain ⟨q0, q1, t⟩ := t
  refine xw_icmp_ne (n := 107) (m := 191) (show xlook 62 104 = some (104, .if_icmp .ne 87, 3, 191, 0, 0, 0) from xlk (by decide +kernel)) rfl rfl q0 q1 ⟨fun c => ?_, fun c => ?_⟩
  · replace t := t.1 c
    exact t hPT
  · replace t := t.2 c
    refine xw_aload_n (n := 108) (show xlook 62 107 = some (107, .aload_n 0, 1, 0, 0, 0, 0) from xlk (by decide +kernel)) rfl rfl ?_
    refine xw_getr (q := o0 + 9) (show xlook 62 108 = some (108, .getfield 25, 3, 6, 8, 0, 77) from xlk (by decide +kernel)) (by decide) (xobf h0 (by decide) (by decide)) rfl (xPT_get (k := 8) (f := 9) hPT h0 (by decide)) (by have := (xtg_6_8 _ h0.1 h0.2).1.1; omega) (n := 111) rfl ?_
    refine xw_iload_n (n := 112) (show xlook 62 111 = some (111, .iload_n 1, 1, 0, 0, 0, 0) from xlk (by decide +kernel)) rfl rfl ?_
    obtain ⟨q1, t⟩ := t
    refine xw_iald (show xlook 62 112 = some (112, .iaload, 1, 0, 0, 0, 0) from xlk (by decide +kernel)) (xtg_6_8 _ h0.1 h0.2).1 (by rw [(xtg_6_8 _ h0.1 h0.2).2]; exact q1) (n := 113) rfl ?_
    refine xw_istore (n := 115) (show xlook 62 113 = some (113, .istore 7, 2, 0, 0, 0, 0) from xlk (by decide +kernel)) rfl (ls' := [.ref (o0), vi (x1), vi (x2), vi (x3), vi (x4), vi (x5), vi ((F) (o0 + 1 + 4) (x1)), vi ((F) (o0 + 9) (x1)), w8]) (Nat.le_of_ble_eq_true rfl) rfl ?_
    exact t hPT

theorem s62_115 {X : List Int32} {d : Nat} {F : XF} {Q : XF → Prop} {o0 : Nat} {x1 : Int} {x2 : Int} {x3 : Int} {x4 : Int} {x5 : Int} {x6 : Int} {x7 : Int} {w8 : Value} (hPT : xPT F) (h0 : xob 6 o0) (t : ∃ t1 : Nat, (F) (o0) 0 = (t1 : Int) ∧ xob 9 t1 ∧ (inR (x7) ∧ inR ((F) (t1) 4) ∧ (((((F) (t1) 4) ≤ (x7)) → (xPT (F) → xW X d 62 191 [.ref (o0), vi (x1), vi (x2), vi (x3), vi (x4), vi (x5), vi (x6), vi (x7), w8] [] (F) (xqv Q))) ∧ (¬ (((F) (t1) 4) ≤ (x7)) → (∃ t2 : Nat, (F) (o0) 0 = (t2 : Int) ∧ xob 9 t2 ∧ ((0 ≤ (x7 : Int) ∧ (x7 : Int) < 10) ∧ (inR ((F) (t2 + 1 + 6 + (x7 : Int).toNat) 0) ∧ inR (x4) ∧ (((((F) (t2 + 1 + 6 + (x7 : Int).toNat) 0) < (x4)) → (∃ (j4 : Nat), j4 < d ∧ xMI X j4 66 [.ref (o0 + 1), vi (x6), vi (x7)] (F) (fun (y4 : Int) (G4 : XF) => (∃ (j5 : Nat), j5 < d ∧ xMI X j5 11 [.ref (t2 + 1 + 6 + (x7 : Int).toNat), vi ((F) (o0) 2), vi (y4)] (G4) (fun (y5 : Int) (G5 : XF) => (inR (y5) ∧ (((¬ (y5) = (0)) → (xPT (G5) → xW X d 62 115 [.ref (o0), vi (x1), vi (x2), vi (x3), vi (x4), vi (x5), vi (x6), vi (x7 + 1), .ref (t2 + 1 + 6 + (x7 : Int).toNat)] [] (G5) (xqv Q))) ∧ (¬ (¬ (y5) = (0)) → (xPT (G5) → xW X d 62 115 [.ref (o0), vi (x1), vi (x2), vi (x3), vi ((G5) (t2 + 1 + 6 + (x7 : Int).toNat) 0), vi (5), vi (x6), vi (x7 + 1), .ref (t2 + 1 + 6 + (x7 : Int).toNat)] [] (G5) (xqv Q)))))))))) ∧ (¬ (((F) (t2 + 1 + 6 + (x7 : Int).toNat) 0) < (x4)) → (xPT (F) → xW X d 62 191 [.ref (o0), vi (x1), vi (x2), vi (x3), vi (x4), vi (x5), vi (x6), vi (x7), .ref (t2 + 1 + 6 + (x7 : Int).toNat)] [] (F) (xqv Q))))))))))) : xW X d 62 115 [.ref (o0), vi (x1), vi (x2), vi (x3), vi (x4), vi (x5), vi (x6), vi (x7), w8] [] F (xqv Q) := by
  refine xw_iload (n := 117) (show xlook 62 115 = some (115, .iload 7, 2, 0, 0, 0, 0) from xlk (by decide +kernel)) rfl rfl ?_
  refine xw_aload_n (n := 118) (show xlook 62 117 = some (117, .aload_n 0, 1, 0, 0, 0, 0) from xlk (by decide +kernel)) rfl rfl ?_
  obtain ⟨t1, q1, ht1, t⟩ := t
  refine xw_getr (q := t1) (show xlook 62 118 = some (118, .getfield 40, 3, 6, 0, 0, 81) from xlk (by decide +kernel)) (by decide) (xobf h0 (by decide) (by decide)) rfl q1 (by have := ht1.1; omega) (n := 121) rfl ?_
  refine xw_geti (show xlook 62 121 = some (121, .getfield 86, 3, 9, 4, 0, 91) from xlk (by decide +kernel)) (by decide) (xobf ht1 (by decide) (by decide)) rfl (n := 124) rfl ?_
  obtain ⟨q0, q1, t⟩ := t
  refine xw_icmp_ge (n := 127) (m := 191) (show xlook 62 124 = some (124, .if_icmp .ge 67, 3, 191, 0, 0, 0) from xlk (by decide +kernel)) rfl rfl q0 q1 ⟨fun c => ?_, fun c => ?_⟩
  · replace t := t.1 c
    exact t hPT
  · replace t := t.2 c
    refine xw_aload_n (n := 128) (show xlook 62 127 = some (127, .aload_n 0, 1, 0, 0, 0, 0) from xlk (by decide +kernel)) rfl rfl ?_
    obtain ⟨t2, q1, ht2, t⟩ := t
    refine xw_getr (q := t2) (show xlook 62 128 = some (128, .getfield 40, 3, 6, 0, 0, 81) from xlk (by decide +kernel)) (by decide) (xobf h0 (by decide) (by decide)) rfl q1 (by have := ht2.1; omega) (n := 131) rfl ?_
    refine xw_getr (q := t2 + 1) (show xlook 62 131 = some (131, .getfield 92, 3, 9, 5, 0, 92) from xlk (by decide +kernel)) (by decide) (xobf ht2 (by decide) (by decide)) rfl (xPT_get (k := 5) (f := 1) hPT ht2 (by decide)) (by have := (xtg_9_5 _ ht2.1 ht2.2).1.1; omega) (n := 134) rfl ?_
    refine xw_iload (n := 136) (show xlook 62 134 = some (134, .iload 7, 2, 0, 0, 0, 0) from xlk (by decide +kernel)) rfl rfl ?_
    obtain ⟨q1, t⟩ := t
    have hb3 : xob 1 (t2 + 1 + 6 + (x7 : Int).toNat) := xel15 _ (xtg_9_5 _ ht2.1 ht2.2).1.1 (xtg_9_5 _ ht2.1 ht2.2).1.2 _ (xidx10 q1)
    refine xw_aald (q := t2 + 1 + 6 + (x7 : Int).toNat) (show xlook 62 136 = some (136, .aaload, 1, 0, 0, 0, 0) from xlk (by decide +kernel)) ⟨(xtg_9_5 _ ht2.1 ht2.2).1.1, (Or.inl (xtg_9_5 _ ht2.1 ht2.2).1.2)⟩ (by rw [xln15 _ (xtg_9_5 _ ht2.1 ht2.2).1.1 (Or.inl (xtg_9_5 _ ht2.1 ht2.2).1.2)]; exact q1) (xPT_el hPT (Or.inl (xtg_9_5 _ ht2.1 ht2.2).1) q1.1 q1.2) (by have := hb3.1; omega) (n := 137) rfl ?_
    refine xw_astore (n := 139) (show xlook 62 137 = some (137, .astore 8, 2, 0, 0, 0, 0) from xlk (by decide +kernel)) rfl (ls' := [.ref (o0), vi (x1), vi (x2), vi (x3), vi (x4), vi (x5), vi (x6), vi (x7), .ref (t2 + 1 + 6 + (x7 : Int).toNat)]) (Nat.le_of_ble_eq_true rfl) rfl ?_
    refine xw_aload (n := 141) (show xlook 62 139 = some (139, .aload 8, 2, 0, 0, 0, 0) from xlk (by decide +kernel)) rfl rfl ?_
    refine xw_geti (show xlook 62 141 = some (141, .getfield 100, 3, 1, 0, 0, 95) from xlk (by decide +kernel)) (by decide) (xobf hb3 (by decide) (by decide)) rfl (n := 144) rfl ?_
    refine xw_iload (n := 146) (show xlook 62 144 = some (144, .iload 4, 2, 0, 0, 0, 0) from xlk (by decide +kernel)) rfl rfl ?_
    obtain ⟨q0, q1, t⟩ := t
    refine xw_icmp_lt (n := 149) (m := 152) (show xlook 62 146 = some (146, .if_icmp .lt 6, 3, 152, 0, 0, 0) from xlk (by decide +kernel)) rfl rfl q0 q1 ⟨fun c => ?_, fun c => ?_⟩
    · replace t := t.1 c
      refine xw_aload (n := 154) (show xlook 62 152 = some (152, .aload 8, 2, 0, 0, 0, 0) from xlk (by decide +kernel)) rfl rfl ?_
      refine xw_aload_n (n := 155) (show xlook 62 154 = some (154, .aload_n 0, 1, 0, 0, 0, 0) from xlk (by decide +kernel)) rfl rfl ?_
      refine xw_geti (show xlook 62 155 = some (155, .getfield 58, 3, 6, 2, 0, 83) from xlk (by decide +kernel)) (by decide) (xobf h0 (by decide) (by decide)) rfl (n := 158) rfl ?_
      refine xw_aload_n (n := 159) (show xlook 62 158 = some (158, .aload_n 0, 1, 0, 0, 0, 0) from xlk (by decide +kernel)) rfl rfl ?_
      refine xw_getr (q := o0 + 1) (show xlook 62 159 = some (159, .getfield 12, 3, 6, 1, 0, 74) from xlk (by decide +kernel)) (by decide) (xobf h0 (by decide) (by decide)) rfl (xPT_get (k := 1) (f := 1) hPT h0 (by decide)) (by have := (xtg_6_1 _ h0.1 h0.2).1; omega) (n := 162) rfl ?_
      refine xw_iload (n := 164) (show xlook 62 162 = some (162, .iload 6, 2, 0, 0, 0, 0) from xlk (by decide +kernel)) rfl rfl ?_
      refine xw_iload (n := 166) (show xlook 62 164 = some (164, .iload 7, 2, 0, 0, 0, 0) from xlk (by decide +kernel)) rfl rfl ?_
      obtain ⟨j4, hj4, rr4, G4, hm4, hG4, t⟩ := t
      obtain ⟨y4, rfl, t⟩ := t
      refine xw_callv (dk := j4) (o := o0 + 1) (as := [vi (x6), vi (x7)]) (show xlook 62 166 = some (166, .invokevirtual 150, 3, 66, 3, 0, 62) from xlk (by decide +kernel)) (by decide) hj4 ⟨Nat.le_of_ble_eq_true rfl, Nat.le_of_ble_eq_true rfl, Nat.le_of_ble_eq_true rfl⟩ ⟨(xtg_6_1 _ h0.1 h0.2).1, (xtg_6_1 _ h0.1 h0.2).2, by decide⟩ rfl hm4 (n := 169) rfl ?_
      show xW X d 62 169 [.ref (o0), vi (x1), vi (x2), vi (x3), vi (x4), vi (x5), vi (x6), vi (x7), .ref (t2 + 1 + 6 + (x7 : Int).toNat)] [vi (y4), vi ((F) (o0) 2), .ref (t2 + 1 + 6 + (x7 : Int).toNat)] G4 (xqv Q)
      obtain ⟨j5, hj5, rr5, G5, hm5, hG5, t⟩ := t
      obtain ⟨y5, rfl, t⟩ := t
      refine xw_callv (dk := j5) (o := t2 + 1 + 6 + (x7 : Int).toNat) (as := [vi ((F) (o0) 2), vi (y4)]) (show xlook 62 169 = some (169, .invokevirtual 198, 3, 11, 3, 0, 72) from xlk (by decide +kernel)) (by decide) hj5 ⟨Nat.le_of_ble_eq_true rfl, Nat.le_of_ble_eq_true rfl, Nat.le_of_ble_eq_true rfl⟩ ⟨hb3.1, hb3.2, by decide⟩ rfl hm5 (n := 172) rfl ?_
      show xW X d 62 172 [.ref (o0), vi (x1), vi (x2), vi (x3), vi (x4), vi (x5), vi (x6), vi (x7), .ref (t2 + 1 + 6 + (x7 : Int).toNat)] [vi (y5)] G5 (xqv Q)
      obtain ⟨q0, t⟩ := t
      refine xw_if_ne (n := 175) (m := 185) (show xlook 62 172 = some (172, .ifCond .ne 13, 3, 185, 0, 0, 0) from xlk (by decide +kernel)) rfl rfl q0 ⟨fun c => ?_, fun c => ?_⟩
      · replace t := t.1 c
        refine xw_iinc (n := 188) (show xlook 62 185 = some (185, .iinc 7 1, 3, 0, 0, 0, 0) from xlk (by decide +kernel)) rfl (ls' := [.ref (o0), vi (x1), vi (x2), vi (x3), vi (x4), vi (x5), vi (x6), vi (x7 + 1), .ref (t2 + 1 + 6 + (x7 : Int).toNat)]) rfl rfl ?_
        refine xw_goto (m := 115) (show xlook 62 188 = some (188, .goto (-73), 3, 115, 0, 0, 0) from xlk (by decide +kernel)) rfl ?_
        exact t hG5
      · replace t := t.2 c
        refine xw_aload (n := 177) (show xlook 62 175 = some (175, .aload 8, 2, 0, 0, 0, 0) from xlk (by decide +kernel)) rfl rfl ?_
        refine xw_geti (show xlook 62 177 = some (177, .getfield 100, 3, 1, 0, 0, 95) from xlk (by decide +kernel)) (by decide) (xobf hb3 (by decide) (by decide)) rfl (n := 180) rfl ?_
        refine xw_istore (n := 182) (show xlook 62 180 = some (180, .istore 4, 2, 0, 0, 0, 0) from xlk (by decide +kernel)) rfl (ls' := [.ref (o0), vi (x1), vi (x2), vi (x3), vi ((G5) (t2 + 1 + 6 + (x7 : Int).toNat) 0), vi (x5), vi (x6), vi (x7), .ref (t2 + 1 + 6 + (x7 : Int).toNat)]) (Nat.le_of_ble_eq_true rfl) rfl ?_
        refine xw_iconst (n := 183) (show xlook 62 182 = some (182, .iconst 5, 1, 0, 0, 0, 0) from xlk (by decide +kernel)) rfl ?_
        refine xw_istore (n := 185) (show xlook 62 183 = some (183, .istore 5, 2, 0, 0, 0, 0) from xlk (by decide +kernel)) rfl (ls' := [.ref (o0), vi (x1), vi (x2), vi (x3), vi ((G5) (t2 + 1 + 6 + (x7 : Int).toNat) 0), vi (5), vi (x6), vi (x7), .ref (t2 + 1 + 6 + (x7 : Int).toNat)]) (Nat.le_of_ble_eq_true rfl) rfl ?_
        refine xw_iinc (n := 188) (show xlook 62 185 = some (185, .iinc 7 1, 3, 0, 0, 0, 0) from xlk (by decide +kernel)) rfl (ls' := [.ref (o0), vi (x1), vi (x2), vi (x3), vi ((G5) (t2 + 1 + 6 + (x7 : Int).toNat) 0), vi (5), vi (x6), vi (x7 + 1), .ref (t2 + 1 + 6 + (x7 : Int).toNat)]) rfl rfl ?_
        refine xw_goto (m := 115) (show xlook 62 188 = some (188, .goto (-73), 3, 115, 0, 0, 0) from xlk (by decide +kernel)) rfl ?_
        exact t hG5
    · replace t := t.2 c
      refine xw_goto (m := 191) (show xlook 62 149 = some (149, .goto 42, 3, 191, 0, 0, 0) from xlk (by decide +kernel)) rfl ?_
      exact t hPT

theorem s62_191 {X : List Int32} {d : Nat} {F : XF} {Q : XF → Prop} {o0 : Nat} {x1 : Int} {x2 : Int} {x3 : Int} {x4 : Int} {x5 : Int} {x6 : Int} {w7 : Value} {w8 : Value} (hPT : xPT F) (h0 : xob 6 o0) (t : inR (x1) ∧ inR ((F) (o0) 3) ∧ ((((x1) ≤ ((F) (o0) 3)) → (xPT (F) → xW X d 62 231 [.ref (o0), vi (x1), vi (x2), vi (x3), vi (x4), vi (x5), vi (x6), w7, w8] [] (F) (xqv Q))) ∧ (¬ ((x1) ≤ ((F) (o0) 3)) → (∃ (j1 : Nat), j1 < d ∧ xMI X j1 49 [.ref (o0), vi ((x1) - (1))] (F) (fun (y1 : Int) (G1 : XF) => (∃ t2 : Nat, (G1) (o0) 0 = (t2 : Int) ∧ xob 9 t2 ∧ (inR ((y1) - ((G1) (t2) 2)) ∧ inR (x4) ∧ ((((x4) ≤ ((y1) - ((G1) (t2) 2))) → (xPT (G1) → xW X d 62 231 [.ref (o0), vi (x1), vi (x2), vi (x3), vi (x4), vi (x5), vi (x6), vi ((y1) - ((G1) (t2) 2)), w8] [] (G1) (xqv Q))) ∧ (¬ ((x4) ≤ ((y1) - ((G1) (t2) 2))) → (xPT (G1) → xW X d 62 231 [.ref (o0), vi (x1), vi (x2), vi (x3), vi ((y1) - ((G1) (t2) 2)), vi (6), vi (x6), vi ((y1) - ((G1) (t2) 2)), w8] [] (G1) (xqv Q))))))))))) : xW X d 62 191 [.ref (o0), vi (x1), vi (x2), vi (x3), vi (x4), vi (x5), vi (x6), w7, w8] [] F (xqv Q) := by
  refine xw_iload_n (n := 192) (show xlook 62 191 = some (191, .iload_n 1, 1, 0, 0, 0, 0) from xlk (by decide +kernel)) rfl rfl ?_
  refine xw_aload_n (n := 193) (show xlook 62 192 = some (192, .aload_n 0, 1, 0, 0, 0, 0) from xlk (by decide +kernel)) rfl rfl ?_
  refine xw_geti (show xlook 62 193 = some (193, .getfield 62, 3, 6, 3, 0, 84) from xlk (by decide +kernel)) (by decide) (xobf h0 (by decide) (by decide)) rfl (n := 196) rfl ?_
  obtain ⟨q0, q1, t⟩ := t
  refine xw_icmp_le (n := 199) (m := 231) (show xlook 62 196 = some (196, .if_icmp .le 35, 3, 231, 0, 0, 0) from xlk (by decide +kernel)) rfl rfl q0 q1 ⟨fun c => ?_, fun c => ?_⟩
  · replace t := t.1 c
    exact t hPT
  · replace t := t.2 c
    refine xw_aload_n (n := 200) (show xlook 62 199 = some (199, .aload_n 0, 1, 0, 0, 0, 0) from xlk (by decide +kernel)) rfl rfl ?_
    refine xw_iload_n (n := 201) (show xlook 62 200 = some (200, .iload_n 1, 1, 0, 0, 0, 0) from xlk (by decide +kernel)) rfl rfl ?_
    refine xw_iconst (n := 202) (show xlook 62 201 = some (201, .iconst 1, 1, 0, 0, 0, 0) from xlk (by decide +kernel)) rfl ?_
    refine xw_isub (n := 203) (show xlook 62 202 = some (202, .isub, 1, 0, 0, 0, 0) from xlk (by decide +kernel)) rfl ?_
    obtain ⟨j1, hj1, rr1, G1, hm1, hG1, t⟩ := t
    obtain ⟨y1, rfl, t⟩ := t
    refine xw_callv (dk := j1) (o := o0) (as := [vi ((x1) - (1))]) (show xlook 62 203 = some (203, .invokevirtual 108, 3, 49, 2, 0, 56) from xlk (by decide +kernel)) (by decide) hj1 ⟨Nat.le_of_ble_eq_true rfl, Nat.le_of_ble_eq_true rfl, Nat.le_of_ble_eq_true rfl⟩ ⟨h0.1, h0.2, by decide⟩ rfl hm1 (n := 206) rfl ?_
    show xW X d 62 206 [.ref (o0), vi (x1), vi (x2), vi (x3), vi (x4), vi (x5), vi (x6), w7, w8] [vi (y1)] G1 (xqv Q)
    refine xw_aload_n (n := 207) (show xlook 62 206 = some (206, .aload_n 0, 1, 0, 0, 0, 0) from xlk (by decide +kernel)) rfl rfl ?_
    obtain ⟨t2, q1, ht2, t⟩ := t
    refine xw_getr (q := t2) (show xlook 62 207 = some (207, .getfield 40, 3, 6, 0, 0, 81) from xlk (by decide +kernel)) (by decide) (xobf h0 (by decide) (by decide)) rfl q1 (by have := ht2.1; omega) (n := 210) rfl ?_
    refine xw_geti (show xlook 62 210 = some (210, .getfield 83, 3, 9, 2, 0, 90) from xlk (by decide +kernel)) (by decide) (xobf ht2 (by decide) (by decide)) rfl (n := 213) rfl ?_
    refine xw_isub (n := 214) (show xlook 62 213 = some (213, .isub, 1, 0, 0, 0, 0) from xlk (by decide +kernel)) rfl ?_
    refine xw_istore (n := 216) (show xlook 62 214 = some (214, .istore 7, 2, 0, 0, 0, 0) from xlk (by decide +kernel)) rfl (ls' := [.ref (o0), vi (x1), vi (x2), vi (x3), vi (x4), vi (x5), vi (x6), vi ((y1) - ((G1) (t2) 2)), w8]) (Nat.le_of_ble_eq_true rfl) rfl ?_
    refine xw_iload (n := 218) (show xlook 62 216 = some (216, .iload 7, 2, 0, 0, 0, 0) from xlk (by decide +kernel)) rfl rfl ?_
    refine xw_iload (n := 220) (show xlook 62 218 = some (218, .iload 4, 2, 0, 0, 0, 0) from xlk (by decide +kernel)) rfl rfl ?_
    obtain ⟨q0, q1, t⟩ := t
    refine xw_icmp_ge (n := 223) (m := 231) (show xlook 62 220 = some (220, .if_icmp .ge 11, 3, 231, 0, 0, 0) from xlk (by decide +kernel)) rfl rfl q0 q1 ⟨fun c => ?_, fun c => ?_⟩
    · replace t := t.1 c
      exact t hG1
    · replace t := t.2 c
      refine xw_iload (n := 225) (show xlook 62 223 = some (223, .iload 7, 2, 0, 0, 0, 0) from xlk (by decide +kernel)) rfl rfl ?_
      refine xw_istore (n := 227) (show xlook 62 225 = some (225, .istore 4, 2, 0, 0, 0, 0) from xlk (by decide +kernel)) rfl (ls' := [.ref (o0), vi (x1), vi (x2), vi (x3), vi ((y1) - ((G1) (t2) 2)), vi (x5), vi (x6), vi ((y1) - ((G1) (t2) 2)), w8]) (Nat.le_of_ble_eq_true rfl) rfl ?_
      refine xw_bipush (n := 229) (show xlook 62 227 = some (227, .bipush 6, 2, 0, 0, 0, 0) from xlk (by decide +kernel)) rfl (by decide) ?_
      refine xw_istore (n := 231) (show xlook 62 229 = some (229, .istore 5, 2, 0, 0, 0, 0) from xlk (by decide +kernel)) rfl (ls' := [.ref (o0), vi (x1), vi (x2), vi (x3), vi ((y1) - ((G1) (t2) 2)), vi (6), vi (x6), vi ((y1) - ((G1) (t2) 2)), w8]) (Nat.le_of_ble_eq_true rfl) rfl ?_
      exact t hG1

theorem s62_231 {X : List Int32} {d : Nat} {F : XF} {Q : XF → Prop} {o0 : Nat} {x1 : Int} {x2 : Int} {x3 : Int} {x4 : Int} {x5 : Int} {x6 : Int} {w7 : Value} {w8 : Value} (hPT : xPT F) (h0 : xob 6 o0) (t : (0 ≤ (x1) ∧ (x1) < 30) ∧ (inR (x5) ∧ (((¬ (x5) = (5)) → (xPT (xup (F) (o0 + 8) (x1) (x5)) → xW X d 62 250 [.ref (o0), vi (x1), vi (x2), vi (x3), vi (x4), vi (x5), vi (x6), w7, w8] [] (xup (F) (o0 + 8) (x1) (x5)) (xqv Q))) ∧ (¬ (¬ (x5) = (5)) → (xPT (xup (xup (F) (o0 + 8) (x1) (x5)) (o0) 5 (1)) → xW X d 62 250 [.ref (o0), vi (x1), vi (x2), vi (x3), vi (x4), vi (x5), vi (x6), w7, w8] [] (xup (xup (F) (o0 + 8) (x1) (x5)) (o0) 5 (1)) (xqv Q)))))) : xW X d 62 231 [.ref (o0), vi (x1), vi (x2), vi (x3), vi (x4), vi (x5), vi (x6), w7, w8] [] F (xqv Q) := by
  refine xw_aload_n (n := 232) (show xlook 62 231 = some (231, .aload_n 0, 1, 0, 0, 0, 0) from xlk (by decide +kernel)) rfl rfl ?_
  refine xw_getr (q := o0 + 8) (show xlook 62 232 = some (232, .getfield 22, 3, 6, 7, 0, 76) from xlk (by decide +kernel)) (by decide) (xobf h0 (by decide) (by decide)) rfl (xPT_get (k := 7) (f := 8) hPT h0 (by decide)) (by have := (xtg_6_7 _ h0.1 h0.2).1.1; omega) (n := 235) rfl ?_
  refine xw_iload_n (n := 236) (show xlook 62 235 = some (235, .iload_n 1, 1, 0, 0, 0, 0) from xlk (by decide +kernel)) rfl rfl ?_
  refine xw_iload (n := 238) (show xlook 62 236 = some (236, .iload 5, 2, 0, 0, 0, 0) from xlk (by decide +kernel)) rfl rfl ?_
  obtain ⟨q1, t⟩ := t
  refine xw_iast (show xlook 62 238 = some (238, .iastore, 1, 0, 0, 0, 0) from xlk (by decide +kernel)) (xtg_6_7 _ h0.1 h0.2).1 (by rw [(xtg_6_7 _ h0.1 h0.2).2]; exact q1) (n := 239) rfl ?_
  refine xw_iload (n := 241) (show xlook 62 239 = some (239, .iload 5, 2, 0, 0, 0, 0) from xlk (by decide +kernel)) rfl rfl ?_
  refine xw_iconst (n := 242) (show xlook 62 241 = some (241, .iconst 5, 1, 0, 0, 0, 0) from xlk (by decide +kernel)) rfl ?_
  obtain ⟨q0, t⟩ := t
  refine xw_icmp_ne (n := 245) (m := 250) (show xlook 62 242 = some (242, .if_icmp .ne 8, 3, 250, 0, 0, 0) from xlk (by decide +kernel)) rfl rfl q0 ⟨by decide, by decide⟩ ⟨fun c => ?_, fun c => ?_⟩
  · replace t := t.1 c
    exact t (xPT_arr hPT (Or.inl (xtg_6_7 _ h0.1 h0.2).1.2))
  · replace t := t.2 c
    refine xw_aload_n (n := 246) (show xlook 62 245 = some (245, .aload_n 0, 1, 0, 0, 0, 0) from xlk (by decide +kernel)) rfl rfl ?_
    refine xw_iconst (n := 247) (show xlook 62 246 = some (246, .iconst 1, 1, 0, 0, 0, 0) from xlk (by decide +kernel)) rfl ?_
    refine xw_putz (show xlook 62 247 = some (247, .putfield 69, 3, 6, 5, 0, 86) from xlk (by decide +kernel)) (xobf h0 (by decide) (by decide)) rfl (by decide) (n := 250) rfl ?_
    exact t (xPT_fld (k := 5) (xPT_arr hPT (Or.inl (xtg_6_7 _ h0.1 h0.2).1.2)) h0 (by decide) (by decide))

theorem s62_250 {X : List Int32} {d : Nat} {F : XF} {Q : XF → Prop} {o0 : Nat} {x1 : Int} {x2 : Int} {x3 : Int} {x4 : Int} {x5 : Int} {x6 : Int} {w7 : Value} {w8 : Value} (hPT : xPT F) (h0 : xob 6 o0) (t : inR (x4) ∧ inR (x3) ∧ ((((x4) ≤ (x3)) → (xPT (F) → Q (F))) ∧ (¬ ((x4) ≤ (x3)) → (∃ (j1 : Nat), j1 < d ∧ xMV X j1 63 [.ref (o0), vi (x1), vi (x6), vi (x4)] (xup (F) (o0) 4 (1)) (fun (G1 : XF) => (xPT (G1) → Q (G1))))))) : xW X d 62 250 [.ref (o0), vi (x1), vi (x2), vi (x3), vi (x4), vi (x5), vi (x6), w7, w8] [] F (xqv Q) := by
  refine xw_iload (n := 252) (show xlook 62 250 = some (250, .iload 4, 2, 0, 0, 0, 0) from xlk (by decide +kernel)) rfl rfl ?_
  refine xw_iload_n (n := 253) (show xlook 62 252 = some (252, .iload_n 3, 1, 0, 0, 0, 0) from xlk (by decide +kernel)) rfl rfl ?_
  obtain ⟨q0, q1, t⟩ := t
  refine xw_icmp_le (n := 256) (m := 270) (show xlook 62 253 = some (253, .if_icmp .le 17, 3, 270, 0, 0, 0) from xlk (by decide +kernel)) rfl rfl q0 q1 ⟨fun c => ?_, fun c => ?_⟩
  · replace t := t.1 c
    exact xw_return hPT (show xlook 62 270 = some (270, .return_, 1, 0, 0, 0, 0) from xlk (by decide +kernel)) rfl (t hPT)
  · replace t := t.2 c
    refine xw_aload_n (n := 257) (show xlook 62 256 = some (256, .aload_n 0, 1, 0, 0, 0, 0) from xlk (by decide +kernel)) rfl rfl ?_
    refine xw_iconst (n := 258) (show xlook 62 257 = some (257, .iconst 1, 1, 0, 0, 0, 0) from xlk (by decide +kernel)) rfl ?_
    refine xw_putz (show xlook 62 258 = some (258, .putfield 65, 3, 6, 4, 0, 85) from xlk (by decide +kernel)) (xobf h0 (by decide) (by decide)) rfl (by decide) (n := 261) rfl ?_
    refine xw_aload_n (n := 262) (show xlook 62 261 = some (261, .aload_n 0, 1, 0, 0, 0, 0) from xlk (by decide +kernel)) rfl rfl ?_
    refine xw_iload_n (n := 263) (show xlook 62 262 = some (262, .iload_n 1, 1, 0, 0, 0, 0) from xlk (by decide +kernel)) rfl rfl ?_
    refine xw_iload (n := 265) (show xlook 62 263 = some (263, .iload 6, 2, 0, 0, 0, 0) from xlk (by decide +kernel)) rfl rfl ?_
    refine xw_iload (n := 267) (show xlook 62 265 = some (265, .iload 4, 2, 0, 0, 0, 0) from xlk (by decide +kernel)) rfl rfl ?_
    obtain ⟨j1, hj1, rr1, G1, hm1, hG1, t⟩ := t
    obtain ⟨rfl, t⟩ := t
    refine xw_callv (dk := j1) (o := o0) (as := [vi (x1), vi (x6), vi (x4)]) (show xlook 62 267 = some (267, .invokevirtual 202, 3, 63, 4, 0, 73) from xlk (by decide +kernel)) (by decide) hj1 ⟨Nat.le_of_ble_eq_true rfl, Nat.le_of_ble_eq_true rfl, Nat.le_of_ble_eq_true rfl⟩ ⟨h0.1, h0.2, by decide⟩ rfl hm1 (n := 270) rfl ?_
    show xW X d 62 270 [.ref (o0), vi (x1), vi (x2), vi (x3), vi (x4), vi (x5), vi (x6), w7, w8] [] G1 (xqv Q)
    exact xw_return hG1 (show xlook 62 270 = some (270, .return_, 1, 0, 0, 0, 0) from xlk (by decide +kernel)) rfl (t hG1)

theorem s63_0 {X : List Int32} {d : Nat} {F : XF} {Q : XF → Prop} {o0 : Nat} {x1 : Int} {x2 : Int} {x3 : Int} {w4 : Value} {w5 : Value} {w6 : Value} {w7 : Value} {w8 : Value} (hPT : xPT F) (h0 : xob 6 o0) (t : (0 ≤ (x1) ∧ (x1) < 30) ∧ (∃ t1 : Nat, (xup (F) (o0 + 7) (x1) (x3)) (o0) 0 = (t1 : Int) ∧ xob 9 t1 ∧ ((0 ≤ (x1) ∧ (x1) < 30) ∧ ((0 ≤ (x2) ∧ (x2) < 30) ∧ (inR ((F) (o0 + 1 + 1) (x2)) ∧ inR (x1) ∧ (((¬ ((F) (o0 + 1 + 1) (x2)) = (x1)) → ((0 ≤ (x2) ∧ (x2) < 30) ∧ (inR ((F) (o0 + 1 + 2) (x2)) ∧ inR (x1) ∧ (((¬ ((F) (o0 + 1 + 2) (x2)) = (x1)) → (xPT (xup (F) (o0 + 7) (x1) (x3)) → xW X d 63 256 [.ref (o0), vi (x1), vi (x2), vi (x3), vi ((x3) - ((xup (F) (o0 + 7) (x1) (x3)) (t1 + 2) (x1))), vi (0), vi (0), w7, w8] [] (xup (F) (o0 + 7) (x1) (x3)) (xqv Q))) ∧ (¬ (¬ ((F) (o0 + 1 + 2) (x2)) = (x1)) → (xPT (xup (F) (o0 + 7) (x1) (x3)) → xW X d 63 70 [.ref (o0), vi (x1), vi (x2), vi (x3), vi ((x3) - ((xup (F) (o0 + 7) (x1) (x3)) (t1 + 2) (x1))), vi (0), vi (1), w7, w8] [] (xup (F) (o0 + 7) (x1) (x3)) (xqv Q))))))) ∧ (¬ (¬ ((F) (o0 + 1 + 1) (x2)) = (x1)) → ((0 ≤ (x2) ∧ (x2) < 30) ∧ (inR ((F) (o0 + 1 + 2) (x2)) ∧ inR (x1) ∧ (((¬ ((F) (o0 + 1 + 2) (x2)) = (x1)) → (xPT (xup (F) (o0 + 7) (x1) (x3)) → xW X d 63 70 [.ref (o0), vi (x1), vi (x2), vi (x3), vi ((x3) - ((xup (F) (o0 + 7) (x1) (x3)) (t1 + 2) (x1))), vi (1), vi (0), w7, w8] [] (xup (F) (o0 + 7) (x1) (x3)) (xqv Q))) ∧ (¬ (¬ ((F) (o0 + 1 + 2) (x2)) = (x1)) → (xPT (xup (F) (o0 + 7) (x1) (x3)) → xW X d 63 70 [.ref (o0), vi (x1), vi (x2), vi (x3), vi ((x3) - ((xup (F) (o0 + 7) (x1) (x3)) (t1 + 2) (x1))), vi (1), vi (1), w7, w8] [] (xup (F) (o0 + 7) (x1) (x3)) (xqv Q))))))))))))) : xW X d 63 0 [.ref (o0), vi (x1), vi (x2), vi (x3), w4, w5, w6, w7, w8] [] F (xqv Q) := by
  refine xw_aload_n (n := 1) (show xlook 63 0 = some (0, .aload_n 0, 1, 0, 0, 0, 0) from xlk (by decide +kernel)) rfl rfl ?_
  refine xw_getr (q := o0 + 7) (show xlook 63 1 = some (1, .getfield 18, 3, 6, 6, 0, 75) from xlk (by decide +kernel)) (by decide) (xobf h0 (by decide) (by decide)) rfl (xPT_get (k := 6) (f := 7) hPT h0 (by decide)) (by have := (xtg_6_6 _ h0.1 h0.2).1.1; omega) (n := 4) rfl ?_
  refine xw_iload_n (n := 5) (show xlook 63 4 = some (4, .iload_n 1, 1, 0, 0, 0, 0) from xlk (by decide +kernel)) rfl rfl ?_
  refine xw_iload_n (n := 6) (show xlook 63 5 = some (5, .iload_n 3, 1, 0, 0, 0, 0) from xlk (by decide +kernel)) rfl rfl ?_
  obtain ⟨q1, t⟩ := t
  refine xw_iast (show xlook 63 6 = some (6, .iastore, 1, 0, 0, 0, 0) from xlk (by decide +kernel)) (xtg_6_6 _ h0.1 h0.2).1 (by rw [(xtg_6_6 _ h0.1 h0.2).2]; exact q1) (n := 7) rfl ?_
  refine xw_iload_n (n := 8) (show xlook 63 7 = some (7, .iload_n 3, 1, 0, 0, 0, 0) from xlk (by decide +kernel)) rfl rfl ?_
  refine xw_aload_n (n := 9) (show xlook 63 8 = some (8, .aload_n 0, 1, 0, 0, 0, 0) from xlk (by decide +kernel)) rfl rfl ?_
  obtain ⟨t1, q1, ht1, t⟩ := t
  refine xw_getr (q := t1) (show xlook 63 9 = some (9, .getfield 40, 3, 6, 0, 0, 81) from xlk (by decide +kernel)) (by decide) (xobf h0 (by decide) (by decide)) rfl q1 (by have := ht1.1; omega) (n := 12) rfl ?_
  refine xw_getr (q := t1 + 2) (show xlook 63 12 = some (12, .getfield 80, 3, 9, 7, 0, 89) from xlk (by decide +kernel)) (by decide) (xobf ht1 (by decide) (by decide)) rfl (xPT_get (k := 7) (f := 2) (xPT_arr hPT (Or.inl (xtg_6_6 _ h0.1 h0.2).1.2)) ht1 (by decide)) (by have := (xtg_9_7 _ ht1.1 ht1.2).1.1; omega) (n := 15) rfl ?_
  refine xw_iload_n (n := 16) (show xlook 63 15 = some (15, .iload_n 1, 1, 0, 0, 0, 0) from xlk (by decide +kernel)) rfl rfl ?_
  obtain ⟨q1, t⟩ := t
  refine xw_iald (show xlook 63 16 = some (16, .iaload, 1, 0, 0, 0, 0) from xlk (by decide +kernel)) (xtg_9_7 _ ht1.1 ht1.2).1 (by rw [(xtg_9_7 _ ht1.1 ht1.2).2]; exact q1) (n := 17) rfl ?_
  refine xw_isub (n := 18) (show xlook 63 17 = some (17, .isub, 1, 0, 0, 0, 0) from xlk (by decide +kernel)) rfl ?_
  refine xw_istore (n := 20) (show xlook 63 18 = some (18, .istore 4, 2, 0, 0, 0, 0) from xlk (by decide +kernel)) rfl (ls' := [.ref (o0), vi (x1), vi (x2), vi (x3), vi ((x3) - ((xup (F) (o0 + 7) (x1) (x3)) (t1 + 2) (x1))), w5, w6, w7, w8]) (Nat.le_of_ble_eq_true rfl) rfl ?_
  refine xw_aload_n (n := 21) (show xlook 63 20 = some (20, .aload_n 0, 1, 0, 0, 0, 0) from xlk (by decide +kernel)) rfl rfl ?_
  refine xw_getr (q := o0 + 1) (show xlook 63 21 = some (21, .getfield 12, 3, 6, 1, 0, 74) from xlk (by decide +kernel)) (by decide) (xobf h0 (by decide) (by decide)) rfl (xPT_get (k := 1) (f := 1) (xPT_arr hPT (Or.inl (xtg_6_6 _ h0.1 h0.2).1.2)) h0 (by decide)) (by have := (xtg_6_1 _ h0.1 h0.2).1; omega) (n := 24) rfl ?_
  refine xw_getr (q := o0 + 1 + 1) (show xlook 63 24 = some (24, .getfield 97, 3, 7, 1, 0, 94) from xlk (by decide +kernel)) (by decide) (xobf (xtg_6_1 _ h0.1 h0.2) (by decide) (by decide)) rfl (xPT_get (k := 1) (f := 1) (xPT_arr hPT (Or.inl (xtg_6_6 _ h0.1 h0.2).1.2)) (xtg_6_1 _ h0.1 h0.2) (by decide)) (by have := (xtg_7_1 _ (xtg_6_1 _ h0.1 h0.2).1 (xtg_6_1 _ h0.1 h0.2).2).1.1; omega) (n := 27) rfl ?_
  refine xw_iload_n (n := 28) (show xlook 63 27 = some (27, .iload_n 2, 1, 0, 0, 0, 0) from xlk (by decide +kernel)) rfl rfl ?_
  obtain ⟨q1, t⟩ := t
  refine xw_iald2 (u := (F) (o0 + 1 + 1) (x2)) (show xlook 63 28 = some (28, .iaload, 1, 0, 0, 0, 0) from xlk (by decide +kernel)) (xtg_7_1 _ (xtg_6_1 _ h0.1 h0.2).1 (xtg_6_1 _ h0.1 h0.2).2).1 (by rw [(xtg_7_1 _ (xtg_6_1 _ h0.1 h0.2).1 (xtg_6_1 _ h0.1 h0.2).2).2]; exact q1) (xup_o (by omega)) (n := 29) rfl ?_
  refine xw_iload_n (n := 30) (show xlook 63 29 = some (29, .iload_n 1, 1, 0, 0, 0, 0) from xlk (by decide +kernel)) rfl rfl ?_
  obtain ⟨q0, q1, t⟩ := t
  refine xw_icmp_ne (n := 33) (m := 37) (show xlook 63 30 = some (30, .if_icmp .ne 7, 3, 37, 0, 0, 0) from xlk (by decide +kernel)) rfl rfl q0 q1 ⟨fun c => ?_, fun c => ?_⟩
  · replace t := t.1 c
    refine xw_iconst (n := 38) (show xlook 63 37 = some (37, .iconst 0, 1, 0, 0, 0, 0) from xlk (by decide +kernel)) rfl ?_
    refine xw_istore (n := 40) (show xlook 63 38 = some (38, .istore 5, 2, 0, 0, 0, 0) from xlk (by decide +kernel)) rfl (ls' := [.ref (o0), vi (x1), vi (x2), vi (x3), vi ((x3) - ((xup (F) (o0 + 7) (x1) (x3)) (t1 + 2) (x1))), vi (0), w6, w7, w8]) (Nat.le_of_ble_eq_true rfl) rfl ?_
    refine xw_aload_n (n := 41) (show xlook 63 40 = some (40, .aload_n 0, 1, 0, 0, 0, 0) from xlk (by decide +kernel)) rfl rfl ?_
    refine xw_getr (q := o0 + 1) (show xlook 63 41 = some (41, .getfield 12, 3, 6, 1, 0, 74) from xlk (by decide +kernel)) (by decide) (xobf h0 (by decide) (by decide)) rfl (xPT_get (k := 1) (f := 1) (xPT_arr hPT (Or.inl (xtg_6_6 _ h0.1 h0.2).1.2)) h0 (by decide)) (by have := (xtg_6_1 _ h0.1 h0.2).1; omega) (n := 44) rfl ?_
    refine xw_getr (q := o0 + 1 + 2) (show xlook 63 44 = some (44, .getfield 105, 3, 7, 2, 0, 96) from xlk (by decide +kernel)) (by decide) (xobf (xtg_6_1 _ h0.1 h0.2) (by decide) (by decide)) rfl (xPT_get (k := 2) (f := 2) (xPT_arr hPT (Or.inl (xtg_6_6 _ h0.1 h0.2).1.2)) (xtg_6_1 _ h0.1 h0.2) (by decide)) (by have := (xtg_7_2 _ (xtg_6_1 _ h0.1 h0.2).1 (xtg_6_1 _ h0.1 h0.2).2).1.1; omega) (n := 47) rfl ?_
    refine xw_iload_n (n := 48) (show xlook 63 47 = some (47, .iload_n 2, 1, 0, 0, 0, 0) from xlk (by decide +kernel)) rfl rfl ?_
    obtain ⟨q1, t⟩ := t
    refine xw_iald2 (u := (F) (o0 + 1 + 2) (x2)) (show xlook 63 48 = some (48, .iaload, 1, 0, 0, 0, 0) from xlk (by decide +kernel)) (xtg_7_2 _ (xtg_6_1 _ h0.1 h0.2).1 (xtg_6_1 _ h0.1 h0.2).2).1 (by rw [(xtg_7_2 _ (xtg_6_1 _ h0.1 h0.2).1 (xtg_6_1 _ h0.1 h0.2).2).2]; exact q1) (xup_o (by omega)) (n := 49) rfl ?_
    refine xw_iload_n (n := 50) (show xlook 63 49 = some (49, .iload_n 1, 1, 0, 0, 0, 0) from xlk (by decide +kernel)) rfl rfl ?_
    obtain ⟨q0, q1, t⟩ := t
    refine xw_icmp_ne (n := 53) (m := 57) (show xlook 63 50 = some (50, .if_icmp .ne 7, 3, 57, 0, 0, 0) from xlk (by decide +kernel)) rfl rfl q0 q1 ⟨fun c => ?_, fun c => ?_⟩
    · replace t := t.1 c
      refine xw_iconst (n := 58) (show xlook 63 57 = some (57, .iconst 0, 1, 0, 0, 0, 0) from xlk (by decide +kernel)) rfl ?_
      refine xw_istore (n := 60) (show xlook 63 58 = some (58, .istore 6, 2, 0, 0, 0, 0) from xlk (by decide +kernel)) rfl (ls' := [.ref (o0), vi (x1), vi (x2), vi (x3), vi ((x3) - ((xup (F) (o0 + 7) (x1) (x3)) (t1 + 2) (x1))), vi (0), vi (0), w7, w8]) (Nat.le_of_ble_eq_true rfl) rfl ?_
      refine xw_iload (n := 62) (show xlook 63 60 = some (60, .iload 5, 2, 0, 0, 0, 0) from xlk (by decide +kernel)) rfl rfl ?_
      refine xw_if_ne (n := 65) (m := 70) (show xlook 63 62 = some (62, .ifCond .ne 8, 3, 70, 0, 0, 0) from xlk (by decide +kernel)) rfl rfl ⟨by decide, by decide⟩ ⟨fun c => absurd c (by decide), fun _ => ?_⟩
      refine xw_iload (n := 67) (show xlook 63 65 = some (65, .iload 6, 2, 0, 0, 0, 0) from xlk (by decide +kernel)) rfl rfl ?_
      refine xw_if_eq (n := 70) (m := 256) (show xlook 63 67 = some (67, .ifCond .eq 189, 3, 256, 0, 0, 0) from xlk (by decide +kernel)) rfl rfl ⟨by decide, by decide⟩ ⟨fun _ => ?_, fun c => absurd c (by decide)⟩
      exact t (xPT_arr hPT (Or.inl (xtg_6_6 _ h0.1 h0.2).1.2))
    · replace t := t.2 c
      refine xw_iconst (n := 54) (show xlook 63 53 = some (53, .iconst 1, 1, 0, 0, 0, 0) from xlk (by decide +kernel)) rfl ?_
      refine xw_goto (m := 58) (show xlook 63 54 = some (54, .goto 4, 3, 58, 0, 0, 0) from xlk (by decide +kernel)) rfl ?_
      refine xw_istore (n := 60) (show xlook 63 58 = some (58, .istore 6, 2, 0, 0, 0, 0) from xlk (by decide +kernel)) rfl (ls' := [.ref (o0), vi (x1), vi (x2), vi (x3), vi ((x3) - ((xup (F) (o0 + 7) (x1) (x3)) (t1 + 2) (x1))), vi (0), vi (1), w7, w8]) (Nat.le_of_ble_eq_true rfl) rfl ?_
      refine xw_iload (n := 62) (show xlook 63 60 = some (60, .iload 5, 2, 0, 0, 0, 0) from xlk (by decide +kernel)) rfl rfl ?_
      refine xw_if_ne (n := 65) (m := 70) (show xlook 63 62 = some (62, .ifCond .ne 8, 3, 70, 0, 0, 0) from xlk (by decide +kernel)) rfl rfl ⟨by decide, by decide⟩ ⟨fun c => absurd c (by decide), fun _ => ?_⟩
      refine xw_iload (n := 67) (show xlook 63 65 = some (65, .iload 6, 2, 0, 0, 0, 0) from xlk (by decide +kernel)) rfl rfl ?_
      refine xw_if_eq (n := 70) (m := 256) (show xlook 63 67 = some (67, .ifCond .eq 189, 3, 256, 0, 0, 0) from xlk (by decide +kernel)) rfl rfl ⟨by decide, by decide⟩ ⟨fun c => absurd c (by decide), fun _ => ?_⟩
      exact t (xPT_arr hPT (Or.inl (xtg_6_6 _ h0.1 h0.2).1.2))
  · replace t := t.2 c
    refine xw_iconst (n := 34) (show xlook 63 33 = some (33, .iconst 1, 1, 0, 0, 0, 0) from xlk (by decide +kernel)) rfl ?_
    refine xw_goto (m := 38) (show xlook 63 34 = some (34, .goto 4, 3, 38, 0, 0, 0) from xlk (by decide +kernel)) rfl ?_
    refine xw_istore (n := 40) (show xlook 63 38 = some (38, .istore 5, 2, 0, 0, 0, 0) from xlk (by decide +kernel)) rfl (ls' := [.ref (o0), vi (x1), vi (x2), vi (x3), vi ((x3) - ((xup (F) (o0 + 7) (x1) (x3)) (t1 + 2) (x1))), vi (1), w6, w7, w8]) (Nat.le_of_ble_eq_true rfl) rfl ?_
    refine xw_aload_n (n := 41) (show xlook 63 40 = some (40, .aload_n 0, 1, 0, 0, 0, 0) from xlk (by decide +kernel)) rfl rfl ?_
    refine xw_getr (q := o0 + 1) (show xlook 63 41 = some (41, .getfield 12, 3, 6, 1, 0, 74) from xlk (by decide +kernel)) (by decide) (xobf h0 (by decide) (by decide)) rfl (xPT_get (k := 1) (f := 1) (xPT_arr hPT (Or.inl (xtg_6_6 _ h0.1 h0.2).1.2)) h0 (by decide)) (by have := (xtg_6_1 _ h0.1 h0.2).1; omega) (n := 44) rfl ?_
    refine xw_getr (q := o0 + 1 + 2) (show xlook 63 44 = some (44, .getfield 105, 3, 7, 2, 0, 96) from xlk (by decide +kernel)) (by decide) (xobf (xtg_6_1 _ h0.1 h0.2) (by decide) (by decide)) rfl (xPT_get (k := 2) (f := 2) (xPT_arr hPT (Or.inl (xtg_6_6 _ h0.1 h0.2).1.2)) (xtg_6_1 _ h0.1 h0.2) (by decide)) (by have := (xtg_7_2 _ (xtg_6_1 _ h0.1 h0.2).1 (xtg_6_1 _ h0.1 h0.2).2).1.1; omega) (n := 47) rfl ?_
    refine xw_iload_n (n := 48) (show xlook 63 47 = some (47, .iload_n 2, 1, 0, 0, 0, 0) from xlk (by decide +kernel)) rfl rfl ?_
    obtain ⟨q1, t⟩ := t
    refine xw_iald2 (u := (F) (o0 + 1 + 2) (x2)) (show xlook 63 48 = some (48, .iaload, 1, 0, 0, 0, 0) from xlk (by decide +kernel)) (xtg_7_2 _ (xtg_6_1 _ h0.1 h0.2).1 (xtg_6_1 _ h0.1 h0.2).2).1 (by rw [(xtg_7_2 _ (xtg_6_1 _ h0.1 h0.2).1 (xtg_6_1 _ h0.1 h0.2).2).2]; exact q1) (xup_o (by omega)) (n := 49) rfl ?_
    refine xw_iload_n (n := 50) (show xlook 63 49 = some (49, .iload_n 1, 1, 0, 0, 0, 0) from xlk (by decide +kernel)) rfl rfl ?_
    obtain ⟨q0, q1, t⟩ := t
    refine xw_icmp_ne (n := 53) (m := 57) (show xlook 63 50 = some (50, .if_icmp .ne 7, 3, 57, 0, 0, 0) from xlk (by decide +kernel)) rfl rfl q0 q1 ⟨fun c => ?_, fun c => ?_⟩
    · replace t := t.1 c
      refine xw_iconst (n := 58) (show xlook 63 57 = some (57, .iconst 0, 1, 0, 0, 0, 0) from xlk (by decide +kernel)) rfl ?_
      refine xw_istore (n := 60) (show xlook 63 58 = some (58, .istore 6, 2, 0, 0, 0, 0) from xlk (by decide +kernel)) rfl (ls' := [.ref (o0), vi (x1), vi (x2), vi (x3), vi ((x3) - ((xup (F) (o0 + 7) (x1) (x3)) (t1 + 2) (x1))), vi (1), vi (0), w7, w8]) (Nat.le_of_ble_eq_true rfl) rfl ?_
      refine xw_iload (n := 62) (show xlook 63 60 = some (60, .iload 5, 2, 0, 0, 0, 0) from xlk (by decide +kernel)) rfl rfl ?_
      refine xw_if_ne (n := 65) (m := 70) (show xlook 63 62 = some (62, .ifCond .ne 8, 3, 70, 0, 0, 0) from xlk (by decide +kernel)) rfl rfl ⟨by decide, by decide⟩ ⟨fun _ => ?_, fun c => absurd c (by decide)⟩
      exact t (xPT_arr hPT (Or.inl (xtg_6_6 _ h0.1 h0.2).1.2))
    · replace t := t.2 c
      refine xw_iconst (n := 54) (show xlook 63 53 = some (53, .iconst 1, 1, 0, 0, 0, 0) from xlk (by decide +kernel)) rfl ?_
      refine xw_goto (m := 58) (show xlook 63 54 = some (54, .goto 4, 3, 58, 0, 0, 0) from xlk (by decide +kernel)) rfl ?_
      refine xw_istore (n := 60) (show xlook 63 58 = some (58, .istore 6, 2, 0, 0, 0, 0) from xlk (by decide +kernel)) rfl (ls' := [.ref (o0), vi (x1), vi (x2), vi (x3), vi ((x3) - ((xup (F) (o0 + 7) (x1) (x3)) (t1 + 2) (x1))), vi (1), vi (1), w7, w8]) (Nat.le_of_ble_eq_true rfl) rfl ?_
      refine xw_iload (n := 62) (show xlook 63 60 = some (60, .iload 5, 2, 0, 0, 0, 0) from xlk (by decide +kernel)) rfl rfl ?_
      refine xw_if_ne (n := 65) (m := 70) (show xlook 63 62 = some (62, .ifCond .ne 8, 3, 70, 0, 0, 0) from xlk (by decide +kernel)) rfl rfl ⟨by decide, by decide⟩ ⟨fun _ => ?_, fun c => absurd c (by decide)⟩
      exact t (xPT_arr hPT (Or.inl (xtg_6_6 _ h0.1 h0.2).1.2))
theorem m63 {X : List Int32} {d : Nat} {F : XF} {Q : XF → Prop} {o0 : Nat} {x1 : Int} {x2 : Int} {x3 : Int} (hPT : xPT F) (h0 : xob 6 o0) (t : (0 ≤ (x1) ∧ (x1) < 30) ∧ (∃ t1 : Nat, (xup (F) (o0 + 7) (x1) (x3)) (o0) 0 = (t1 : Int) ∧ xob 9 t1 ∧ ((0 ≤ (x1) ∧ (x1) < 30) ∧ ((0 ≤ (x2) ∧ (x2) < 30) ∧ (inR ((F) (o0 + 1 + 1) (x2)) ∧ inR (x1) ∧ (((¬ ((F) (o0 + 1 + 1) (x2)) = (x1)) → ((0 ≤ (x2) ∧ (x2) < 30) ∧ (inR ((F) (o0 + 1 + 2) (x2)) ∧ inR (x1) ∧ (((¬ ((F) (o0 + 1 + 2) (x2)) = (x1)) → (xPT (xup (F) (o0 + 7) (x1) (x3)) → xW X d 63 256 [.ref (o0), vi (x1), vi (x2), vi (x3), vi ((x3) - ((xup (F) (o0 + 7) (x1) (x3)) (t1 + 2) (x1))), vi (0), vi (0), xU0, xU0] [] (xup (F) (o0 + 7) (x1) (x3)) (xqv Q))) ∧ (¬ (¬ ((F) (o0 + 1 + 2) (x2)) = (x1)) → (xPT (xup (F) (o0 + 7) (x1) (x3)) → xW X d 63 70 [.ref (o0), vi (x1), vi (x2), vi (x3), vi ((x3) - ((xup (F) (o0 + 7) (x1) (x3)) (t1 + 2) (x1))), vi (0), vi (1), xU0, xU0] [] (xup (F) (o0 + 7) (x1) (x3)) (xqv Q))))))) ∧ (¬ (¬ ((F) (o0 + 1 + 1) (x2)) = (x1)) → ((0 ≤ (x2) ∧ (x2) < 30) ∧ (inR ((F) (o0 + 1 + 2) (x2)) ∧ inR (x1) ∧ (((¬ ((F) (o0 + 1 + 2) (x2)) = (x1)) → (xPT (xup (F) (o0 + 7) (x1) (x3)) → xW X d 63 70 [.ref (o0), vi (x1), vi (x2), vi (x3), vi ((x3) - ((xup (F) (o0 + 7) (x1) (x3)) (t1 + 2) (x1))), vi (1), vi (0), xU0, xU0] [] (xup (F) (o0 + 7) (x1) (x3)) (xqv Q))) ∧ (¬ (¬ ((F) (o0 + 1 + 2) (x2)) = (x1)) → (xPT (xup (F) (o0 + 7) (x1) (x3)) → xW X d 63 70 [.ref (o0), vi (x1), vi (x2), vi (x3), vi ((x3) - ((xup (F) (o0 + 7) (x1) (x3)) (t1 + 2) (x1))), vi (1), vi (1), xU0, xU0] [] (xup (F) (o0 + 7) (x1) (x3)) (xqv Q))))))))))))) : xMV X d 63 [.ref (o0), vi (x1), vi (x2), vi (x3)] F Q := by
  show xW X d 63 0 [.ref (o0), vi (x1), vi (x2), vi (x3), xU0, xU0, xU0, xU0, xU0] [] F (xqv Q)
  exact s63_0 hPT h0 t

