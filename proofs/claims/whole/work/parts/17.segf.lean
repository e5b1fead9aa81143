set_option maxHeartbeats 4000000
set_option maxRecDepth 100000
theorem s151_58 {X : List Int32} {d : Nat} {F : XF} {Q : Int → XF → Prop} {x1 : Int} {x2 : Int} {w3 : Value} (hPT : xPT F)  (t : inR ((F) (131) 7) ∧ (((¬ ((F) (131) 7) = (0)) → (xPT (F) → xW X d 151 83 [.ref (131), vi (x1), vi (x2), w3] [] (F) (xqi Q))) ∧ (¬ (¬ ((F) (131) 7) = (0)) → (∃ (j1 : Nat), j1 < d ∧ xMI X j1 136 [.ref (131)] (F) (fun (y1 : Int) (G1 : XF) => (inR (y1) ∧ ((((y1) = ((-1))) → (xPT (G1) → xW X d 151 83 [.ref (131), vi (x1), vi (x2), w3] [] (G1) (xqi Q))) ∧ (¬ ((y1) = ((-1))) → (∃ (j2 : Nat), j2 < d ∧ xMV X j2 150 [.ref (131)] (G1) (fun (G2 : XF) => (xPT (G2) → xW X d 151 58 [.ref (131), vi (x1), vi (x2 + 1), w3] [] (G2) (xqi Q)))))))))))) : xW X d 151 58 [.ref (131), vi (x1), vi (x2), w3] [] F (xqi Q) := by
  refine xw_aload_n (n := 59) (show xlook 151 58 = some (58, .aload_n 0, 1, 0, 0, 0, 0) from xlk (by decide +kernel)) rfl rfl ?_
  refine xw_geti (show xlook 151 59 = some (59, .getfield 76, 3, 12, 7, 0, 239) from xlk (by decide +kernel)) (by decide) (xobf xob_12 (by decide) (by decide)) rfl (n := 62) rfl ?_
  obtain ⟨q0, t⟩ := t
  refine xw_if_ne (n := 65) (m := 83) (show xlook 151 62 = some (62, .ifCond .ne 21, 3, 83, 0, 0, 0) from xlk (by decide +kernel)) rfl rfl q0 ⟨fun c => ?_, fun c => ?_⟩
  · replace t := t.1 c
    exact t hPT
  · replace t := t.2 c
    refine xw_aload_n (n := 66) (show xlook 151 65 = some (65, .aload_n 0, 1, 0, 0, 0, 0) from xlk (by decide +kernel)) rfl rfl ?_
    obtain ⟨j1, hj1, rr1, G1, hm1, hG1, t⟩ := t
    obtain ⟨y1, rfl, t⟩ := t
    refine xw_callv (dk := j1) (o := 131) (as := []) (show xlook 151 66 = some (66, .invokevirtual 91, 3, 136, 1, 0, 152) from xlk (by decide +kernel)) (by decide) hj1 ⟨Nat.le_of_ble_eq_true rfl, Nat.le_of_ble_eq_true rfl, Nat.le_of_ble_eq_true rfl⟩ ⟨xob_12.1, xob_12.2, by decide⟩ rfl hm1 (n := 69) rfl ?_
    show xW X d 151 69 [.ref (131), vi (x1), vi (x2), w3] [vi (y1)] G1 (xqi Q)
    refine xw_iconst (n := 70) (show xlook 151 69 = some (69, .iconst (-1), 1, 0, 0, 0, 0) from xlk (by decide +kernel)) rfl ?_
    obtain ⟨q0, t⟩ := t
    refine xw_icmp_eq (n := 73) (m := 83) (show xlook 151 70 = some (70, .if_icmp .eq 13, 3, 83, 0, 0, 0) from xlk (by decide +kernel)) rfl rfl q0 ⟨by decide, by decide⟩ ⟨fun c => ?_, fun c => ?_⟩
    · replace t := t.1 c
      exact t hG1
    · replace t := t.2 c
      refine xw_aload_n (n := 74) (show xlook 151 73 = some (73, .aload_n 0, 1, 0, 0, 0, 0) from xlk (by decide +kernel)) rfl rfl ?_
      obtain ⟨j2, hj2, rr2, G2, hm2, hG2, t⟩ := t
      obtain ⟨rfl, t⟩ := t
      refine xw_callv (dk := j2) (o := 131) (as := []) (show xlook 151 74 = some (74, .invokevirtual 155, 3, 150, 1, 0, 168) from xlk (by decide +kernel)) (by decide) hj2 ⟨Nat.le_of_ble_eq_true rfl, Nat.le_of_ble_eq_true rfl, Nat.le_of_ble_eq_true rfl⟩ ⟨xob_12.1, xob_12.2, by decide⟩ rfl hm2 (n := 77) rfl ?_
      show xW X d 151 77 [.ref (131), vi (x1), vi (x2), w3] [] G2 (xqi Q)
      refine xw_iinc (n := 80) (show xlook 151 77 = some (77, .iinc 2 1, 3, 0, 0, 0, 0) from xlk (by decide +kernel)) rfl (ls' := [.ref (131), vi (x1), vi (x2 + 1), w3]) rfl rfl ?_
      refine xw_goto (m := 58) (show xlook 151 80 = some (80, .goto (-22), 3, 58, 0, 0, 0) from xlk (by decide +kernel)) rfl ?_
      exact t hG2

theorem s151_83 {X : List Int32} {d : Nat} {F : XF} {Q : Int → XF → Prop} {x1 : Int} {x2 : Int} {w3 : Value} (hPT : xPT F)  (t : inR ((F) (131) 7) ∧ (((((F) (131) 7) = (0)) → (xPT (F) → xW X d 151 100 [.ref (131), vi (x1), vi (x2), vi (0)] [] (F) (xqi Q))) ∧ (¬ (((F) (131) 7) = (0)) → (xPT (F) → Q (((-30)) - ((F) (131) 7)) (F))))) : xW X d 151 83 [.ref (131), vi (x1), vi (x2), w3] [] F (xqi Q) := by
  refine xw_aload_n (n := 84) (show xlook 151 83 = some (83, .aload_n 0, 1, 0, 0, 0, 0) from xlk (by decide +kernel)) rfl rfl ?_
  refine xw_geti (show xlook 151 84 = some (84, .getfield 76, 3, 12, 7, 0, 239) from xlk (by decide +kernel)) (by decide) (xobf xob_12 (by decide) (by decide)) rfl (n := 87) rfl ?_
  obtain ⟨q0, t⟩ := t
  refine xw_if_eq (n := 90) (m := 98) (show xlook 151 87 = some (87, .ifCond .eq 11, 3, 98, 0, 0, 0) from xlk (by decide +kernel)) rfl rfl q0 ⟨fun c => ?_, fun c => ?_⟩
  · replace t := t.1 c
    refine xw_iconst (n := 99) (show xlook 151 98 = some (98, .iconst 0, 1, 0, 0, 0, 0) from xlk (by decide +kernel)) rfl ?_
    refine xw_istore_n (n := 100) (show xlook 151 99 = some (99, .istore_n 3, 1, 0, 0, 0, 0) from xlk (by decide +kernel)) rfl (ls' := [.ref (131), vi (x1), vi (x2), vi (0)]) (Nat.le_of_ble_eq_true rfl) rfl ?_
    exact t hPT
  · replace t := t.2 c
    refine xw_bipush (n := 92) (show xlook 151 90 = some (90, .bipush (-30), 2, 0, 0, 0, 0) from xlk (by decide +kernel)) rfl (by decide) ?_
    refine xw_aload_n (n := 93) (show xlook 151 92 = some (92, .aload_n 0, 1, 0, 0, 0, 0) from xlk (by decide +kernel)) rfl rfl ?_
    refine xw_geti (show xlook 151 93 = some (93, .getfield 76, 3, 12, 7, 0, 239) from xlk (by decide +kernel)) (by decide) (xobf xob_12 (by decide) (by decide)) rfl (n := 96) rfl ?_
    refine xw_isub (n := 97) (show xlook 151 96 = some (96, .isub, 1, 0, 0, 0, 0) from xlk (by decide +kernel)) rfl ?_
    exact xw_ireturn hPT (show xlook 151 97 = some (97, .ireturn, 1, 0, 0, 0, 0) from xlk (by decide +kernel)) rfl (t hPT)

theorem s151_100 {X : List Int32} {d : Nat} {F : XF} {Q : Int → XF → Prop} {x1 : Int} {x2 : Int} {x3 : Int} (hPT : xPT F)  (t : inR (x3) ∧ ((((163) ≤ (x3)) → (∃ (j1 : Nat), j1 < d ∧ xMV X j1 170 [.ref (131), vi (0)] (xup (F) (131) 12 (0)) (fun (G1 : XF) => (xPT (G1) → Q (x2) (G1))))) ∧ (¬ ((163) ≤ (x3)) → ((0 ≤ (x3) ∧ (x3) < 163) ∧ ((0 ≤ (x3) ∧ (x3) < 163) ∧ (xPT (xup (F) (132) (x3) ((F) (133) (x3))) → xW X d 151 100 [.ref (131), vi (x1), vi (x2), vi (x3 + 1)] [] (xup (F) (132) (x3) ((F) (133) (x3))) (xqi Q))))))) : xW X d 151 100 [.ref (131), vi (x1), vi (x2), vi (x3)] [] F (xqi Q) := by
  refine xw_iload_n (n := 101) (show xlook 151 100 = some (100, .iload_n 3, 1, 0, 0, 0, 0) from xlk (by decide +kernel)) rfl rfl ?_
  refine xw_sipush (n := 104) (show xlook 151 101 = some (101, .sipush 163, 3, 0, 0, 0, 0) from xlk (by decide +kernel)) rfl (by decide) ?_
  obtain ⟨q0, t⟩ := t
  refine xw_icmp_ge (n := 107) (m := 125) (show xlook 151 104 = some (104, .if_icmp .ge 21, 3, 125, 0, 0, 0) from xlk (by decide +kernel)) rfl rfl q0 ⟨by decide, by decide⟩ ⟨fun c => ?_, fun c => ?_⟩
  · replace t := t.1 c
    refine xw_aload_n (n := 126) (show xlook 151 125 = some (125, .aload_n 0, 1, 0, 0, 0, 0) from xlk (by decide +kernel)) rfl rfl ?_
    refine xw_iconst (n := 127) (show xlook 151 126 = some (126, .iconst 0, 1, 0, 0, 0, 0) from xlk (by decide +kernel)) rfl ?_
    refine xw_puti (show xlook 151 127 = some (127, .putfield 158, 3, 12, 12, 0, 242) from xlk (by decide +kernel)) (xobf xob_12 (by decide) (by decide)) rfl (n := 130) rfl ?_
    refine xw_aload_n (n := 131) (show xlook 151 130 = some (130, .aload_n 0, 1, 0, 0, 0, 0) from xlk (by decide +kernel)) rfl rfl ?_
    refine xw_iconst (n := 132) (show xlook 151 131 = some (131, .iconst 0, 1, 0, 0, 0, 0) from xlk (by decide +kernel)) rfl ?_
    obtain ⟨j1, hj1, rr1, G1, hm1, hG1, t⟩ := t
    obtain ⟨rfl, t⟩ := t
    refine xw_callv (dk := j1) (o := 131) (as := [vi (0)]) (show xlook 151 132 = some (132, .invokevirtual 63, 3, 170, 2, 0, 150) from xlk (by decide +kernel)) (by decide) hj1 ⟨Nat.le_of_ble_eq_true rfl, Nat.le_of_ble_eq_true rfl, Nat.le_of_ble_eq_true rfl⟩ ⟨xob_12.1, xob_12.2, by decide⟩ rfl hm1 (n := 135) rfl ?_
    show xW X d 151 135 [.ref (131), vi (x1), vi (x2), vi (x3)] [] G1 (xqi Q)
    refine xw_iload_n (n := 136) (show xlook 151 135 = some (135, .iload_n 2, 1, 0, 0, 0, 0) from xlk (by decide +kernel)) rfl rfl ?_
    exact xw_ireturn hG1 (show xlook 151 136 = some (136, .ireturn, 1, 0, 0, 0, 0) from xlk (by decide +kernel)) rfl (t hG1)
  · replace t := t.2 c
    refine xw_aload_n (n := 108) (show xlook 151 107 = some (107, .aload_n 0, 1, 0, 0, 0, 0) from xlk (by decide +kernel)) rfl rfl ?_
    refine xw_getr (q := 132) (show xlook 151 108 = some (108, .getfield 13, 3, 12, 1, 0, 220) from xlk (by decide +kernel)) (by decide) (xobf xob_12 (by decide) (by decide)) rfl (xPT_get (k := 1) (f := 1) hPT xob_12 (by decide)) (by have := (xtg_12_1 _ xob_12.1 xob_12.2).1.1; omega) (n := 111) rfl ?_
    refine xw_iload_n (n := 112) (show xlook 151 111 = some (111, .iload_n 3, 1, 0, 0, 0, 0) from xlk (by decide +kernel)) rfl rfl ?_
    refine xw_aload_n (n := 113) (show xlook 151 112 = some (112, .aload_n 0, 1, 0, 0, 0, 0) from xlk (by decide +kernel)) rfl rfl ?_
    refine xw_getr (q := 133) (show xlook 151 113 = some (113, .getfield 17, 3, 12, 2, 0, 221) from xlk (by decide +kernel)) (by decide) (xobf xob_12 (by decide) (by decide)) rfl (xPT_get (k := 2) (f := 2) hPT xob_12 (by decide)) (by have := (xtg_12_2 _ xob_12.1 xob_12.2).1.1; omega) (n := 116) rfl ?_
    refine xw_iload_n (n := 117) (show xlook 151 116 = some (116, .iload_n 3, 1, 0, 0, 0, 0) from xlk (by decide +kernel)) rfl rfl ?_
    obtain ⟨q1, t⟩ := t
    refine xw_iald (show xlook 151 117 = some (117, .iaload, 1, 0, 0, 0, 0) from xlk (by decide +kernel)) (xtg_12_2 _ xob_12.1 xob_12.2).1 (by rw [(xtg_12_2 _ xob_12.1 xob_12.2).2]; exact q1) (n := 118) rfl ?_
    obtain ⟨q1, t⟩ := t
    refine xw_iast (show xlook 151 118 = some (118, .iastore, 1, 0, 0, 0, 0) from xlk (by decide +kernel)) (xtg_12_1 _ xob_12.1 xob_12.2).1 (by rw [(xtg_12_1 _ xob_12.1 xob_12.2).2]; exact q1) (n := 119) rfl ?_
    refine xw_iinc (n := 122) (show xlook 151 119 = some (119, .iinc 3 1, 3, 0, 0, 0, 0) from xlk (by decide +kernel)) rfl (ls' := [.ref (131), vi (x1), vi (x2), vi (x3 + 1)]) rfl rfl ?_
    refine xw_goto (m := 100) (show xlook 151 122 = some (122, .goto (-22), 3, 100, 0, 0, 0) from xlk (by decide +kernel)) rfl ?_
    exact t (xPT_arr hPT (Or.inl (xtg_12_1 _ xob_12.1 xob_12.2).1.2))

theorem s152_0 {X : List Int32} {d : Nat} {F : XF} {Q : Int → XF → Prop} {x1 : Int} (hPT : xPT F)  (t : inR (x1) ∧ (((¬ (x1) = (0)) → (inR (x1) ∧ (((¬ (x1) = (1)) → (xPT (xup (F) (131) 0 (0)) → Q ((-1)) (xup (F) (131) 0 (0)))) ∧ (¬ (¬ (x1) = (1)) → (xPT (xup (F) (131) 0 (0)) → Q ((F) (131) 8) (xup (F) (131) 0 (0))))))) ∧ (¬ (¬ (x1) = (0)) → (xPT (xup (F) (131) 0 (0)) → Q ((F) (131) 7) (xup (F) (131) 0 (0)))))) : xW X d 152 0 [.ref (131), vi (x1)] [] F (xqi Q) := by
  refine xw_aload_n (n := 1) (show xlook 152 0 = some (0, .aload_n 0, 1, 0, 0, 0, 0) from xlk (by decide +kernel)) rfl rfl ?_
  refine xw_iconst (n := 2) (show xlook 152 1 = some (1, .iconst 0, 1, 0, 0, 0, 0) from xlk (by decide +kernel)) rfl ?_
  refine xw_puti (show xlook 152 2 = some (2, .putfield 1, 3, 12, 0, 0, 235) from xlk (by decide +kernel)) (xobf xob_12 (by decide) (by decide)) rfl (n := 5) rfl ?_
  refine xw_iload_n (n := 6) (show xlook 152 5 = some (5, .iload_n 1, 1, 0, 0, 0, 0) from xlk (by decide +kernel)) rfl rfl ?_
  obtain ⟨q0, t⟩ := t
  refine xw_if_ne (n := 9) (m := 16) (show xlook 152 6 = some (6, .ifCond .ne 10, 3, 16, 0, 0, 0) from xlk (by decide +kernel)) rfl rfl q0 ⟨fun c => ?_, fun c => ?_⟩
  · replace t := t.1 c
    refine xw_iload_n (n := 17) (show xlook 152 16 = some (16, .iload_n 1, 1, 0, 0, 0, 0) from xlk (by decide +kernel)) rfl rfl ?_
    refine xw_iconst (n := 18) (show xlook 152 17 = some (17, .iconst 1, 1, 0, 0, 0, 0) from xlk (by decide +kernel)) rfl ?_
    obtain ⟨q0, t⟩ := t
    refine xw_icmp_ne (n := 21) (m := 28) (show xlook 152 18 = some (18, .if_icmp .ne 10, 3, 28, 0, 0, 0) from xlk (by decide +kernel)) rfl rfl q0 ⟨by decide, by decide⟩ ⟨fun c => ?_, fun c => ?_⟩
    · replace t := t.1 c
      refine xw_iconst (n := 29) (show xlook 152 28 = some (28, .iconst (-1), 1, 0, 0, 0, 0) from xlk (by decide +kernel)) rfl ?_
      exact xw_ireturn (xPT_fld (k := 0) hPT xob_12 (by decide) (by decide)) (show xlook 152 29 = some (29, .ireturn, 1, 0, 0, 0, 0) from xlk (by decide +kernel)) rfl (t (xPT_fld (k := 0) hPT xob_12 (by decide) (by decide)))
    · replace t := t.2 c
      refine xw_aload_n (n := 22) (show xlook 152 21 = some (21, .aload_n 0, 1, 0, 0, 0, 0) from xlk (by decide +kernel)) rfl rfl ?_
      refine xw_geti2 (u := (F) (131) 8) (show xlook 152 22 = some (22, .getfield 24, 3, 12, 8, 0, 223) from xlk (by decide +kernel)) (by decide) (xobf xob_12 (by decide) (by decide)) rfl (xup_i (by decide)) (n := 25) rfl ?_
      refine xw_goto (m := 29) (show xlook 152 25 = some (25, .goto 4, 3, 29, 0, 0, 0) from xlk (by decide +kernel)) rfl ?_
      exact xw_ireturn (xPT_fld (k := 0) hPT xob_12 (by decide) (by decide)) (show xlook 152 29 = some (29, .ireturn, 1, 0, 0, 0, 0) from xlk (by decide +kernel)) rfl (t (xPT_fld (k := 0) hPT xob_12 (by decide) (by decide)))
  · replace t := t.2 c
    refine xw_aload_n (n := 10) (show xlook 152 9 = some (9, .aload_n 0, 1, 0, 0, 0, 0) from xlk (by decide +kernel)) rfl rfl ?_
    refine xw_geti2 (u := (F) (131) 7) (show xlook 152 10 = some (10, .getfield 76, 3, 12, 7, 0, 239) from xlk (by decide +kernel)) (by decide) (xobf xob_12 (by decide) (by decide)) rfl (xup_i (by decide)) (n := 13) rfl ?_
    refine xw_goto (m := 29) (show xlook 152 13 = some (13, .goto 16, 3, 29, 0, 0, 0) from xlk (by decide +kernel)) rfl ?_
    exact xw_ireturn (xPT_fld (k := 0) hPT xob_12 (by decide) (by decide)) (show xlook 152 29 = some (29, .ireturn, 1, 0, 0, 0, 0) from xlk (by decide +kernel)) rfl (t (xPT_fld (k := 0) hPT xob_12 (by decide) (by decide)))
theorem m152 {X : List Int32} {d : Nat} {F : XF} {Q : Int → XF → Prop} {x1 : Int} (hPT : xPT F)  (t : inR (x1) ∧ (((¬ (x1) = (0)) → (inR (x1) ∧ (((¬ (x1) = (1)) → (xPT (xup (F) (131) 0 (0)) → Q ((-1)) (xup (F) (131) 0 (0)))) ∧ (¬ (¬ (x1) = (1)) → (xPT (xup (F) (131) 0 (0)) → Q ((F) (131) 8) (xup (F) (131) 0 (0))))))) ∧ (¬ (¬ (x1) = (0)) → (xPT (xup (F) (131) 0 (0)) → Q ((F) (131) 7) (xup (F) (131) 0 (0)))))) : xMI X d 152 [.ref (131), vi (x1)] F Q := by
  show xW X d 152 0 [.ref (131), vi (x1)] [] F (xqi Q)
  exact s152_0 hPT  t

theorem s153_0 {X : List Int32} {d : Nat} {F : XF} {Q : XF → Prop} {w1 : Value} (hPT : xPT F)  (t : inR ((F) (131) 12) ∧ (((¬ ((F) (131) 12) = (10)) → (xPT (F) → xW X d 153 52 [.ref (131), vi (0)] [] (F) (xqv Q))) ∧ (¬ (¬ ((F) (131) 12) = (10)) → (xPT (F) → xW X d 153 11 [.ref (131), vi (0)] [] (F) (xqv Q))))) : xW X d 153 0 [.ref (131), w1] [] F (xqv Q) := by
  refine xw_aload_n (n := 1) (show xlook 153 0 = some (0, .aload_n 0, 1, 0, 0, 0, 0) from xlk (by decide +kernel)) rfl rfl ?_
  refine xw_geti (show xlook 153 1 = some (1, .getfield 158, 3, 12, 12, 0, 242) from xlk (by decide +kernel)) (by decide) (xobf xob_12 (by decide) (by decide)) rfl (n := 4) rfl ?_
  refine xw_bipush (n := 6) (show xlook 153 4 = some (4, .bipush 10, 2, 0, 0, 0, 0) from xlk (by decide +kernel)) rfl (by decide) ?_
  obtain ⟨q0, t⟩ := t
  refine xw_icmp_ne (n := 9) (m := 50) (show xlook 153 6 = some (6, .if_icmp .ne 44, 3, 50, 0, 0, 0) from xlk (by decide +kernel)) rfl rfl q0 ⟨by decide, by decide⟩ ⟨fun c => ?_, fun c => ?_⟩
  · replace t := t.1 c
    refine xw_iconst (n := 51) (show xlook 153 50 = some (50, .iconst 0, 1, 0, 0, 0, 0) from xlk (by decide +kernel)) rfl ?_
    refine xw_istore_n (n := 52) (show xlook 153 51 = some (51, .istore_n 1, 1, 0, 0, 0, 0) from xlk (by decide +kernel)) rfl (ls' := [.ref (131), vi (0)]) (Nat.le_of_ble_eq_true rfl) rfl ?_
    exact t hPT
  · replace t := t.2 c
    refine xw_iconst (n := 10) (show xlook 153 9 = some (9, .iconst 0, 1, 0, 0, 0, 0) from xlk (by decide +kernel)) rfl ?_
    refine xw_istore_n (n := 11) (show xlook 153 10 = some (10, .istore_n 1, 1, 0, 0, 0, 0) from xlk (by decide +kernel)) rfl (ls' := [.ref (131), vi (0)]) (Nat.le_of_ble_eq_true rfl) rfl ?_
    exact t hPT
theorem m153 {X : List Int32} {d : Nat} {F : XF} {Q : XF → Prop}  (hPT : xPT F)  (t : inR ((F) (131) 12) ∧ (((¬ ((F) (131) 12) = (10)) → (xPT (F) → xW X d 153 52 [.ref (131), vi (0)] [] (F) (xqv Q))) ∧ (¬ (¬ ((F) (131) 12) = (10)) → (xPT (F) → xW X d 153 11 [.ref (131), vi (0)] [] (F) (xqv Q))))) : xMV X d 153 [.ref (131)] F Q := by
  show xW X d 153 0 [.ref (131), xU0] [] F (xqv Q)
  exact s153_0 hPT  t

theorem s153_11 {X : List Int32} {d : Nat} {F : XF} {Q : XF → Prop} {x1 : Int} (hPT : xPT F)  (t : inR (x1) ∧ ((((1467) ≤ (x1)) → (xPT (xup (F) (131) 12 (((F) (131) 12) - (1))) → xW X d 153 52 [.ref (131), vi (0)] [] (xup (F) (131) 12 (((F) (131) 12) - (1))) (xqv Q))) ∧ (¬ ((1467) ≤ (x1)) → ((0 ≤ ((x1) + (163)) ∧ ((x1) + (163)) < 1630) ∧ ((0 ≤ (x1) ∧ (x1) < 1630) ∧ (xPT (xup (F) (135) (x1) ((F) (135) ((x1) + (163)))) → xW X d 153 11 [.ref (131), vi (x1 + 1)] [] (xup (F) (135) (x1) ((F) (135) ((x1) + (163)))) (xqv Q))))))) : xW X d 153 11 [.ref (131), vi (x1)] [] F (xqv Q) := by
  refine xw_iload_n (n := 12) (show xlook 153 11 = some (11, .iload_n 1, 1, 0, 0, 0, 0) from xlk (by decide +kernel)) rfl rfl ?_
  refine xw_sipush (n := 15) (show xlook 153 12 = some (12, .sipush 1467, 3, 0, 0, 0, 0) from xlk (by decide +kernel)) rfl (by decide) ?_
  obtain ⟨q0, t⟩ := t
  refine xw_icmp_ge (n := 18) (m := 40) (show xlook 153 15 = some (15, .if_icmp .ge 25, 3, 40, 0, 0, 0) from xlk (by decide +kernel)) rfl rfl q0 ⟨by decide, by decide⟩ ⟨fun c => ?_, fun c => ?_⟩
  · replace t := t.1 c
    refine xw_aload_n (n := 41) (show xlook 153 40 = some (40, .aload_n 0, 1, 0, 0, 0, 0) from xlk (by decide +kernel)) rfl rfl ?_
    refine xw_dupr (n := 42) (show xlook 153 41 = some (41, .dup, 1, 0, 0, 0, 0) from xlk (by decide +kernel)) rfl ?_
    refine xw_geti (show xlook 153 42 = some (42, .getfield 158, 3, 12, 12, 0, 242) from xlk (by decide +kernel)) (by decide) (xobf xob_12 (by decide) (by decide)) rfl (n := 45) rfl ?_
    refine xw_iconst (n := 46) (show xlook 153 45 = some (45, .iconst 1, 1, 0, 0, 0, 0) from xlk (by decide +kernel)) rfl ?_
    refine xw_isub (n := 47) (show xlook 153 46 = some (46, .isub, 1, 0, 0, 0, 0) from xlk (by decide +kernel)) rfl ?_
    refine xw_puti (show xlook 153 47 = some (47, .putfield 158, 3, 12, 12, 0, 242) from xlk (by decide +kernel)) (xobf xob_12 (by decide) (by decide)) rfl (n := 50) rfl ?_
    refine xw_iconst (n := 51) (show xlook 153 50 = some (50, .iconst 0, 1, 0, 0, 0, 0) from xlk (by decide +kernel)) rfl ?_
    refine xw_istore_n (n := 52) (show xlook 153 51 = some (51, .istore_n 1, 1, 0, 0, 0, 0) from xlk (by decide +kernel)) rfl (ls' := [.ref (131), vi (0)]) (Nat.le_of_ble_eq_true rfl) rfl ?_
    exact t (xPT_fld (k := 12) hPT xob_12 (by decide) (by decide))
  · replace t := t.2 c
    refine xw_aload_n (n := 19) (show xlook 153 18 = some (18, .aload_n 0, 1, 0, 0, 0, 0) from xlk (by decide +kernel)) rfl rfl ?_
    refine xw_getr (q := 135) (show xlook 153 19 = some (19, .getfield 27, 3, 12, 11, 0, 224) from xlk (by decide +kernel)) (by decide) (xobf xob_12 (by decide) (by decide)) rfl (xPT_get (k := 11) (f := 4) hPT xob_12 (by decide)) (by have := (xtg_12_11 _ xob_12.1 xob_12.2).1.1; omega) (n := 22) rfl ?_
    refine xw_iload_n (n := 23) (show xlook 153 22 = some (22, .iload_n 1, 1, 0, 0, 0, 0) from xlk (by decide +kernel)) rfl rfl ?_
    refine xw_aload_n (n := 24) (show xlook 153 23 = some (23, .aload_n 0, 1, 0, 0, 0, 0) from xlk (by decide +kernel)) rfl rfl ?_
    refine xw_getr (q := 135) (show xlook 153 24 = some (24, .getfield 27, 3, 12, 11, 0, 224) from xlk (by decide +kernel)) (by decide) (xobf xob_12 (by decide) (by decide)) rfl (xPT_get (k := 11) (f := 4) hPT xob_12 (by decide)) (by have := (xtg_12_11 _ xob_12.1 xob_12.2).1.1; omega) (n := 27) rfl ?_
    refine xw_iload_n (n := 28) (show xlook 153 27 = some (27, .iload_n 1, 1, 0, 0, 0, 0) from xlk (by decide +kernel)) rfl rfl ?_
    refine xw_sipush (n := 31) (show xlook 153 28 = some (28, .sipush 163, 3, 0, 0, 0, 0) from xlk (by decide +kernel)) rfl (by decide) ?_
    refine xw_iadd (n := 32) (show xlook 153 31 = some (31, .iadd, 1, 0, 0, 0, 0) from xlk (by decide +kernel)) rfl ?_
    obtain ⟨q1, t⟩ := t
    refine xw_iald (show xlook 153 32 = some (32, .iaload, 1, 0, 0, 0, 0) from xlk (by decide +kernel)) (xtg_12_11 _ xob_12.1 xob_12.2).1 (by rw [(xtg_12_11 _ xob_12.1 xob_12.2).2]; exact q1) (n := 33) rfl ?_
    obtain ⟨q1, t⟩ := t
    refine xw_iast (show xlook 153 33 = some (33, .iastore, 1, 0, 0, 0, 0) from xlk (by decide +kernel)) (xtg_12_11 _ xob_12.1 xob_12.2).1 (by rw [(xtg_12_11 _ xob_12.1 xob_12.2).2]; exact q1) (n := 34) rfl ?_
    refine xw_iinc (n := 37) (show xlook 153 34 = some (34, .iinc 1 1, 3, 0, 0, 0, 0) from xlk (by decide +kernel)) rfl (ls' := [.ref (131), vi (x1 + 1)]) rfl rfl ?_
    refine xw_goto (m := 11) (show xlook 153 37 = some (37, .goto (-26), 3, 11, 0, 0, 0) from xlk (by decide +kernel)) rfl ?_
    exact t (xPT_arr hPT (Or.inl (xtg_12_11 _ xob_12.1 xob_12.2).1.2))

theorem s153_52 {X : List Int32} {d : Nat} {F : XF} {Q : XF → Prop} {x1 : Int} (hPT : xPT F)  (t : inR (x1) ∧ ((((163) ≤ (x1)) → (xPT (xup (F) (131) 12 (((F) (131) 12) + (1))) → Q (xup (F) (131) 12 (((F) (131) 12) + (1))))) ∧ (¬ ((163) ≤ (x1)) → ((0 ≤ (x1) ∧ (x1) < 163) ∧ ((0 ≤ (((163) * ((F) (131) 12)) + (x1)) ∧ (((163) * ((F) (131) 12)) + (x1)) < 1630) ∧ (xPT (xup (F) (135) (((163) * ((F) (131) 12)) + (x1)) ((F) (132) (x1))) → xW X d 153 52 [.ref (131), vi (x1 + 1)] [] (xup (F) (135) (((163) * ((F) (131) 12)) + (x1)) ((F) (132) (x1))) (xqv Q))))))) : xW X d 153 52 [.ref (131), vi (x1)] [] F (xqv Q) := by
  refine xw_iload_n (n := 53) (show xlook 153 52 = some (52, .iload_n 1, 1, 0, 0, 0, 0) from xlk (by decide +kernel)) rfl rfl ?_
  refine xw_sipush (n := 56) (show xlook 153 53 = some (53, .sipush 163, 3, 0, 0, 0, 0) from xlk (by decide +kernel)) rfl (by decide) ?_
  obtain ⟨q0, t⟩ := t
  refine xw_icmp_ge (n := 59) (m := 86) (show xlook 153 56 = some (56, .if_icmp .ge 30, 3, 86, 0, 0, 0) from xlk (by decide +kernel)) rfl rfl q0 ⟨by decide, by decide⟩ ⟨fun c => ?_, fun c => ?_⟩
  · replace t := t.1 c
    refine xw_aload_n (n := 87) (show xlook 153 86 = some (86, .aload_n 0, 1, 0, 0, 0, 0) from xlk (by decide +kernel)) rfl rfl ?_
    refine xw_dupr (n := 88) (show xlook 153 87 = some (87, .dup, 1, 0, 0, 0, 0) from xlk (by decide +kernel)) rfl ?_
    refine xw_geti (show xlook 153 88 = some (88, .getfield 158, 3, 12, 12, 0, 242) from xlk (by decide +kernel)) (by decide) (xobf xob_12 (by decide) (by decide)) rfl (n := 91) rfl ?_
    refine xw_iconst (n := 92) (show xlook 153 91 = some (91, .iconst 1, 1, 0, 0, 0, 0) from xlk (by decide +kernel)) rfl ?_
    refine xw_iadd (n := 93) (show xlook 153 92 = some (92, .iadd, 1, 0, 0, 0, 0) from xlk (by decide +kernel)) rfl ?_
    refine xw_puti (show xlook 153 93 = some (93, .putfield 158, 3, 12, 12, 0, 242) from xlk (by decide +kernel)) (xobf xob_12 (by decide) (by decide)) rfl (n := 96) rfl ?_
    exact xw_return (xPT_fld (k := 12) hPT xob_12 (by decide) (by decide)) (show xlook 153 96 = some (96, .return_, 1, 0, 0, 0, 0) from xlk (by decide +kernel)) rfl (t (xPT_fld (k := 12) hPT xob_12 (by decide) (by decide)))
  · replace t := t.2 c
    refine xw_aload_n (n := 60) (show xlook 153 59 = some (59, .aload_n 0, 1, 0, 0, 0, 0) from xlk (by decide +kernel)) rfl rfl ?_
    refine xw_getr (q := 135) (show xlook 153 60 = some (60, .getfield 27, 3, 12, 11, 0, 224) from xlk (by decide +kernel)) (by decide) (xobf xob_12 (by decide) (by decide)) rfl (xPT_get (k := 11) (f := 4) hPT xob_12 (by decide)) (by have := (xtg_12_11 _ xob_12.1 xob_12.2).1.1; omega) (n := 63) rfl ?_
    refine xw_sipush (n := 66) (show xlook 153 63 = some (63, .sipush 163, 3, 0, 0, 0, 0) from xlk (by decide +kernel)) rfl (by decide) ?_
    refine xw_aload_n (n := 67) (show xlook 153 66 = some (66, .aload_n 0, 1, 0, 0, 0, 0) from xlk (by decide +kernel)) rfl rfl ?_
    refine xw_geti (show xlook 153 67 = some (67, .getfield 158, 3, 12, 12, 0, 242) from xlk (by decide +kernel)) (by decide) (xobf xob_12 (by decide) (by decide)) rfl (n := 70) rfl ?_
    refine xw_imul (n := 71) (show xlook 153 70 = some (70, .imul, 1, 0, 0, 0, 0) from xlk (by decide +kernel)) rfl ?_
    refine xw_iload_n (n := 72) (show xlook 153 71 = some (71, .iload_n 1, 1, 0, 0, 0, 0) from xlk (by decide +kernel)) rfl rfl ?_
    refine xw_iadd (n := 73) (show xlook 153 72 = some (72, .iadd, 1, 0, 0, 0, 0) from xlk (by decide +kernel)) rfl ?_
    refine xw_aload_n (n := 74) (show xlook 153 73 = some (73, .aload_n 0, 1, 0, 0, 0, 0) from xlk (by decide +kernel)) rfl rfl ?_
    refine xw_getr (q := 132) (show xlook 153 74 = some (74, .getfield 13, 3, 12, 1, 0, 220) from xlk (by decide +kernel)) (by decide) (xobf xob_12 (by decide) (by decide)) rfl (xPT_get (k := 1) (f := 1) hPT xob_12 (by decide)) (by have := (xtg_12_1 _ xob_12.1 xob_12.2).1.1; omega) (n := 77) rfl ?_
    refine xw_iload_n (n := 78) (show xlook 153 77 = some (77, .iload_n 1, 1, 0, 0, 0, 0) from xlk (by decide +kernel)) rfl rfl ?_
    obtain ⟨q1, t⟩ := t
    refine xw_iald (show xlook 153 78 = some (78, .iaload, 1, 0, 0, 0, 0) from xlk (by decide +kernel)) (xtg_12_1 _ xob_12.1 xob_12.2).1 (by rw [(xtg_12_1 _ xob_12.1 xob_12.2).2]; exact q1) (n := 79) rfl ?_
    obtain ⟨q1, t⟩ := t
    refine xw_iast (show xlook 153 79 = some (79, .iastore, 1, 0, 0, 0, 0) from xlk (by decide +kernel)) (xtg_12_11 _ xob_12.1 xob_12.2).1 (by rw [(xtg_12_11 _ xob_12.1 xob_12.2).2]; exact q1) (n := 80) rfl ?_
    refine xw_iinc (n := 83) (show xlook 153 80 = some (80, .iinc 1 1, 3, 0, 0, 0, 0) from xlk (by decide +kernel)) rfl (ls' := [.ref (131), vi (x1 + 1)]) rfl rfl ?_
    refine xw_goto (m := 52) (show xlook 153 83 = some (83, .goto (-31), 3, 52, 0, 0, 0) from xlk (by decide +kernel)) rfl ?_
    exact t (xPT_arr hPT (Or.inl (xtg_12_11 _ xob_12.1 xob_12.2).1.2))

theorem s154_0 {X : List Int32} {d : Nat} {F : XF} {Q : Int → XF → Prop}  (hPT : xPT F)  (t : xPT (F) → Q ((F) (132) 5) (F)) : xW X d 154 0 [.ref (131)] [] F (xqi Q) := by
  refine xw_aload_n (n := 1) (show xlook 154 0 = some (0, .aload_n 0, 1, 0, 0, 0, 0) from xlk (by decide +kernel)) rfl rfl ?_
  refine xw_getr (q := 132) (show xlook 154 1 = some (1, .getfield 13, 3, 12, 1, 0, 220) from xlk (by decide +kernel)) (by decide) (xobf xob_12 (by decide) (by decide)) rfl (xPT_get (k := 1) (f := 1) hPT xob_12 (by decide)) (by have := (xtg_12_1 _ xob_12.1 xob_12.2).1.1; omega) (n := 4) rfl ?_
  refine xw_iconst (n := 5) (show xlook 154 4 = some (4, .iconst 5, 1, 0, 0, 0, 0) from xlk (by decide +kernel)) rfl ?_
  refine xw_iald (show xlook 154 5 = some (5, .iaload, 1, 0, 0, 0, 0) from xlk (by decide +kernel)) (xtg_12_1 _ xob_12.1 xob_12.2).1 (by rw [(xtg_12_1 _ xob_12.1 xob_12.2).2]; decide) (n := 6) rfl ?_
  exact xw_ireturn hPT (show xlook 154 6 = some (6, .ireturn, 1, 0, 0, 0, 0) from xlk (by decide +kernel)) rfl (t hPT)
theorem m154 {X : List Int32} {d : Nat} {F : XF} {Q : Int → XF → Prop}  (hPT : xPT F)  (t : xPT (F) → Q ((F) (132) 5) (F)) : xMI X d 154 [.ref (131)] F Q := by
  show xW X d 154 0 [.ref (131)] [] F (xqi Q)
  exact s154_0 hPT  t

theorem s155_0 {X : List Int32} {d : Nat} {F : XF} {Q : Int → XF → Prop} {x1 : Int} (hPT : xPT F)  (t : (inR (x1)) ∧ (∃ (j1 : Nat), j1 < d ∧ xMI X j1 154 [.ref (131)] (F) (fun (y1 : Int) (G1 : XF) => ((inR ((y1) - (1))) ∧ (∃ (j2 : Nat), j2 < d ∧ xMI X j2 132 [vl (x1), vl (0), vl ((y1) - (1))] (G1) (fun (y2 : Int) (G2 : XF) => (((y2 : Int) = 0 ∨ (y2 : Int) = 1) ∧ (xPT (G2) → Q (y2) (G2))))))))) : xW X d 155 0 [.ref (131), vi (x1)] [] F (xqi Q) := by
  refine xw_iload_n (n := 1) (show xlook 155 0 = some (0, .iload_n 1, 1, 0, 0, 0, 0) from xlk (by decide +kernel)) rfl rfl ?_
  obtain ⟨q1, t⟩ := t
  refine xw_i2l (n := 2) (show xlook 155 1 = some (1, .i2l, 1, 0, 0, 0, 0) from xlk (by decide +kernel)) rfl q1 ?_
  refine xw_lconst (n := 3) (show xlook 155 2 = some (2, .lconst 0, 1, 0, 0, 0, 0) from xlk (by decide +kernel)) rfl (k := 0) (by decide) ?_
  refine xw_aload_n (n := 4) (show xlook 155 3 = some (3, .aload_n 0, 1, 0, 0, 0, 0) from xlk (by decide +kernel)) rfl rfl ?_
  obtain ⟨j1, hj1, rr1, G1, hm1, hG1, t⟩ := t
  obtain ⟨y1, rfl, t⟩ := t
  refine xw_callv (dk := j1) (o := 131) (as := []) (show xlook 155 4 = some (4, .invokevirtual 161, 3, 154, 1, 0, 169) from xlk (by decide +kernel)) (by decide) hj1 ⟨Nat.le_of_ble_eq_true rfl, Nat.le_of_ble_eq_true rfl, Nat.le_of_ble_eq_true rfl⟩ ⟨xob_12.1, xob_12.2, by decide⟩ rfl hm1 (n := 7) rfl ?_
  show xW X d 155 7 [.ref (131), vi (x1)] [vi (y1), vl (0), vl (x1)] G1 (xqi Q)
  refine xw_iconst (n := 8) (show xlook 155 7 = some (7, .iconst 1, 1, 0, 0, 0, 0) from xlk (by decide +kernel)) rfl ?_
  refine xw_isub (n := 9) (show xlook 155 8 = some (8, .isub, 1, 0, 0, 0, 0) from xlk (by decide +kernel)) rfl ?_
  obtain ⟨q1, t⟩ := t
  refine xw_i2l (n := 10) (show xlook 155 9 = some (9, .i2l, 1, 0, 0, 0, 0) from xlk (by decide +kernel)) rfl q1 ?_
  obtain ⟨j2, hj2, rr2, G2, hm2, hG2, t⟩ := t
  obtain ⟨y2, rfl, t⟩ := t
  refine xw_calls (dk := j2) (as := [vl (x1), vl (0), vl ((y1) - (1))]) (show xlook 155 10 = some (10, .invokestatic 83, 3, 132, 3, 0, 151) from xlk (by decide +kernel)) (by decide) hj2 ⟨Nat.le_of_ble_eq_true rfl, Nat.le_of_ble_eq_true rfl, Nat.le_of_ble_eq_true rfl, by decide⟩ rfl hm2 (n := 13) rfl ?_
  show xW X d 155 13 [.ref (131), vi (x1)] [vi (y2)] G2 (xqi Q)
  obtain ⟨q1, t⟩ := t
  exact xw_zreturn hG2 (show xlook 155 13 = some (13, .ireturn, 1, 0, 0, 0, 0) from xlk (by decide +kernel)) rfl q1 (t hG2)
theorem m155 {X : List Int32} {d : Nat} {F : XF} {Q : Int → XF → Prop} {x1 : Int} (hPT : xPT F)  (t : (inR (x1)) ∧ (∃ (j1 : Nat), j1 < d ∧ xMI X j1 154 [.ref (131)] (F) (fun (y1 : Int) (G1 : XF) => ((inR ((y1) - (1))) ∧ (∃ (j2 : Nat), j2 < d ∧ xMI X j2 132 [vl (x1), vl (0), vl ((y1) - (1))] (G1) (fun (y2 : Int) (G2 : XF) => (((y2 : Int) = 0 ∨ (y2 : Int) = 1) ∧ (xPT (G2) → Q (y2) (G2))))))))) : xMI X d 155 [.ref (131), vi (x1)] F Q := by
  show xW X d 155 0 [.ref (131), vi (x1)] [] F (xqi Q)
  exact s155_0 hPT  t

theorem s156_0 {X : List Int32} {d : Nat} {F : XF} {Q : Int → XF → Prop} {x1 : Int} (hPT : xPT F)  (t : (inR (x1)) ∧ (∃ (j1 : Nat), j1 < d ∧ xMI X j1 154 [.ref (131)] (xup (F) (131) 0 (0)) (fun (y1 : Int) (G1 : XF) => ((inR ((y1) - (2))) ∧ (∃ (j2 : Nat), j2 < d ∧ xMI X j2 132 [vl (x1), vl (0), vl ((y1) - (2))] (G1) (fun (y2 : Int) (G2 : XF) => (inR (y2) ∧ (((¬ (y2) = (0)) → (∃ (j3 : Nat), j3 < d ∧ xMV X j3 153 [.ref (131)] (G2) (fun (G3 : XF) => ((0 ≤ ((108) + (x1)) ∧ ((108) + (x1)) < 163) ∧ ((0 ≤ ((108) + (x1)) ∧ ((108) + (x1)) < 163) ∧ (∃ (j4 : Nat), j4 < d ∧ xMV X j4 170 [.ref (131), vi (0)] (xup (G3) (132) ((108) + (x1)) ((1) - ((G3) (132) ((108) + (x1))))) (fun (G4 : XF) => (xPT (G4) → Q ((G4) (131) 17) (G4))))))))) ∧ (¬ (¬ (y2) = (0)) → (xPT (G2) → Q ((-2)) (G2))))))))))) : xW X d 156 0 [.ref (131), vi (x1)] [] F (xqi Q) := by
  refine xw_aload_n (n := 1) (show xlook 156 0 = some (0, .aload_n 0, 1, 0, 0, 0, 0) from xlk (by decide +kernel)) rfl rfl ?_
  refine xw_iconst (n := 2) (show xlook 156 1 = some (1, .iconst 0, 1, 0, 0, 0, 0) from xlk (by decide +kernel)) rfl ?_
  refine xw_puti (show xlook 156 2 = some (2, .putfield 1, 3, 12, 0, 0, 235) from xlk (by decide +kernel)) (xobf xob_12 (by decide) (by decide)) rfl (n := 5) rfl ?_
  refine xw_iload_n (n := 6) (show xlook 156 5 = some (5, .iload_n 1, 1, 0, 0, 0, 0) from xlk (by decide +kernel)) rfl rfl ?_
  obtain ⟨q1, t⟩ := t
  refine xw_i2l (n := 7) (show xlook 156 6 = some (6, .i2l, 1, 0, 0, 0, 0) from xlk (by decide +kernel)) rfl q1 ?_
  refine xw_lconst (n := 8) (show xlook 156 7 = some (7, .lconst 0, 1, 0, 0, 0, 0) from xlk (by decide +kernel)) rfl (k := 0) (by decide) ?_
  refine xw_aload_n (n := 9) (show xlook 156 8 = some (8, .aload_n 0, 1, 0, 0, 0, 0) from xlk (by decide +kernel)) rfl rfl ?_
  obtain ⟨j1, hj1, rr1, G1, hm1, hG1, t⟩ := t
  obtain ⟨y1, rfl, t⟩ := t
  refine xw_callv (dk := j1) (o := 131) (as := []) (show xlook 156 9 = some (9, .invokevirtual 161, 3, 154, 1, 0, 169) from xlk (by decide +kernel)) (by decide) hj1 ⟨Nat.le_of_ble_eq_true rfl, Nat.le_of_ble_eq_true rfl, Nat.le_of_ble_eq_true rfl⟩ ⟨xob_12.1, xob_12.2, by decide⟩ rfl hm1 (n := 12) rfl ?_
  show xW X d 156 12 [.ref (131), vi (x1)] [vi (y1), vl (0), vl (x1)] G1 (xqi Q)
  refine xw_iconst (n := 13) (show xlook 156 12 = some (12, .iconst 2, 1, 0, 0, 0, 0) from xlk (by decide +kernel)) rfl ?_
  refine xw_isub (n := 14) (show xlook 156 13 = some (13, .isub, 1, 0, 0, 0, 0) from xlk (by decide +kernel)) rfl ?_
  obtain ⟨q1, t⟩ := t
  refine xw_i2l (n := 15) (show xlook 156 14 = some (14, .i2l, 1, 0, 0, 0, 0) from xlk (by decide +kernel)) rfl q1 ?_
  obtain ⟨j2, hj2, rr2, G2, hm2, hG2, t⟩ := t
  obtain ⟨y2, rfl, t⟩ := t
  refine xw_calls (dk := j2) (as := [vl (x1), vl (0), vl ((y1) - (2))]) (show xlook 156 15 = some (15, .invokestatic 83, 3, 132, 3, 0, 151) from xlk (by decide +kernel)) (by decide) hj2 ⟨Nat.le_of_ble_eq_true rfl, Nat.le_of_ble_eq_true rfl, Nat.le_of_ble_eq_true rfl, by decide⟩ rfl hm2 (n := 18) rfl ?_
  show xW X d 156 18 [.ref (131), vi (x1)] [vi (y2)] G2 (xqi Q)
  obtain ⟨q0, t⟩ := t
  refine xw_if_ne (n := 21) (m := 24) (show xlook 156 18 = some (18, .ifCond .ne 6, 3, 24, 0, 0, 0) from xlk (by decide +kernel)) rfl rfl q0 ⟨fun c => ?_, fun c => ?_⟩
  · replace t := t.1 c
    refine xw_aload_n (n := 25) (show xlook 156 24 = some (24, .aload_n 0, 1, 0, 0, 0, 0) from xlk (by decide +kernel)) rfl rfl ?_
    obtain ⟨j3, hj3, rr3, G3, hm3, hG3, t⟩ := t
    obtain ⟨rfl, t⟩ := t
    refine xw_callv (dk := j3) (o := 131) (as := []) (show xlook 156 25 = some (25, .invokevirtual 164, 3, 153, 1, 0, 170) from xlk (by decide +kernel)) (by decide) hj3 ⟨Nat.le_of_ble_eq_true rfl, Nat.le_of_ble_eq_true rfl, Nat.le_of_ble_eq_true rfl⟩ ⟨xob_12.1, xob_12.2, by decide⟩ rfl hm3 (n := 28) rfl ?_
    show xW X d 156 28 [.ref (131), vi (x1)] [] G3 (xqi Q)
    refine xw_aload_n (n := 29) (show xlook 156 28 = some (28, .aload_n 0, 1, 0, 0, 0, 0) from xlk (by decide +kernel)) rfl rfl ?_
    refine xw_getr (q := 132) (show xlook 156 29 = some (29, .getfield 13, 3, 12, 1, 0, 220) from xlk (by decide +kernel)) (by decide) (xobf xob_12 (by decide) (by decide)) rfl (xPT_get (k := 1) (f := 1) hG3 xob_12 (by decide)) (by have := (xtg_12_1 _ xob_12.1 xob_12.2).1.1; omega) (n := 32) rfl ?_
    refine xw_bipush (n := 34) (show xlook 156 32 = some (32, .bipush 108, 2, 0, 0, 0, 0) from xlk (by decide +kernel)) rfl (by decide) ?_
    refine xw_iload_n (n := 35) (show xlook 156 34 = some (34, .iload_n 1, 1, 0, 0, 0, 0) from xlk (by decide +kernel)) rfl rfl ?_
    refine xw_iadd (n := 36) (show xlook 156 35 = some (35, .iadd, 1, 0, 0, 0, 0) from xlk (by decide +kernel)) rfl ?_
    refine xw_iconst (n := 37) (show xlook 156 36 = some (36, .iconst 1, 1, 0, 0, 0, 0) from xlk (by decide +kernel)) rfl ?_
    refine xw_aload_n (n := 38) (show xlook 156 37 = some (37, .aload_n 0, 1, 0, 0, 0, 0) from xlk (by decide +kernel)) rfl rfl ?_
    refine xw_getr (q := 132) (show xlook 156 38 = some (38, .getfield 13, 3, 12, 1, 0, 220) from xlk (by decide +kernel)) (by decide) (xobf xob_12 (by decide) (by decide)) rfl (xPT_get (k := 1) (f := 1) hG3 xob_12 (by decide)) (by have := (xtg_12_1 _ xob_12.1 xob_12.2).1.1; omega) (n := 41) rfl ?_
    refine xw_bipush (n := 43) (show xlook 156 41 = some (41, .bipush 108, 2, 0, 0, 0, 0) from xlk (by decide +kernel)) rfl (by decide) ?_
    refine xw_iload_n (n := 44) (show xlook 156 43 = some (43, .iload_n 1, 1, 0, 0, 0, 0) from xlk (by decide +kernel)) rfl rfl ?_
    refine xw_iadd (n := 45) (show xlook 156 44 = some (44, .iadd, 1, 0, 0, 0, 0) from xlk (by decide +kernel)) rfl ?_
    obtain ⟨q1, t⟩ := t
    refine xw_iald (show xlook 156 45 = some (45, .iaload, 1, 0, 0, 0, 0) from xlk (by decide +kernel)) (xtg_12_1 _ xob_12.1 xob_12.2).1 (by rw [(xtg_12_1 _ xob_12.1 xob_12.2).2]; exact q1) (n := 46) rfl ?_
    refine xw_isub (n := 47) (show xlook 156 46 = some (46, .isub, 1, 0, 0, 0, 0) from xlk (by decide +kernel)) rfl ?_
    obtain ⟨q1, t⟩ := t
    refine xw_iast (show xlook 156 47 = some (47, .iastore, 1, 0, 0, 0, 0) from xlk (by decide +kernel)) (xtg_12_1 _ xob_12.1 xob_12.2).1 (by rw [(xtg_12_1 _ xob_12.1 xob_12.2).2]; exact q1) (n := 48) rfl ?_
    refine xw_aload_n (n := 49) (show xlook 156 48 = some (48, .aload_n 0, 1, 0, 0, 0, 0) from xlk (by decide +kernel)) rfl rfl ?_
    refine xw_iconst (n := 50) (show xlook 156 49 = some (49, .iconst 0, 1, 0, 0, 0, 0) from xlk (by decide +kernel)) rfl ?_
    obtain ⟨j4, hj4, rr4, G4, hm4, hG4, t⟩ := t
    obtain ⟨rfl, t⟩ := t
    refine xw_callv (dk := j4) (o := 131) (as := [vi (0)]) (show xlook 156 50 = some (50, .invokevirtual 63, 3, 170, 2, 0, 150) from xlk (by decide +kernel)) (by decide) hj4 ⟨Nat.le_of_ble_eq_true rfl, Nat.le_of_ble_eq_true rfl, Nat.le_of_ble_eq_true rfl⟩ ⟨xob_12.1, xob_12.2, by decide⟩ rfl hm4 (n := 53) rfl ?_
    show xW X d 156 53 [.ref (131), vi (x1)] [] G4 (xqi Q)
    refine xw_aload_n (n := 54) (show xlook 156 53 = some (53, .aload_n 0, 1, 0, 0, 0, 0) from xlk (by decide +kernel)) rfl rfl ?_
    refine xw_geti (show xlook 156 54 = some (54, .getfield 167, 3, 12, 17, 0, 243) from xlk (by decide +kernel)) (by decide) (xobf xob_12 (by decide) (by decide)) rfl (n := 57) rfl ?_
    exact xw_ireturn hG4 (show xlook 156 57 = some (57, .ireturn, 1, 0, 0, 0, 0) from xlk (by decide +kernel)) rfl (t hG4)
  · replace t := t.2 c
    refine xw_bipush (n := 23) (show xlook 156 21 = some (21, .bipush (-2), 2, 0, 0, 0, 0) from xlk (by decide +kernel)) rfl (by decide) ?_
    exact xw_ireturn hG2 (show xlook 156 23 = some (23, .ireturn, 1, 0, 0, 0, 0) from xlk (by decide +kernel)) rfl (t hG2)
theorem m156 {X : List Int32} {d : Nat} {F : XF} {Q : Int → XF → Prop} {x1 : Int} (hPT : xPT F)  (t : (inR (x1)) ∧ (∃ (j1 : Nat), j1 < d ∧ xMI X j1 154 [.ref (131)] (xup (F) (131) 0 (0)) (fun (y1 : Int) (G1 : XF) => ((inR ((y1) - (2))) ∧ (∃ (j2 : Nat), j2 < d ∧ xMI X j2 132 [vl (x1), vl (0), vl ((y1) - (2))] (G1) (fun (y2 : Int) (G2 : XF) => (inR (y2) ∧ (((¬ (y2) = (0)) → (∃ (j3 : Nat), j3 < d ∧ xMV X j3 153 [.ref (131)] (G2) (fun (G3 : XF) => ((0 ≤ ((108) + (x1)) ∧ ((108) + (x1)) < 163) ∧ ((0 ≤ ((108) + (x1)) ∧ ((108) + (x1)) < 163) ∧ (∃ (j4 : Nat), j4 < d ∧ xMV X j4 170 [.ref (131), vi (0)] (xup (G3) (132) ((108) + (x1)) ((1) - ((G3) (132) ((108) + (x1))))) (fun (G4 : XF) => (xPT (G4) → Q ((G4) (131) 17) (G4))))))))) ∧ (¬ (¬ (y2) = (0)) → (xPT (G2) → Q ((-2)) (G2))))))))))) : xMI X d 156 [.ref (131), vi (x1)] F Q := by
  show xW X d 156 0 [.ref (131), vi (x1)] [] F (xqi Q)
  exact s156_0 hPT  t

theorem s157_0 {X : List Int32} {d : Nat} {F : XF} {Q : Int → XF → Prop} {x1 : Int} {w2 : Value} (hPT : xPT F)  (t : (inR (x1)) ∧ (∃ (j1 : Nat), j1 < d ∧ xMI X j1 132 [vl (x1), vl (0), vl (999)] (xup (F) (131) 0 (0)) (fun (y1 : Int) (G1 : XF) => (inR (y1) ∧ (((¬ (y1) = (0)) → (∃ (j2 : Nat), j2 < d ∧ xMV X j2 153 [.ref (131)] (G1) (fun (G2 : XF) => (∃ (j3 : Nat), j3 < d ∧ xMV X j3 170 [.ref (131), vi (0)] (xup (G2) (132) 3 (x1)) (fun (G3 : XF) => (xPT (G3) → Q ((G2) (132) 3) (G3))))))) ∧ (¬ (¬ (y1) = (0)) → (xPT (G1) → Q ((-3)) (G1)))))))) : xW X d 157 0 [.ref (131), vi (x1), w2] [] F (xqi Q) := by
  refine xw_aload_n (n := 1) (show xlook 157 0 = some (0, .aload_n 0, 1, 0, 0, 0, 0) from xlk (by decide +kernel)) rfl rfl ?_
  refine xw_iconst (n := 2) (show xlook 157 1 = some (1, .iconst 0, 1, 0, 0, 0, 0) from xlk (by decide +kernel)) rfl ?_
  refine xw_puti (show xlook 157 2 = some (2, .putfield 1, 3, 12, 0, 0, 235) from xlk (by decide +kernel)) (xobf xob_12 (by decide) (by decide)) rfl (n := 5) rfl ?_
  refine xw_iload_n (n := 6) (show xlook 157 5 = some (5, .iload_n 1, 1, 0, 0, 0, 0) from xlk (by decide +kernel)) rfl rfl ?_
  obtain ⟨q1, t⟩ := t
  refine xw_i2l (n := 7) (show xlook 157 6 = some (6, .i2l, 1, 0, 0, 0, 0) from xlk (by decide +kernel)) rfl q1 ?_
  refine xw_lconst (n := 8) (show xlook 157 7 = some (7, .lconst 0, 1, 0, 0, 0, 0) from xlk (by decide +kernel)) rfl (k := 0) (by decide) ?_
  refine xw_ldc2 (n := 11) (show xlook 157 8 = some (8, .ldc2_w 170, 3, 0, 0, 999, 8) from xlk (by decide +kernel)) rfl ?_
  obtain ⟨j1, hj1, rr1, G1, hm1, hG1, t⟩ := t
  obtain ⟨y1, rfl, t⟩ := t
  refine xw_calls (dk := j1) (as := [vl (x1), vl (0), vl (999)]) (show xlook 157 11 = some (11, .invokestatic 83, 3, 132, 3, 0, 151) from xlk (by decide +kernel)) (by decide) hj1 ⟨Nat.le_of_ble_eq_true rfl, Nat.le_of_ble_eq_true rfl, Nat.le_of_ble_eq_true rfl, by decide⟩ rfl hm1 (n := 14) rfl ?_
  show xW X d 157 14 [.ref (131), vi (x1), w2] [vi (y1)] G1 (xqi Q)
  obtain ⟨q0, t⟩ := t
  refine xw_if_ne (n := 17) (m := 20) (show xlook 157 14 = some (14, .ifCond .ne 6, 3, 20, 0, 0, 0) from xlk (by decide +kernel)) rfl rfl q0 ⟨fun c => ?_, fun c => ?_⟩
  · replace t := t.1 c
    refine xw_aload_n (n := 21) (show xlook 157 20 = some (20, .aload_n 0, 1, 0, 0, 0, 0) from xlk (by decide +kernel)) rfl rfl ?_
    obtain ⟨j2, hj2, rr2, G2, hm2, hG2, t⟩ := t
    obtain ⟨rfl, t⟩ := t
    refine xw_callv (dk := j2) (o := 131) (as := []) (show xlook 157 21 = some (21, .invokevirtual 164, 3, 153, 1, 0, 170) from xlk (by decide +kernel)) (by decide) hj2 ⟨Nat.le_of_ble_eq_true rfl, Nat.le_of_ble_eq_true rfl, Nat.le_of_ble_eq_true rfl⟩ ⟨xob_12.1, xob_12.2, by decide⟩ rfl hm2 (n := 24) rfl ?_
    show xW X d 157 24 [.ref (131), vi (x1), w2] [] G2 (xqi Q)
    refine xw_aload_n (n := 25) (show xlook 157 24 = some (24, .aload_n 0, 1, 0, 0, 0, 0) from xlk (by decide +kernel)) rfl rfl ?_
    refine xw_getr (q := 132) (show xlook 157 25 = some (25, .getfield 13, 3, 12, 1, 0, 220) from xlk (by decide +kernel)) (by decide) (xobf xob_12 (by decide) (by decide)) rfl (xPT_get (k := 1) (f := 1) hG2 xob_12 (by decide)) (by have := (xtg_12_1 _ xob_12.1 xob_12.2).1.1; omega) (n := 28) rfl ?_
    refine xw_iconst (n := 29) (show xlook 157 28 = some (28, .iconst 3, 1, 0, 0, 0, 0) from xlk (by decide +kernel)) rfl ?_
    refine xw_iald (show xlook 157 29 = some (29, .iaload, 1, 0, 0, 0, 0) from xlk (by decide +kernel)) (xtg_12_1 _ xob_12.1 xob_12.2).1 (by rw [(xtg_12_1 _ xob_12.1 xob_12.2).2]; decide) (n := 30) rfl ?_
    refine xw_istore_n (n := 31) (show xlook 157 30 = some (30, .istore_n 2, 1, 0, 0, 0, 0) from xlk (by decide +kernel)) rfl (ls' := [.ref (131), vi (x1), vi ((G2) (132) 3)]) (Nat.le_of_ble_eq_true rfl) rfl ?_
    refine xw_aload_n (n := 32) (show xlook 157 31 = some (31, .aload_n 0, 1, 0, 0, 0, 0) from xlk (by decide +kernel)) rfl rfl ?_
    refine xw_getr (q := 132) (show xlook 157 32 = some (32, .getfield 13, 3, 12, 1, 0, 220) from xlk (by decide +kernel)) (by decide) (xobf xob_12 (by decide) (by decide)) rfl (xPT_get (k := 1) (f := 1) hG2 xob_12 (by decide)) (by have := (xtg_12_1 _ xob_12.1 xob_12.2).1.1; omega) (n := 35) rfl ?_
    refine xw_iconst (n := 36) (show xlook 157 35 = some (35, .iconst 3, 1, 0, 0, 0, 0) from xlk (by decide +kernel)) rfl ?_
    refine xw_iload_n (n := 37) (show xlook 157 36 = some (36, .iload_n 1, 1, 0, 0, 0, 0) from xlk (by decide +kernel)) rfl rfl ?_
    refine xw_iast (show xlook 157 37 = some (37, .iastore, 1, 0, 0, 0, 0) from xlk (by decide +kernel)) (xtg_12_1 _ xob_12.1 xob_12.2).1 (by rw [(xtg_12_1 _ xob_12.1 xob_12.2).2]; decide) (n := 38) rfl ?_
    refine xw_aload_n (n := 39) (show xlook 157 38 = some (38, .aload_n 0, 1, 0, 0, 0, 0) from xlk (by decide +kernel)) rfl rfl ?_
    refine xw_iconst (n := 40) (show xlook 157 39 = some (39, .iconst 0, 1, 0, 0, 0, 0) from xlk (by decide +kernel)) rfl ?_
    obtain ⟨j3, hj3, rr3, G3, hm3, hG3, t⟩ := t
    obtain ⟨rfl, t⟩ := t
    refine xw_callv (dk := j3) (o := 131) (as := [vi (0)]) (show xlook 157 40 = some (40, .invokevirtual 63, 3, 170, 2, 0, 150) from xlk (by decide +kernel)) (by decide) hj3 ⟨Nat.le_of_ble_eq_true rfl, Nat.le_of_ble_eq_true rfl, Nat.le_of_ble_eq_true rfl⟩ ⟨xob_12.1, xob_12.2, by decide⟩ rfl hm3 (n := 43) rfl ?_
    show xW X d 157 43 [.ref (131), vi (x1), vi ((G2) (132) 3)] [] G3 (xqi Q)
    refine xw_iload_n (n := 44) (show xlook 157 43 = some (43, .iload_n 2, 1, 0, 0, 0, 0) from xlk (by decide +kernel)) rfl rfl ?_
    exact xw_ireturn hG3 (show xlook 157 44 = some (44, .ireturn, 1, 0, 0, 0, 0) from xlk (by decide +kernel)) rfl (t hG3)
  · replace t := t.2 c
    refine xw_bipush (n := 19) (show xlook 157 17 = some (17, .bipush (-3), 2, 0, 0, 0, 0) from xlk (by decide +kernel)) rfl (by decide) ?_
    exact xw_ireturn hG1 (show xlook 157 19 = some (19, .ireturn, 1, 0, 0, 0, 0) from xlk (by decide +kernel)) rfl (t hG1)
theorem m157 {X : List Int32} {d : Nat} {F : XF} {Q : Int → XF → Prop} {x1 : Int} (hPT : xPT F)  (t : (inR (x1)) ∧ (∃ (j1 : Nat), j1 < d ∧ xMI X j1 132 [vl (x1), vl (0), vl (999)] (xup (F) (131) 0 (0)) (fun (y1 : Int) (G1 : XF) => (inR (y1) ∧ (((¬ (y1) = (0)) → (∃ (j2 : Nat), j2 < d ∧ xMV X j2 153 [.ref (131)] (G1) (fun (G2 : XF) => (∃ (j3 : Nat), j3 < d ∧ xMV X j3 170 [.ref (131), vi (0)] (xup (G2) (132) 3 (x1)) (fun (G3 : XF) => (xPT (G3) → Q ((G2) (132) 3) (G3))))))) ∧ (¬ (¬ (y1) = (0)) → (xPT (G1) → Q ((-3)) (G1)))))))) : xMI X d 157 [.ref (131), vi (x1)] F Q := by
  show xW X d 157 0 [.ref (131), vi (x1), xU0] [] F (xqi Q)
  exact s157_0 hPT  t

theorem s158_0 {X : List Int32} {d : Nat} {F : XF} {Q : XF → Prop} {x1 : Int} {x2 : Int} {x3 : Int} {w4 : Value} (hPT : xPT F)  (t : (0 ≤ ((142) + ((3) * ((F) (132) 7))) ∧ ((142) + ((3) * ((F) (132) 7))) < 163) ∧ ((0 ≤ (((142) + ((3) * ((F) (132) 7))) + (1)) ∧ (((142) + ((3) * ((F) (132) 7))) + (1)) < 163) ∧ ((0 ≤ (((142) + ((3) * ((F) (132) 7))) + (2)) ∧ (((142) + ((3) * ((F) (132) 7))) + (2)) < 163) ∧ (xPT (xup (xup (xup (xup (F) (132) ((142) + ((3) * ((F) (132) 7))) (x1)) (132) (((142) + ((3) * ((F) (132) 7))) + (1)) (x2)) (132) (((142) + ((3) * ((F) (132) 7))) + (2)) (x3)) (132) 7 (((xup (xup (xup (F) (132) ((142) + ((3) * ((F) (132) 7))) (x1)) (132) (((142) + ((3) * ((F) (132) 7))) + (1)) (x2)) (132) (((142) + ((3) * ((F) (132) 7))) + (2)) (x3)) (132) 7) + (1))) → Q (xup (xup (xup (xup (F) (132) ((142) + ((3) * ((F) (132) 7))) (x1)) (132) (((142) + ((3) * ((F) (132) 7))) + (1)) (x2)) (132) (((142) + ((3) * ((F) (132) 7))) + (2)) (x3)) (132) 7 (((xup (xup (xup (F) (132) ((142) + ((3) * ((F) (132) 7))) (x1)) (132) (((142) + ((3) * ((F) (132) 7))) + (1)) (x2)) (132) (((142) + ((3) * ((F) (132) 7))) + (2)) (x3)) (132) 7) + (1))))))) : xW X d 158 0 [.ref (131), vi (x1), vi (x2), vi (x3), w4] [] F (xqv Q) := by
  refine xw_sipush (n := 3) (show xlook 158 0 = some (0, .sipush 142, 3, 0, 0, 0, 0) from xlk (by decide +kernel)) rfl (by decide) ?_
  refine xw_iconst (n := 4) (show xlook 158 3 = some (3, .iconst 3, 1, 0, 0, 0, 0) from xlk (by decide +kernel)) rfl ?_
  refine xw_aload_n (n := 5) (show xlook 158 4 = some (4, .aload_n 0, 1, 0, 0, 0, 0) from xlk (by decide +kernel)) rfl rfl ?_
  refine xw_getr (q := 132) (show xlook 158 5 = some (5, .getfield 13, 3, 12, 1, 0, 220) from xlk (by decide +kernel)) (by decide) (xobf xob_12 (by decide) (by decide)) rfl (xPT_get (k := 1) (f := 1) hPT xob_12 (by decide)) (by have := (xtg_12_1 _ xob_12.1 xob_12.2).1.1; omega) (n := 8) rfl ?_
  refine xw_bipush (n := 10) (show xlook 158 8 = some (8, .bipush 7, 2, 0, 0, 0, 0) from xlk (by decide +kernel)) rfl (by decide) ?_
  refine xw_iald (show xlook 158 10 = some (10, .iaload, 1, 0, 0, 0, 0) from xlk (by decide +kernel)) (xtg_12_1 _ xob_12.1 xob_12.2).1 (by rw [(xtg_12_1 _ xob_12.1 xob_12.2).2]; decide) (n := 11) rfl ?_
  refine xw_imul (n := 12) (show xlook 158 11 = some (11, .imul, 1, 0, 0, 0, 0) from xlk (by decide +kernel)) rfl ?_
  refine xw_iadd (n := 13) (show xlook 158 12 = some (12, .iadd, 1, 0, 0, 0, 0) from xlk (by decide +kernel)) rfl ?_
  refine xw_istore (n := 15) (show xlook 158 13 = some (13, .istore 4, 2, 0, 0, 0, 0) from xlk (by decide +kernel)) rfl (ls' := [.ref (131), vi (x1), vi (x2), vi (x3), vi ((142) + ((3) * ((F) (132) 7)))]) (Nat.le_of_ble_eq_true rfl) rfl ?_
  refine xw_aload_n (n := 16) (show xlook 158 15 = some (15, .aload_n 0, 1, 0, 0, 0, 0) from xlk (by decide +kernel)) rfl rfl ?_
  refine xw_getr (q := 132) (show xlook 158 16 = some (16, .getfield 13, 3, 12, 1, 0, 220) from xlk (by decide +kernel)) (by decide) (xobf xob_12 (by decide) (by decide)) rfl (xPT_get (k := 1) (f := 1) hPT xob_12 (by decide)) (by have := (xtg_12_1 _ xob_12.1 xob_12.2).1.1; omega) (n := 19) rfl ?_
  refine xw_iload (n := 21) (show xlook 158 19 = some (19, .iload 4, 2, 0, 0, 0, 0) from xlk (by decide +kernel)) rfl rfl ?_
  refine xw_iload_n (n := 22) (show xlook 158 21 = some (21, .iload_n 1, 1, 0, 0, 0, 0) from xlk (by decide +kernel)) rfl rfl ?_
  obtain ⟨q1, t⟩ := t
  refine xw_iast (show xlook 158 22 = some (22, .iastore, 1, 0, 0, 0, 0) from xlk (by decide +kernel)) (xtg_12_1 _ xob_12.1 xob_12.2).1 (by rw [(xtg_12_1 _ xob_12.1 xob_12.2).2]; exact q1) (n := 23) rfl ?_
  refine xw_aload_n (n := 24) (show xlook 158 23 = some (23, .aload_n 0, 1, 0, 0, 0, 0) from xlk (by decide +kernel)) rfl rfl ?_
  refine xw_getr (q := 132) (show xlook 158 24 = some (24, .getfield 13, 3, 12, 1, 0, 220) from xlk (by decide +kernel)) (by decide) (xobf xob_12 (by decide) (by decide)) rfl (xPT_get (k := 1) (f := 1) (xPT_arr hPT (Or.inl (xtg_12_1 _ xob_12.1 xob_12.2).1.2)) xob_12 (by decide)) (by have := (xtg_12_1 _ xob_12.1 xob_12.2).1.1; omega) (n := 27) rfl ?_
  refine xw_iload (n := 29) (show xlook 158 27 = some (27, .iload 4, 2, 0, 0, 0, 0) from xlk (by decide +kernel)) rfl rfl ?_
  refine xw_iconst (n := 30) (show xlook 158 29 = some (29, .iconst 1, 1, 0, 0, 0, 0) from xlk (by decide +kernel)) rfl ?_
  refine xw_iadd (n := 31) (show xlook 158 30 = some (30, .iadd, 1, 0, 0, 0, 0) from xlk (by decide +kernel)) rfl ?_
  refine xw_iload_n (n := 32) (show xlook 158 31 = some (31, .iload_n 2, 1, 0, 0, 0, 0) from xlk (by decide +kernel)) rfl rfl ?_
  obtain ⟨q1, t⟩ := t
  refine xw_iast (show xlook 158 32 = some (32, .iastore, 1, 0, 0, 0, 0) from xlk (by decide +kernel)) (xtg_12_1 _ xob_12.1 xob_12.2).1 (by rw [(xtg_12_1 _ xob_12.1 xob_12.2).2]; exact q1) (n := 33) rfl ?_
  refine xw_aload_n (n := 34) (show xlook 158 33 = some (33, .aload_n 0, 1, 0, 0, 0, 0) from xlk (by decide +kernel)) rfl rfl ?_
  refine xw_getr (q := 132) (show xlook 158 34 = some (34, .getfield 13, 3, 12, 1, 0, 220) from xlk (by decide +kernel)) (by decide) (xobf xob_12 (by decide) (by decide)) rfl (xPT_get (k := 1) (f := 1) (xPT_arr (xPT_arr hPT (Or.inl (xtg_12_1 _ xob_12.1 xob_12.2).1.2)) (Or.inl (xtg_12_1 _ xob_12.1 xob_12.2).1.2)) xob_12 (by decide)) (by have := (xtg_12_1 _ xob_12.1 xob_12.2).1.1; omega) (n := 37) rfl ?_
  refine xw_iload (n := 39) (show xlook 158 37 = some (37, .iload 4, 2, 0, 0, 0, 0) from xlk (by decide +kernel)) rfl rfl ?_
  refine xw_iconst (n := 40) (show xlook 158 39 = some (39, .iconst 2, 1, 0, 0, 0, 0) from xlk (by decide +kernel)) rfl ?_
  refine xw_iadd (n := 41) (show xlook 158 40 = some (40, .iadd, 1, 0, 0, 0, 0) from xlk (by decide +kernel)) rfl ?_
  refine xw_iload_n (n := 42) (show xlook 158 41 = some (41, .iload_n 3, 1, 0, 0, 0, 0) from xlk (by decide +kernel)) rfl rfl ?_
  obtain ⟨q1, t⟩ := t
  refine xw_iast (show xlook 158 42 = some (42, .iastore, 1, 0, 0, 0, 0) from xlk (by decide +kernel)) (xtg_12_1 _ xob_12.1 xob_12.2).1 (by rw [(xtg_12_1 _ xob_12.1 xob_12.2).2]; exact q1) (n := 43) rfl ?_
  refine xw_aload_n (n := 44) (show xlook 158 43 = some (43, .aload_n 0, 1, 0, 0, 0, 0) from xlk (by decide +kernel)) rfl rfl ?_
  refine xw_getr (q := 132) (show xlook 158 44 = some (44, .getfield 13, 3, 12, 1, 0, 220) from xlk (by decide +kernel)) (by decide) (xobf xob_12 (by decide) (by decide)) rfl (xPT_get (k := 1) (f := 1) (xPT_arr (xPT_arr (xPT_arr hPT (Or.inl (xtg_12_1 _ xob_12.1 xob_12.2).1.2)) (Or.inl (xtg_12_1 _ xob_12.1 xob_12.2).1.2)) (Or.inl (xtg_12_1 _ xob_12.1 xob_12.2).1.2)) xob_12 (by decide)) (by have := (xtg_12_1 _ xob_12.1 xob_12.2).1.1; omega) (n := 47) rfl ?_
  refine xw_bipush (n := 49) (show xlook 158 47 = some (47, .bipush 7, 2, 0, 0, 0, 0) from xlk (by decide +kernel)) rfl (by decide) ?_
  refine xw_dup2 (n := 50) (show xlook 158 49 = some (49, .dup2, 1, 0, 0, 0, 0) from xlk (by decide +kernel)) rfl ?_
  refine xw_iald (show xlook 158 50 = some (50, .iaload, 1, 0, 0, 0, 0) from xlk (by decide +kernel)) (xtg_12_1 _ xob_12.1 xob_12.2).1 (by rw [(xtg_12_1 _ xob_12.1 xob_12.2).2]; decide) (n := 51) rfl ?_
  refine xw_iconst (n := 52) (show xlook 158 51 = some (51, .iconst 1, 1, 0, 0, 0, 0) from xlk (by decide +kernel)) rfl ?_
  refine xw_iadd (n := 53) (show xlook 158 52 = some (52, .iadd, 1, 0, 0, 0, 0) from xlk (by decide +kernel)) rfl ?_
  refine xw_iast (show xlook 158 53 = some (53, .iastore, 1, 0, 0, 0, 0) from xlk (by decide +kernel)) (xtg_12_1 _ xob_12.1 xob_12.2).1 (by rw [(xtg_12_1 _ xob_12.1 xob_12.2).2]; decide) (n := 54) rfl ?_
  exact xw_return (xPT_arr (xPT_arr (xPT_arr (xPT_arr hPT (Or.inl (xtg_12_1 _ xob_12.1 xob_12.2).1.2)) (Or.inl (xtg_12_1 _ xob_12.1 xob_12.2).1.2)) (Or.inl (xtg_12_1 _ xob_12.1 xob_12.2).1.2)) (Or.inl (xtg_12_1 _ xob_12.1 xob_12.2).1.2)) (show xlook 158 54 = some (54, .return_, 1, 0, 0, 0, 0) from xlk (by decide +kernel)) rfl (t (xPT_arr (xPT_arr (xPT_arr (xPT_arr hPT (Or.inl (xtg_12_1 _ xob_12.1 xob_12.2).1.2)) (Or.inl (xtg_12_1 _ xob_12.1 xob_12.2).1.2)) (Or.inl (xtg_12_1 _ xob_12.1 xob_12.2).1.2)) (Or.inl (xtg_12_1 _ xob_12.1 xob_12.2).1.2)))
theorem m158 {X : List Int32} {d : Nat} {F : XF} {Q : XF → Prop} {x1 : Int} {x2 : Int} {x3 : Int} (hPT : xPT F)  (t : (0 ≤ ((142) + ((3) * ((F) (132) 7))) ∧ ((142) + ((3) * ((F) (132) 7))) < 163) ∧ ((0 ≤ (((142) + ((3) * ((F) (132) 7))) + (1)) ∧ (((142) + ((3) * ((F) (132) 7))) + (1)) < 163) ∧ ((0 ≤ (((142) + ((3) * ((F) (132) 7))) + (2)) ∧ (((142) + ((3) * ((F) (132) 7))) + (2)) < 163) ∧ (xPT (xup (xup (xup (xup (F) (132) ((142) + ((3) * ((F) (132) 7))) (x1)) (132) (((142) + ((3) * ((F) (132) 7))) + (1)) (x2)) (132) (((142) + ((3) * ((F) (132) 7))) + (2)) (x3)) (132) 7 (((xup (xup (xup (F) (132) ((142) + ((3) * ((F) (132) 7))) (x1)) (132) (((142) + ((3) * ((F) (132) 7))) + (1)) (x2)) (132) (((142) + ((3) * ((F) (132) 7))) + (2)) (x3)) (132) 7) + (1))) → Q (xup (xup (xup (xup (F) (132) ((142) + ((3) * ((F) (132) 7))) (x1)) (132) (((142) + ((3) * ((F) (132) 7))) + (1)) (x2)) (132) (((142) + ((3) * ((F) (132) 7))) + (2)) (x3)) (132) 7 (((xup (xup (xup (F) (132) ((142) + ((3) * ((F) (132) 7))) (x1)) (132) (((142) + ((3) * ((F) (132) 7))) + (1)) (x2)) (132) (((142) + ((3) * ((F) (132) 7))) + (2)) (x3)) (132) 7) + (1))))))) : xMV X d 158 [.ref (131), vi (x1), vi (x2), vi (x3)] F Q := by
  show xW X d 158 0 [.ref (131), vi (x1), vi (x2), vi (x3), xU0] [] F (xqv Q)
  exact s158_0 hPT  t

theorem s159_0 {X : List Int32} {d : Nat} {F : XF} {Q : Int → XF → Prop} {x0 : Int} {x1 : Int} (hPT : xPT F)  (t : (inR (x0)) ∧ (∃ (j1 : Nat), j1 < d ∧ xMI X j1 132 [vl (x0), vl (0), vl (1999)] (F) (fun (y1 : Int) (G1 : XF) => (inR (y1) ∧ ((((y1) = (0)) → (xPT (G1) → Q (0) (G1))) ∧ (¬ ((y1) = (0)) → ((inR (x1)) ∧ (∃ (j2 : Nat), j2 < d ∧ xMI X j2 132 [vl (x1), vl (1), vl (500)] (G1) (fun (y2 : Int) (G2 : XF) => (inR (y2) ∧ ((((y2) = (0)) → (xPT (G2) → Q (0) (G2))) ∧ (¬ ((y2) = (0)) → (xPT (G2) → Q (1) (G2)))))))))))))) : xW X d 159 0 [vi (x0), vi (x1)] [] F (xqi Q) := by
  refine xw_iload_n (n := 1) (show xlook 159 0 = some (0, .iload_n 0, 1, 0, 0, 0, 0) from xlk (by decide +kernel)) rfl rfl ?_
  obtain ⟨q1, t⟩ := t
  refine xw_i2l (n := 2) (show xlook 159 1 = some (1, .i2l, 1, 0, 0, 0, 0) from xlk (by decide +kernel)) rfl q1 ?_
  refine xw_lconst (n := 3) (show xlook 159 2 = some (2, .lconst 0, 1, 0, 0, 0, 0) from xlk (by decide +kernel)) rfl (k := 0) (by decide) ?_
  refine xw_ldc2 (n := 6) (show xlook 159 3 = some (3, .ldc2_w 172, 3, 0, 0, 1999, 9) from xlk (by decide +kernel)) rfl ?_
  obtain ⟨j1, hj1, rr1, G1, hm1, hG1, t⟩ := t
  obtain ⟨y1, rfl, t⟩ := t
  refine xw_calls (dk := j1) (as := [vl (x0), vl (0), vl (1999)]) (show xlook 159 6 = some (6, .invokestatic 83, 3, 132, 3, 0, 151) from xlk (by decide +kernel)) (by decide) hj1 ⟨Nat.le_of_ble_eq_true rfl, Nat.le_of_ble_eq_true rfl, Nat.le_of_ble_eq_true rfl, by decide⟩ rfl hm1 (n := 9) rfl ?_
  show xW X d 159 9 [vi (x0), vi (x1)] [vi (y1)] G1 (xqi Q)
  obtain ⟨q0, t⟩ := t
  refine xw_if_eq (n := 12) (m := 28) (show xlook 159 9 = some (9, .ifCond .eq 19, 3, 28, 0, 0, 0) from xlk (by decide +kernel)) rfl rfl q0 ⟨fun c => ?_, fun c => ?_⟩
  · replace t := t.1 c
    refine xw_iconst (n := 29) (show xlook 159 28 = some (28, .iconst 0, 1, 0, 0, 0, 0) from xlk (by decide +kernel)) rfl ?_
    exact xw_zreturn hG1 (show xlook 159 29 = some (29, .ireturn, 1, 0, 0, 0, 0) from xlk (by decide +kernel)) rfl (by decide) (t hG1)
  · replace t := t.2 c
    refine xw_iload_n (n := 13) (show xlook 159 12 = some (12, .iload_n 1, 1, 0, 0, 0, 0) from xlk (by decide +kernel)) rfl rfl ?_
    obtain ⟨q1, t⟩ := t
    refine xw_i2l (n := 14) (show xlook 159 13 = some (13, .i2l, 1, 0, 0, 0, 0) from xlk (by decide +kernel)) rfl q1 ?_
    refine xw_lconst (n := 15) (show xlook 159 14 = some (14, .lconst 1, 1, 0, 0, 0, 0) from xlk (by decide +kernel)) rfl (k := 1) (by decide) ?_
    refine xw_ldc2 (n := 18) (show xlook 159 15 = some (15, .ldc2_w 174, 3, 0, 0, 500, 10) from xlk (by decide +kernel)) rfl ?_
    obtain ⟨j2, hj2, rr2, G2, hm2, hG2, t⟩ := t
    obtain ⟨y2, rfl, t⟩ := t
    refine xw_calls (dk := j2) (as := [vl (x1), vl (1), vl (500)]) (show xlook 159 18 = some (18, .invokestatic 83, 3, 132, 3, 0, 151) from xlk (by decide +kernel)) (by decide) hj2 ⟨Nat.le_of_ble_eq_true rfl, Nat.le_of_ble_eq_true rfl, Nat.le_of_ble_eq_true rfl, by decide⟩ rfl hm2 (n := 21) rfl ?_
    show xW X d 159 21 [vi (x0), vi (x1)] [vi (y2)] G2 (xqi Q)
    obtain ⟨q0, t⟩ := t
    refine xw_if_eq (n := 24) (m := 28) (show xlook 159 21 = some (21, .ifCond .eq 7, 3, 28, 0, 0, 0) from xlk (by decide +kernel)) rfl rfl q0 ⟨fun c => ?_, fun c => ?_⟩
    · replace t := t.1 c
      refine xw_iconst (n := 29) (show xlook 159 28 = some (28, .iconst 0, 1, 0, 0, 0, 0) from xlk (by decide +kernel)) rfl ?_
      exact xw_zreturn hG2 (show xlook 159 29 = some (29, .ireturn, 1, 0, 0, 0, 0) from xlk (by decide +kernel)) rfl (by decide) (t hG2)
    · replace t := t.2 c
      refine xw_iconst (n := 25) (show xlook 159 24 = some (24, .iconst 1, 1, 0, 0, 0, 0) from xlk (by decide +kernel)) rfl ?_
      refine xw_goto (m := 29) (show xlook 159 25 = some (25, .goto 4, 3, 29, 0, 0, 0) from xlk (by decide +kernel)) rfl ?_
      exact xw_zreturn hG2 (show xlook 159 29 = some (29, .ireturn, 1, 0, 0, 0, 0) from xlk (by decide +kernel)) rfl (by decide) (t hG2)
theorem m159 {X : List Int32} {d : Nat} {F : XF} {Q : Int → XF → Prop} {x0 : Int} {x1 : Int} (hPT : xPT F)  (t : (inR (x0)) ∧ (∃ (j1 : Nat), j1 < d ∧ xMI X j1 132 [vl (x0), vl (0), vl (1999)] (F) (fun (y1 : Int) (G1 : XF) => (inR (y1) ∧ ((((y1) = (0)) → (xPT (G1) → Q (0) (G1))) ∧ (¬ ((y1) = (0)) → ((inR (x1)) ∧ (∃ (j2 : Nat), j2 < d ∧ xMI X j2 132 [vl (x1), vl (1), vl (500)] (G1) (fun (y2 : Int) (G2 : XF) => (inR (y2) ∧ ((((y2) = (0)) → (xPT (G2) → Q (0) (G2))) ∧ (¬ ((y2) = (0)) → (xPT (G2) → Q (1) (G2)))))))))))))) : xMI X d 159 [vi (x0), vi (x1)] F Q := by
  show xW X d 159 0 [vi (x0), vi (x1)] [] F (xqi Q)
  exact s159_0 hPT  t

theorem s160_0 {X : List Int32} {d : Nat} {F : XF} {Q : Int → XF → Prop} {x1 : Int} {x2 : Int} {x3 : Int} (hPT : xPT F)  (t : ∃ (j1 : Nat), j1 < d ∧ xMI X j1 155 [.ref (131), vi (x1)] (xup (F) (131) 0 (0)) (fun (y1 : Int) (G1 : XF) => (inR (y1) ∧ (((¬ (y1) = (0)) → (∃ (j2 : Nat), j2 < d ∧ xMI X j2 159 [vi (x2), vi (x3)] (G1) (fun (y2 : Int) (G2 : XF) => (inR (y2) ∧ (((¬ (y2) = (0)) → (inR ((G2) (132) 7) ∧ (((¬ ((G2) (132) 7) = (6)) → (∃ (j3 : Nat), j3 < d ∧ xMV X j3 153 [.ref (131)] (G2) (fun (G3 : XF) => (∃ (j4 : Nat), j4 < d ∧ xMV X j4 158 [.ref (131), vi (x1), vi (x2), vi (x3)] (G3) (fun (G4 : XF) => (∃ (j5 : Nat), j5 < d ∧ xMV X j5 170 [.ref (131), vi (0)] (G4) (fun (G5 : XF) => (xPT (G5) → Q ((G5) (132) 7) (G5))))))))) ∧ (¬ (¬ ((G2) (132) 7) = (6)) → (xPT (G2) → Q ((-4)) (G2)))))) ∧ (¬ (¬ (y2) = (0)) → (xPT (G2) → Q ((-3)) (G2)))))))) ∧ (¬ (¬ (y1) = (0)) → (xPT (G1) → Q ((-2)) (G1))))))) : xW X d 160 0 [.ref (131), vi (x1), vi (x2), vi (x3)] [] F (xqi Q) := by
  refine xw_aload_n (n := 1) (show xlook 160 0 = some (0, .aload_n 0, 1, 0, 0, 0, 0) from xlk (by decide +kernel)) rfl rfl ?_
  refine xw_iconst (n := 2) (show xlook 160 1 = some (1, .iconst 0, 1, 0, 0, 0, 0) from xlk (by decide +kernel)) rfl ?_
  refine xw_puti (show xlook 160 2 = some (2, .putfield 1, 3, 12, 0, 0, 235) from xlk (by decide +kernel)) (xobf xob_12 (by decide) (by decide)) rfl (n := 5) rfl ?_
  refine xw_aload_n (n := 6) (show xlook 160 5 = some (5, .aload_n 0, 1, 0, 0, 0, 0) from xlk (by decide +kernel)) rfl rfl ?_
  refine xw_iload_n (n := 7) (show xlook 160 6 = some (6, .iload_n 1, 1, 0, 0, 0, 0) from xlk (by decide +kernel)) rfl rfl ?_
  obtain ⟨j1, hj1, rr1, G1, hm1, hG1, t⟩ := t
  obtain ⟨y1, rfl, t⟩ := t
  refine xw_callv (dk := j1) (o := 131) (as := [vi (x1)]) (show xlook 160 7 = some (7, .invokevirtual 176, 3, 155, 2, 0, 171) from xlk (by decide +kernel)) (by decide) hj1 ⟨Nat.le_of_ble_eq_true rfl, Nat.le_of_ble_eq_true rfl, Nat.le_of_ble_eq_true rfl⟩ ⟨xob_12.1, xob_12.2, by decide⟩ rfl hm1 (n := 10) rfl ?_
  show xW X d 160 10 [.ref (131), vi (x1), vi (x2), vi (x3)] [vi (y1)] G1 (xqi Q)
  obtain ⟨q0, t⟩ := t
  refine xw_if_ne (n := 13) (m := 16) (show xlook 160 10 = some (10, .ifCond .ne 6, 3, 16, 0, 0, 0) from xlk (by decide +kernel)) rfl rfl q0 ⟨fun c => ?_, fun c => ?_⟩
  · replace t := t.1 c
    refine xw_iload_n (n := 17) (show xlook 160 16 = some (16, .iload_n 2, 1, 0, 0, 0, 0) from xlk (by decide +kernel)) rfl rfl ?_
    refine xw_iload_n (n := 18) (show xlook 160 17 = some (17, .iload_n 3, 1, 0, 0, 0, 0) from xlk (by decide +kernel)) rfl rfl ?_
    obtain ⟨j2, hj2, rr2, G2, hm2, hG2, t⟩ := t
    obtain ⟨y2, rfl, t⟩ := t
    refine xw_calls (dk := j2) (as := [vi (x2), vi (x3)]) (show xlook 160 18 = some (18, .invokestatic 179, 3, 159, 2, 0, 172) from xlk (by decide +kernel)) (by decide) hj2 ⟨Nat.le_of_ble_eq_true rfl, Nat.le_of_ble_eq_true rfl, Nat.le_of_ble_eq_true rfl, by decide⟩ rfl hm2 (n := 21) rfl ?_
    show xW X d 160 21 [.ref (131), vi (x1), vi (x2), vi (x3)] [vi (y2)] G2 (xqi Q)
    obtain ⟨q0, t⟩ := t
    refine xw_if_ne (n := 24) (m := 27) (show xlook 160 21 = some (21, .ifCond .ne 6, 3, 27, 0, 0, 0) from xlk (by decide +kernel)) rfl rfl q0 ⟨fun c => ?_, fun c => ?_⟩
    · replace t := t.1 c
      refine xw_aload_n (n := 28) (show xlook 160 27 = some (27, .aload_n 0, 1, 0, 0, 0, 0) from xlk (by decide +kernel)) rfl rfl ?_
      refine xw_getr (q := 132) (show xlook 160 28 = some (28, .getfield 13, 3, 12, 1, 0, 220) from xlk (by decide +kernel)) (by decide) (xobf xob_12 (by decide) (by decide)) rfl (xPT_get (k := 1) (f := 1) hG2 xob_12 (by decide)) (by have := (xtg_12_1 _ xob_12.1 xob_12.2).1.1; omega) (n := 31) rfl ?_
      refine xw_bipush (n := 33) (show xlook 160 31 = some (31, .bipush 7, 2, 0, 0, 0, 0) from xlk (by decide +kernel)) rfl (by decide) ?_
      refine xw_iald (show xlook 160 33 = some (33, .iaload, 1, 0, 0, 0, 0) from xlk (by decide +kernel)) (xtg_12_1 _ xob_12.1 xob_12.2).1 (by rw [(xtg_12_1 _ xob_12.1 xob_12.2).2]; decide) (n := 34) rfl ?_
      refine xw_bipush (n := 36) (show xlook 160 34 = some (34, .bipush 6, 2, 0, 0, 0, 0) from xlk (by decide +kernel)) rfl (by decide) ?_
      obtain ⟨q0, t⟩ := t
      refine xw_icmp_ne (n := 39) (m := 42) (show xlook 160 36 = some (36, .if_icmp .ne 6, 3, 42, 0, 0, 0) from xlk (by decide +kernel)) rfl rfl q0 ⟨by decide, by decide⟩ ⟨fun c => ?_, fun c => ?_⟩
      · replace t := t.1 c
        refine xw_aload_n (n := 43) (show xlook 160 42 = some (42, .aload_n 0, 1, 0, 0, 0, 0) from xlk (by decide +kernel)) rfl rfl ?_
        obtain ⟨j3, hj3, rr3, G3, hm3, hG3, t⟩ := t
        obtain ⟨rfl, t⟩ := t
        refine xw_callv (dk := j3) (o := 131) (as := []) (show xlook 160 43 = some (43, .invokevirtual 164, 3, 153, 1, 0, 170) from xlk (by decide +kernel)) (by decide) hj3 ⟨Nat.le_of_ble_eq_true rfl, Nat.le_of_ble_eq_true rfl, Nat.le_of_ble_eq_true rfl⟩ ⟨xob_12.1, xob_12.2, by decide⟩ rfl hm3 (n := 46) rfl ?_
        show xW X d 160 46 [.ref (131), vi (x1), vi (x2), vi (x3)] [] G3 (xqi Q)
        refine xw_aload_n (n := 47) (show xlook 160 46 = some (46, .aload_n 0, 1, 0, 0, 0, 0) from xlk (by decide +kernel)) rfl rfl ?_
        refine xw_iload_n (n := 48) (show xlook 160 47 = some (47, .iload_n 1, 1, 0, 0, 0, 0) from xlk (by decide +kernel)) rfl rfl ?_
        refine xw_iload_n (n := 49) (show xlook 160 48 = some (48, .iload_n 2, 1, 0, 0, 0, 0) from xlk (by decide +kernel)) rfl rfl ?_
        refine xw_iload_n (n := 50) (show xlook 160 49 = some (49, .iload_n 3, 1, 0, 0, 0, 0) from xlk (by decide +kernel)) rfl rfl ?_
        obtain ⟨j4, hj4, rr4, G4, hm4, hG4, t⟩ := t
        obtain ⟨rfl, t⟩ := t
        refine xw_callv (dk := j4) (o := 131) (as := [vi (x1), vi (x2), vi (x3)]) (show xlook 160 50 = some (50, .invokevirtual 183, 3, 158, 4, 0, 173) from xlk (by decide +kernel)) (by decide) hj4 ⟨Nat.le_of_ble_eq_true rfl, Nat.le_of_ble_eq_true rfl, Nat.le_of_ble_eq_true rfl⟩ ⟨xob_12.1, xob_12.2, by decide⟩ rfl hm4 (n := 53) rfl ?_
        show xW X d 160 53 [.ref (131), vi (x1), vi (x2), vi (x3)] [] G4 (xqi Q)
        refine xw_aload_n (n := 54) (show xlook 160 53 = some (53, .aload_n 0, 1, 0, 0, 0, 0) from xlk (by decide +kernel)) rfl rfl ?_
        refine xw_iconst (n := 55) (show xlook 160 54 = some (54, .iconst 0, 1, 0, 0, 0, 0) from xlk (by decide +kernel)) rfl ?_
        obtain ⟨j5, hj5, rr5, G5, hm5, hG5, t⟩ := t
        obtain ⟨rfl, t⟩ := t
        refine xw_callv (dk := j5) (o := 131) (as := [vi (0)]) (show xlook 160 55 = some (55, .invokevirtual 63, 3, 170, 2, 0, 150) from xlk (by decide +kernel)) (by decide) hj5 ⟨Nat.le_of_ble_eq_true rfl, Nat.le_of_ble_eq_true rfl, Nat.le_of_ble_eq_true rfl⟩ ⟨xob_12.1, xob_12.2, by decide⟩ rfl hm5 (n := 58) rfl ?_
        show xW X d 160 58 [.ref (131), vi (x1), vi (x2), vi (x3)] [] G5 (xqi Q)
        refine xw_aload_n (n := 59) (show xlook 160 58 = some (58, .aload_n 0, 1, 0, 0, 0, 0) from xlk (by decide +kernel)) rfl rfl ?_
        refine xw_getr (q := 132) (show xlook 160 59 = some (59, .getfield 13, 3, 12, 1, 0, 220) from xlk (by decide +kernel)) (by decide) (xobf xob_12 (by decide) (by decide)) rfl (xPT_get (k := 1) (f := 1) hG5 xob_12 (by decide)) (by have := (xtg_12_1 _ xob_12.1 xob_12.2).1.1; omega) (n := 62) rfl ?_
        refine xw_bipush (n := 64) (show xlook 160 62 = some (62, .bipush 7, 2, 0, 0, 0, 0) from xlk (by decide +kernel)) rfl (by decide) ?_
        refine xw_iald (show xlook 160 64 = some (64, .iaload, 1, 0, 0, 0, 0) from xlk (by decide +kernel)) (xtg_12_1 _ xob_12.1 xob_12.2).1 (by rw [(xtg_12_1 _ xob_12.1 xob_12.2).2]; decide) (n := 65) rfl ?_
        exact xw_ireturn hG5 (show xlook 160 65 = some (65, .ireturn, 1, 0, 0, 0, 0) from xlk (by decide +kernel)) rfl (t hG5)
      · replace t := t.2 c
        refine xw_bipush (n := 41) (show xlook 160 39 = some (39, .bipush (-4), 2, 0, 0, 0, 0) from xlk (by decide +kernel)) rfl (by decide) ?_
        exact xw_ireturn hG2 (show xlook 160 41 = some (41, .ireturn, 1, 0, 0, 0, 0) from xlk (by decide +kernel)) rfl (t hG2)
    · replace t := t.2 c
      refine xw_bipush (n := 26) (show xlook 160 24 = some (24, .bipush (-3), 2, 0, 0, 0, 0) from xlk (by decide +kernel)) rfl (by decide) ?_
      exact xw_ireturn hG2 (show xlook 160 26 = some (26, .ireturn, 1, 0, 0, 0, 0) from xlk (by decide +kernel)) rfl (t hG2)
  · replace t := t.2 c
    refine xw_bipush (n := 15) (show xlook 160 13 = some (13, .bipush (-2), 2, 0, 0, 0, 0) from xlk (by decide +kernel)) rfl (by decide) ?_
    exact xw_ireturn hG1 (show xlook 160 15 = some (15, .ireturn, 1, 0, 0, 0, 0) from xlk (by decide +kernel)) rfl (t hG1)
theorem m160 {X : List Int32} {d : Nat} {F : XF} {Q : Int → XF → Prop} {x1 : Int} {x2 : Int} {x3 : Int} (hPT : xPT F)  (t : ∃ (j1 : Nat), j1 < d ∧ xMI X j1 155 [.ref (131), vi (x1)] (xup (F) (131) 0 (0)) (fun (y1 : Int) (G1 : XF) => (inR (y1) ∧ (((¬ (y1) = (0)) → (∃ (j2 : Nat), j2 < d ∧ xMI X j2 159 [vi (x2), vi (x3)] (G1) (fun (y2 : Int) (G2 : XF) => (inR (y2) ∧ (((¬ (y2) = (0)) → (inR ((G2) (132) 7) ∧ (((¬ ((G2) (132) 7) = (6)) → (∃ (j3 : Nat), j3 < d ∧ xMV X j3 153 [.ref (131)] (G2) (fun (G3 : XF) => (∃ (j4 : Nat), j4 < d ∧ xMV X j4 158 [.ref (131), vi (x1), vi (x2), vi (x3)] (G3) (fun (G4 : XF) => (∃ (j5 : Nat), j5 < d ∧ xMV X j5 170 [.ref (131), vi (0)] (G4) (fun (G5 : XF) => (xPT (G5) → Q ((G5) (132) 7) (G5))))))))) ∧ (¬ (¬ ((G2) (132) 7) = (6)) → (xPT (G2) → Q ((-4)) (G2)))))) ∧ (¬ (¬ (y2) = (0)) → (xPT (G2) → Q ((-3)) (G2)))))))) ∧ (¬ (¬ (y1) = (0)) → (xPT (G1) → Q ((-2)) (G1))))))) : xMI X d 160 [.ref (131), vi (x1), vi (x2), vi (x3)] F Q := by
  show xW X d 160 0 [.ref (131), vi (x1), vi (x2), vi (x3)] [] F (xqi Q)
  exact s160_0 hPT  t

theorem s161_0 {X : List Int32} {d : Nat} {F : XF} {Q : Int → XF → Prop}  (hPT : xPT F)  (t : inR ((F) (132) 7) ∧ (((¬ ((F) (132) 7) = (0)) → (∃ (j1 : Nat), j1 < d ∧ xMV X j1 153 [.ref (131)] (xup (F) (131) 0 (0)) (fun (G1 : XF) => (∃ (j2 : Nat), j2 < d ∧ xMV X j2 170 [.ref (131), vi (0)] (xup (G1) (132) 7 (((G1) (132) 7) - (1))) (fun (G2 : XF) => (xPT (G2) → Q ((G2) (132) 7) (G2))))))) ∧ (¬ (¬ ((F) (132) 7) = (0)) → (xPT (xup (F) (131) 0 (0)) → Q ((-5)) (xup (F) (131) 0 (0)))))) : xW X d 161 0 [.ref (131)] [] F (xqi Q) := by
  refine xw_aload_n (n := 1) (show xlook 161 0 = some (0, .aload_n 0, 1, 0, 0, 0, 0) from xlk (by decide +kernel)) rfl rfl ?_
  refine xw_iconst (n := 2) (show xlook 161 1 = some (1, .iconst 0, 1, 0, 0, 0, 0) from xlk (by decide +kernel)) rfl ?_
  refine xw_puti (show xlook 161 2 = some (2, .putfield 1, 3, 12, 0, 0, 235) from xlk (by decide +kernel)) (xobf xob_12 (by decide) (by decide)) rfl (n := 5) rfl ?_
  refine xw_aload_n (n := 6) (show xlook 161 5 = some (5, .aload_n 0, 1, 0, 0, 0, 0) from xlk (by decide +kernel)) rfl rfl ?_
  refine xw_getr (q := 132) (show xlook 161 6 = some (6, .getfield 13, 3, 12, 1, 0, 220) from xlk (by decide +kernel)) (by decide) (xobf xob_12 (by decide) (by decide)) rfl (xPT_get (k := 1) (f := 1) (xPT_fld (k := 0) hPT xob_12 (by decide) (by decide)) xob_12 (by decide)) (by have := (xtg_12_1 _ xob_12.1 xob_12.2).1.1; omega) (n := 9) rfl ?_
  refine xw_bipush (n := 11) (show xlook 161 9 = some (9, .bipush 7, 2, 0, 0, 0, 0) from xlk (by decide +kernel)) rfl (by decide) ?_
  refine xw_iald2 (u := (F) (132) 7) (show xlook 161 11 = some (11, .iaload, 1, 0, 0, 0, 0) from xlk (by decide +kernel)) (xtg_12_1 _ xob_12.1 xob_12.2).1 (by rw [(xtg_12_1 _ xob_12.1 xob_12.2).2]; decide) (xup_o (by decide)) (n := 12) rfl ?_
  obtain ⟨q0, t⟩ := t
  refine xw_if_ne (n := 15) (m := 18) (show xlook 161 12 = some (12, .ifCond .ne 6, 3, 18, 0, 0, 0) from xlk (by decide +kernel)) rfl rfl q0 ⟨fun c => ?_, fun c => ?_⟩
  · replace t := t.1 c
    refine xw_aload_n (n := 19) (show xlook 161 18 = some (18, .aload_n 0, 1, 0, 0, 0, 0) from xlk (by decide +kernel)) rfl rfl ?_
    obtain ⟨j1, hj1, rr1, G1, hm1, hG1, t⟩ := t
    obtain ⟨rfl, t⟩ := t
    refine xw_callv (dk := j1) (o := 131) (as := []) (show xlook 161 19 = some (19, .invokevirtual 164, 3, 153, 1, 0, 170) from xlk (by decide +kernel)) (by decide) hj1 ⟨Nat.le_of_ble_eq_true rfl, Nat.le_of_ble_eq_true rfl, Nat.le_of_ble_eq_true rfl⟩ ⟨xob_12.1, xob_12.2, by decide⟩ rfl hm1 (n := 22) rfl ?_
    show xW X d 161 22 [.ref (131)] [] G1 (xqi Q)
    refine xw_aload_n (n := 23) (show xlook 161 22 = some (22, .aload_n 0, 1, 0, 0, 0, 0) from xlk (by decide +kernel)) rfl rfl ?_
    refine xw_getr (q := 132) (show xlook 161 23 = some (23, .getfield 13, 3, 12, 1, 0, 220) from xlk (by decide +kernel)) (by decide) (xobf xob_12 (by decide) (by decide)) rfl (xPT_get (k := 1) (f := 1) hG1 xob_12 (by decide)) (by have := (xtg_12_1 _ xob_12.1 xob_12.2).1.1; omega) (n := 26) rfl ?_
    refine xw_bipush (n := 28) (show xlook 161 26 = some (26, .bipush 7, 2, 0, 0, 0, 0) from xlk (by decide +kernel)) rfl (by decide) ?_
    refine xw_dup2 (n := 29) (show xlook 161 28 = some (28, .dup2, 1, 0, 0, 0, 0) from xlk (by decide +kernel)) rfl ?_
    refine xw_iald (show xlook 161 29 = some (29, .iaload, 1, 0, 0, 0, 0) from xlk (by decide +kernel)) (xtg_12_1 _ xob_12.1 xob_12.2).1 (by rw [(xtg_12_1 _ xob_12.1 xob_12.2).2]; decide) (n := 30) rfl ?_
    refine xw_iconst (n := 31) (show xlook 161 30 = some (30, .iconst 1, 1, 0, 0, 0, 0) from xlk (by decide +kernel)) rfl ?_
    refine xw_isub (n := 32) (show xlook 161 31 = some (31, .isub, 1, 0, 0, 0, 0) from xlk (by decide +kernel)) rfl ?_
    refine xw_iast (show xlook 161 32 = some (32, .iastore, 1, 0, 0, 0, 0) from xlk (by decide +kernel)) (xtg_12_1 _ xob_12.1 xob_12.2).1 (by rw [(xtg_12_1 _ xob_12.1 xob_12.2).2]; decide) (n := 33) rfl ?_
    refine xw_aload_n (n := 34) (show xlook 161 33 = some (33, .aload_n 0, 1, 0, 0, 0, 0) from xlk (by decide +kernel)) rfl rfl ?_
    refine xw_iconst (n := 35) (show xlook 161 34 = some (34, .iconst 0, 1, 0, 0, 0, 0) from xlk (by decide +kernel)) rfl ?_
    obtain ⟨j2, hj2, rr2, G2, hm2, hG2, t⟩ := t
    obtain ⟨rfl, t⟩ := t
    refine xw_callv (dk := j2) (o := 131) (as := [vi (0)]) (show xlook 161 35 = some (35, .invokevirtual 63, 3, 170, 2, 0, 150) from xlk (by decide +kernel)) (by decide) hj2 ⟨Nat.le_of_ble_eq_true rfl, Nat.le_of_ble_eq_true rfl, Nat.le_of_ble_eq_true rfl⟩ ⟨xob_12.1, xob_12.2, by decide⟩ rfl hm2 (n := 38) rfl ?_
    show xW X d 161 38 [.ref (131)] [] G2 (xqi Q)
    refine xw_aload_n (n := 39) (show xlook 161 38 = some (38, .aload_n 0, 1, 0, 0, 0, 0) from xlk (by decide +kernel)) rfl rfl ?_
    refine xw_getr (q := 132) (show xlook 161 39 = some (39, .getfield 13, 3, 12, 1, 0, 220) from xlk (by decide +kernel)) (by decide) (xobf xob_12 (by decide) (by decide)) rfl (xPT_get (k := 1) (f := 1) hG2 xob_12 (by decide)) (by have := (xtg_12_1 _ xob_12.1 xob_12.2).1.1; omega) (n := 42) rfl ?_
    refine xw_bipush (n := 44) (show xlook 161 42 = some (42, .bipush 7, 2, 0, 0, 0, 0) from xlk (by decide +kernel)) rfl (by decide) ?_
    refine xw_iald (show xlook 161 44 = some (44, .iaload, 1, 0, 0, 0, 0) from xlk (by decide +kernel)) (xtg_12_1 _ xob_12.1 xob_12.2).1 (by rw [(xtg_12_1 _ xob_12.1 xob_12.2).2]; decide) (n := 45) rfl ?_
    exact xw_ireturn hG2 (show xlook 161 45 = some (45, .ireturn, 1, 0, 0, 0, 0) from xlk (by decide +kernel)) rfl (t hG2)
  · replace t := t.2 c
    refine xw_bipush (n := 17) (show xlook 161 15 = some (15, .bipush (-5), 2, 0, 0, 0, 0) from xlk (by decide +kernel)) rfl (by decide) ?_
    exact xw_ireturn (xPT_fld (k := 0) hPT xob_12 (by decide) (by decide)) (show xlook 161 17 = some (17, .ireturn, 1, 0, 0, 0, 0) from xlk (by decide +kernel)) rfl (t (xPT_fld (k := 0) hPT xob_12 (by decide) (by decide)))
theorem m161 {X : List Int32} {d : Nat} {F : XF} {Q : Int → XF → Prop}  (hPT : xPT F)  (t : inR ((F) (132) 7) ∧ (((¬ ((F) (132) 7) = (0)) → (∃ (j1 : Nat), j1 < d ∧ xMV X j1 153 [.ref (131)] (xup (F) (131) 0 (0)) (fun (G1 : XF) => (∃ (j2 : Nat), j2 < d ∧ xMV X j2 170 [.ref (131), vi (0)] (xup (G1) (132) 7 (((G1) (132) 7) - (1))) (fun (G2 : XF) => (xPT (G2) → Q ((G2) (132) 7) (G2))))))) ∧ (¬ (¬ ((F) (132) 7) = (0)) → (xPT (xup (F) (131) 0 (0)) → Q ((-5)) (xup (F) (131) 0 (0)))))) : xMI X d 161 [.ref (131)] F Q := by
  show xW X d 161 0 [.ref (131)] [] F (xqi Q)
  exact s161_0 hPT  t

theorem s162_0 {X : List Int32} {d : Nat} {F : XF} {Q : Int → XF → Prop} {w1 : Value} (hPT : xPT F)  (t : inR ((F) (131) 12) ∧ (((¬ ((F) (131) 12) = (0)) → (xPT (xup (xup (F) (131) 0 (0)) (131) 12 (((F) (131) 12) - (1))) → xW X d 162 27 [.ref (131), vi (0)] [] (xup (xup (F) (131) 0 (0)) (131) 12 (((F) (131) 12) - (1))) (xqi Q))) ∧ (¬ (¬ ((F) (131) 12) = (0)) → (xPT (xup (F) (131) 0 (0)) → Q ((-5)) (xup (F) (131) 0 (0)))))) : xW X d 162 0 [.ref (131), w1] [] F (xqi Q) := by
  refine xw_aload_n (n := 1) (show xlook 162 0 = some (0, .aload_n 0, 1, 0, 0, 0, 0) from xlk (by decide +kernel)) rfl rfl ?_
  refine xw_iconst (n := 2) (show xlook 162 1 = some (1, .iconst 0, 1, 0, 0, 0, 0) from xlk (by decide +kernel)) rfl ?_
  refine xw_puti (show xlook 162 2 = some (2, .putfield 1, 3, 12, 0, 0, 235) from xlk (by decide +kernel)) (xobf xob_12 (by decide) (by decide)) rfl (n := 5) rfl ?_
  refine xw_aload_n (n := 6) (show xlook 162 5 = some (5, .aload_n 0, 1, 0, 0, 0, 0) from xlk (by decide +kernel)) rfl rfl ?_
  refine xw_geti2 (u := (F) (131) 12) (show xlook 162 6 = some (6, .getfield 158, 3, 12, 12, 0, 242) from xlk (by decide +kernel)) (by decide) (xobf xob_12 (by decide) (by decide)) rfl (xup_i (by decide)) (n := 9) rfl ?_
  obtain ⟨q0, t⟩ := t
  refine xw_if_ne (n := 12) (m := 15) (show xlook 162 9 = some (9, .ifCond .ne 6, 3, 15, 0, 0, 0) from xlk (by decide +kernel)) rfl rfl q0 ⟨fun c => ?_, fun c => ?_⟩
  · replace t := t.1 c
    refine xw_aload_n (n := 16) (show xlook 162 15 = some (15, .aload_n 0, 1, 0, 0, 0, 0) from xlk (by decide +kernel)) rfl rfl ?_
    refine xw_dupr (n := 17) (show xlook 162 16 = some (16, .dup, 1, 0, 0, 0, 0) from xlk (by decide +kernel)) rfl ?_
    refine xw_geti2 (u := (F) (131) 12) (show xlook 162 17 = some (17, .getfield 158, 3, 12, 12, 0, 242) from xlk (by decide +kernel)) (by decide) (xobf xob_12 (by decide) (by decide)) rfl (xup_i (by decide)) (n := 20) rfl ?_
    refine xw_iconst (n := 21) (show xlook 162 20 = some (20, .iconst 1, 1, 0, 0, 0, 0) from xlk (by decide +kernel)) rfl ?_
    refine xw_isub (n := 22) (show xlook 162 21 = some (21, .isub, 1, 0, 0, 0, 0) from xlk (by decide +kernel)) rfl ?_
    refine xw_puti (show xlook 162 22 = some (22, .putfield 158, 3, 12, 12, 0, 242) from xlk (by decide +kernel)) (xobf xob_12 (by decide) (by decide)) rfl (n := 25) rfl ?_
    refine xw_iconst (n := 26) (show xlook 162 25 = some (25, .iconst 0, 1, 0, 0, 0, 0) from xlk (by decide +kernel)) rfl ?_
    refine xw_istore_n (n := 27) (show xlook 162 26 = some (26, .istore_n 1, 1, 0, 0, 0, 0) from xlk (by decide +kernel)) rfl (ls' := [.ref (131), vi (0)]) (Nat.le_of_ble_eq_true rfl) rfl ?_
    exact t (xPT_fld (k := 12) (xPT_fld (k := 0) hPT xob_12 (by decide) (by decide)) xob_12 (by decide) (by decide))
  · replace t := t.2 c
    refine xw_bipush (n := 14) (show xlook 162 12 = some (12, .bipush (-5), 2, 0, 0, 0, 0) from xlk (by decide +kernel)) rfl (by decide) ?_
    exact xw_ireturn (xPT_fld (k := 0) hPT xob_12 (by decide) (by decide)) (show xlook 162 14 = some (14, .ireturn, 1, 0, 0, 0, 0) from xlk (by decide +kernel)) rfl (t (xPT_fld (k := 0) hPT xob_12 (by decide) (by decide)))
theorem m162 {X : List Int32} {d : Nat} {F : XF} {Q : Int → XF → Prop}  (hPT : xPT F)  (t : inR ((F) (131) 12) ∧ (((¬ ((F) (131) 12) = (0)) → (xPT (xup (xup (F) (131) 0 (0)) (131) 12 (((F) (131) 12) - (1))) → xW X d 162 27 [.ref (131), vi (0)] [] (xup (xup (F) (131) 0 (0)) (131) 12 (((F) (131) 12) - (1))) (xqi Q))) ∧ (¬ (¬ ((F) (131) 12) = (0)) → (xPT (xup (F) (131) 0 (0)) → Q ((-5)) (xup (F) (131) 0 (0)))))) : xMI X d 162 [.ref (131)] F Q := by
  show xW X d 162 0 [.ref (131), xU0] [] F (xqi Q)
  exact s162_0 hPT  t

theorem s162_27 {X : List Int32} {d : Nat} {F : XF} {Q : Int → XF → Prop} {x1 : Int} (hPT : xPT F)  (t : inR (x1) ∧ ((((163) ≤ (x1)) → (∃ (j1 : Nat), j1 < d ∧ xMV X j1 170 [.ref (131), vi (0)] (F) (fun (G1 : XF) => (xPT (G1) → Q ((G1) (131) 12) (G1))))) ∧ (¬ ((163) ≤ (x1)) → ((0 ≤ (((163) * ((F) (131) 12)) + (x1)) ∧ (((163) * ((F) (131) 12)) + (x1)) < 1630) ∧ ((0 ≤ (x1) ∧ (x1) < 163) ∧ (xPT (xup (F) (132) (x1) ((F) (135) (((163) * ((F) (131) 12)) + (x1)))) → xW X d 162 27 [.ref (131), vi (x1 + 1)] [] (xup (F) (132) (x1) ((F) (135) (((163) * ((F) (131) 12)) + (x1)))) (xqi Q))))))) : xW X d 162 27 [.ref (131), vi (x1)] [] F (xqi Q) := by
  refine xw_iload_n (n := 28) (show xlook 162 27 = some (27, .iload_n 1, 1, 0, 0, 0, 0) from xlk (by decide +kernel)) rfl rfl ?_
  refine xw_sipush (n := 31) (show xlook 162 28 = some (28, .sipush 163, 3, 0, 0, 0, 0) from xlk (by decide +kernel)) rfl (by decide) ?_
  obtain ⟨q0, t⟩ := t
  refine xw_icmp_ge (n := 34) (m := 61) (show xlook 162 31 = some (31, .if_icmp .ge 30, 3, 61, 0, 0, 0) from xlk (by decide +kernel)) rfl rfl q0 ⟨by decide, by decide⟩ ⟨fun c => ?_, fun c => ?_⟩
  · replace t := t.1 c
    refine xw_aload_n (n := 62) (show xlook 162 61 = some (61, .aload_n 0, 1, 0, 0, 0, 0) from xlk (by decide +kernel)) rfl rfl ?_
    refine xw_iconst (n := 63) (show xlook 162 62 = some (62, .iconst 0, 1, 0, 0, 0, 0) from xlk (by decide +kernel)) rfl ?_
    obtain ⟨j1, hj1, rr1, G1, hm1, hG1, t⟩ := t
    obtain ⟨rfl, t⟩ := t
    refine xw_callv (dk := j1) (o := 131) (as := [vi (0)]) (show xlook 162 63 = some (63, .invokevirtual 63, 3, 170, 2, 0, 150) from xlk (by decide +kernel)) (by decide) hj1 ⟨Nat.le_of_ble_eq_true rfl, Nat.le_of_ble_eq_true rfl, Nat.le_of_ble_eq_true rfl⟩ ⟨xob_12.1, xob_12.2, by decide⟩ rfl hm1 (n := 66) rfl ?_
    show xW X d 162 66 [.ref (131), vi (x1)] [] G1 (xqi Q)
    refine xw_aload_n (n := 67) (show xlook 162 66 = some (66, .aload_n 0, 1, 0, 0, 0, 0) from xlk (by decide +kernel)) rfl rfl ?_
    refine xw_geti (show xlook 162 67 = some (67, .getfield 158, 3, 12, 12, 0, 242) from xlk (by decide +kernel)) (by decide) (xobf xob_12 (by decide) (by decide)) rfl (n := 70) rfl ?_
    exact xw_ireturn hG1 (show xlook 162 70 = some (70, .ireturn, 1, 0, 0, 0, 0) from xlk (by decide +kernel)) rfl (t hG1)
  · replace t := t.2 c
    refine xw_aload_n (n := 35) (show xlook 162 34 = some (34, .aload_n 0, 1, 0, 0, 0, 0) from xlk (by decide +kernel)) rfl rfl ?_
    refine xw_getr (q := 132) (show xlook 162 35 = some (35, .getfield 13, 3, 12, 1, 0, 220) from xlk (by decide +kernel)) (by decide) (xobf xob_12 (by decide) (by decide)) rfl (xPT_get (k := 1) (f := 1) hPT xob_12 (by decide)) (by have := (xtg_12_1 _ xob_12.1 xob_12.2).1.1; omega) (n := 38) rfl ?_
    refine xw_iload_n (n := 39) (show xlook 162 38 = some (38, .iload_n 1, 1, 0, 0, 0, 0) from xlk (by decide +kernel)) rfl rfl ?_
    refine xw_aload_n (n := 40) (show xlook 162 39 = some (39, .aload_n 0, 1, 0, 0, 0, 0) from xlk (by decide +kernel)) rfl rfl ?_
    refine xw_getr (q := 135) (show xlook 162 40 = some (40, .getfield 27, 3, 12, 11, 0, 224) from xlk (by decide +kernel)) (by decide) (xobf xob_12 (by decide) (by decide)) rfl (xPT_get (k := 11) (f := 4) hPT xob_12 (by decide)) (by have := (xtg_12_11 _ xob_12.1 xob_12.2).1.1; omega) (n := 43) rfl ?_
    refine xw_sipush (n := 46) (show xlook 162 43 = some (43, .sipush 163, 3, 0, 0, 0, 0) from xlk (by decide +kernel)) rfl (by decide) ?_
    refine xw_aload_n (n := 47) (show xlook 162 46 = some (46, .aload_n 0, 1, 0, 0, 0, 0) from xlk (by decide +kernel)) rfl rfl ?_
    refine xw_geti (show xlook 162 47 = some (47, .getfield 158, 3, 12, 12, 0, 242) from xlk (by decide +kernel)) (by decide) (xobf xob_12 (by decide) (by decide)) rfl (n := 50) rfl ?_
    refine xw_imul (n := 51) (show xlook 162 50 = some (50, .imul, 1, 0, 0, 0, 0) from xlk (by decide +kernel)) rfl ?_
    refine xw_iload_n (n := 52) (show xlook 162 51 = some (51, .iload_n 1, 1, 0, 0, 0, 0) from xlk (by decide +kernel)) rfl rfl ?_
    refine xw_iadd (n := 53) (show xlook 162 52 = some (52, .iadd, 1, 0, 0, 0, 0) from xlk (by decide +kernel)) rfl ?_
    obtain ⟨q1, t⟩ := t
    refine xw_iald (show xlook 162 53 = some (53, .iaload, 1, 0, 0, 0, 0) from xlk (by decide +kernel)) (xtg_12_11 _ xob_12.1 xob_12.2).1 (by rw [(xtg_12_11 _ xob_12.1 xob_12.2).2]; exact q1) (n := 54) rfl ?_
    obtain ⟨q1, t⟩ := t
    refine xw_iast (show xlook 162 54 = some (54, .iastore, 1, 0, 0, 0, 0) from xlk (by decide +kernel)) (xtg_12_1 _ xob_12.1 xob_12.2).1 (by rw [(xtg_12_1 _ xob_12.1 xob_12.2).2]; exact q1) (n := 55) rfl ?_
    refine xw_iinc (n := 58) (show xlook 162 55 = some (55, .iinc 1 1, 3, 0, 0, 0, 0) from xlk (by decide +kernel)) rfl (ls' := [.ref (131), vi (x1 + 1)]) rfl rfl ?_
    refine xw_goto (m := 27) (show xlook 162 58 = some (58, .goto (-31), 3, 27, 0, 0, 0) from xlk (by decide +kernel)) rfl ?_
    exact t (xPT_arr hPT (Or.inl (xtg_12_1 _ xob_12.1 xob_12.2).1.2))

theorem s163_0 {X : List Int32} {d : Nat} {F : XF} {Q : XF → Prop} {w1 : Value} {w2 : Value} (hPT : xPT F)  (t : xPT (xup (F) (131) 17 (0)) → xW X d 163 7 [.ref (131), vi (0), w2] [] (xup (F) (131) 17 (0)) (xqv Q)) : xW X d 163 0 [.ref (131), w1, w2] [] F (xqv Q) := by
  refine xw_aload_n (n := 1) (show xlook 163 0 = some (0, .aload_n 0, 1, 0, 0, 0, 0) from xlk (by decide +kernel)) rfl rfl ?_
  refine xw_iconst (n := 2) (show xlook 163 1 = some (1, .iconst 0, 1, 0, 0, 0, 0) from xlk (by decide +kernel)) rfl ?_
  refine xw_puti (show xlook 163 2 = some (2, .putfield 167, 3, 12, 17, 0, 243) from xlk (by decide +kernel)) (xobf xob_12 (by decide) (by decide)) rfl (n := 5) rfl ?_
  refine xw_iconst (n := 6) (show xlook 163 5 = some (5, .iconst 0, 1, 0, 0, 0, 0) from xlk (by decide +kernel)) rfl ?_
  refine xw_istore_n (n := 7) (show xlook 163 6 = some (6, .istore_n 1, 1, 0, 0, 0, 0) from xlk (by decide +kernel)) rfl (ls' := [.ref (131), vi (0), w2]) (Nat.le_of_ble_eq_true rfl) rfl ?_
  exact t (xPT_fld (k := 17) hPT xob_12 (by decide) (by decide))
theorem m163 {X : List Int32} {d : Nat} {F : XF} {Q : XF → Prop}  (hPT : xPT F)  (t : xPT (xup (F) (131) 17 (0)) → xW X d 163 7 [.ref (131), vi (0), xU0] [] (xup (F) (131) 17 (0)) (xqv Q)) : xMV X d 163 [.ref (131)] F Q := by
  show xW X d 163 0 [.ref (131), xU0, xU0] [] F (xqv Q)
  exact s163_0 hPT  t

theorem s163_7 {X : List Int32} {d : Nat} {F : XF} {Q : XF → Prop} {x1 : Int} {w2 : Value} (hPT : xPT F)  (t : ∃ (j1 : Nat), j1 < d ∧ xMI X j1 154 [.ref (131)] (F) (fun (y1 : Int) (G1 : XF) => (inR (x1) ∧ inR (y1) ∧ ((((y1) ≤ (x1)) → (xPT (G1) → Q (G1))) ∧ (¬ ((y1) ≤ (x1)) → (inR (x1) ∧ ((((x1) = (0)) → (xPT (G1) → xW X d 163 34 [.ref (131), vi (x1), w2] [] (G1) (xqv Q))) ∧ (¬ ((x1) = (0)) → ((0 ≤ (((108) + (x1)) - (1)) ∧ (((108) + (x1)) - (1)) < 163) ∧ (inR ((G1) (132) (((108) + (x1)) - (1))) ∧ (((¬ ((G1) (132) (((108) + (x1)) - (1))) = (1)) → (xPT (G1) → xW X d 163 74 [.ref (131), vi (x1), vi (0)] [] (G1) (xqv Q))) ∧ (¬ (¬ ((G1) (132) (((108) + (x1)) - (1))) = (1)) → (xPT (G1) → xW X d 163 34 [.ref (131), vi (x1), w2] [] (G1) (xqv Q)))))))))))))) : xW X d 163 7 [.ref (131), vi (x1), w2] [] F (xqv Q) := by
  refine xw_iload_n (n := 8) (show xlook 163 7 = some (7, .iload_n 1, 1, 0, 0, 0, 0) from xlk (by decide +kernel)) rfl rfl ?_
  refine xw_aload_n (n := 9) (show xlook 163 8 = some (8, .aload_n 0, 1, 0, 0, 0, 0) from xlk (by decide +kernel)) rfl rfl ?_
  obtain ⟨j1, hj1, rr1, G1, hm1, hG1, t⟩ := t
  obtain ⟨y1, rfl, t⟩ := t
  refine xw_callv (dk := j1) (o := 131) (as := []) (show xlook 163 9 = some (9, .invokevirtual 161, 3, 154, 1, 0, 169) from xlk (by decide +kernel)) (by decide) hj1 ⟨Nat.le_of_ble_eq_true rfl, Nat.le_of_ble_eq_true rfl, Nat.le_of_ble_eq_true rfl⟩ ⟨xob_12.1, xob_12.2, by decide⟩ rfl hm1 (n := 12) rfl ?_
  show xW X d 163 12 [.ref (131), vi (x1), w2] [vi (y1), vi (x1)] G1 (xqv Q)
  obtain ⟨q0, q1, t⟩ := t
  refine xw_icmp_ge (n := 15) (m := 142) (show xlook 163 12 = some (12, .if_icmp .ge 130, 3, 142, 0, 0, 0) from xlk (by decide +kernel)) rfl rfl q0 q1 ⟨fun c => ?_, fun c => ?_⟩
  · replace t := t.1 c
    exact xw_return hG1 (show xlook 163 142 = some (142, .return_, 1, 0, 0, 0, 0) from xlk (by decide +kernel)) rfl (t hG1)
  · replace t := t.2 c
    refine xw_iload_n (n := 16) (show xlook 163 15 = some (15, .iload_n 1, 1, 0, 0, 0, 0) from xlk (by decide +kernel)) rfl rfl ?_
    obtain ⟨q0, t⟩ := t
    refine xw_if_eq (n := 19) (m := 34) (show xlook 163 16 = some (16, .ifCond .eq 18, 3, 34, 0, 0, 0) from xlk (by decide +kernel)) rfl rfl q0 ⟨fun c => ?_, fun c => ?_⟩
    · replace t := t.1 c
      exact t hG1
    · replace t := t.2 c
      refine xw_aload_n (n := 20) (show xlook 163 19 = some (19, .aload_n 0, 1, 0, 0, 0, 0) from xlk (by decide +kernel)) rfl rfl ?_
      refine xw_getr (q := 132) (show xlook 163 20 = some (20, .getfield 13, 3, 12, 1, 0, 220) from xlk (by decide +kernel)) (by decide) (xobf xob_12 (by decide) (by decide)) rfl (xPT_get (k := 1) (f := 1) hG1 xob_12 (by decide)) (by have := (xtg_12_1 _ xob_12.1 xob_12.2).1.1; omega) (n := 23) rfl ?_
      refine xw_bipush (n := 25) (show xlook 163 23 = some (23, .bipush 108, 2, 0, 0, 0, 0) from xlk (by decide +kernel)) rfl (by decide) ?_
      refine xw_iload_n (n := 26) (show xlook 163 25 = some (25, .iload_n 1, 1, 0, 0, 0, 0) from xlk (by decide +kernel)) rfl rfl ?_
      refine xw_iadd (n := 27) (show xlook 163 26 = some (26, .iadd, 1, 0, 0, 0, 0) from xlk (by decide +kernel)) rfl ?_
      refine xw_iconst (n := 28) (show xlook 163 27 = some (27, .iconst 1, 1, 0, 0, 0, 0) from xlk (by decide +kernel)) rfl ?_
      refine xw_isub (n := 29) (show xlook 163 28 = some (28, .isub, 1, 0, 0, 0, 0) from xlk (by decide +kernel)) rfl ?_
      obtain ⟨q1, t⟩ := t
      refine xw_iald (show xlook 163 29 = some (29, .iaload, 1, 0, 0, 0, 0) from xlk (by decide +kernel)) (xtg_12_1 _ xob_12.1 xob_12.2).1 (by rw [(xtg_12_1 _ xob_12.1 xob_12.2).2]; exact q1) (n := 30) rfl ?_
      refine xw_iconst (n := 31) (show xlook 163 30 = some (30, .iconst 1, 1, 0, 0, 0, 0) from xlk (by decide +kernel)) rfl ?_
      obtain ⟨q0, t⟩ := t
      refine xw_icmp_ne (n := 34) (m := 38) (show xlook 163 31 = some (31, .if_icmp .ne 7, 3, 38, 0, 0, 0) from xlk (by decide +kernel)) rfl rfl q0 ⟨by decide, by decide⟩ ⟨fun c => ?_, fun c => ?_⟩
      · replace t := t.1 c
        refine xw_iconst (n := 39) (show xlook 163 38 = some (38, .iconst 0, 1, 0, 0, 0, 0) from xlk (by decide +kernel)) rfl ?_
        refine xw_istore_n (n := 40) (show xlook 163 39 = some (39, .istore_n 2, 1, 0, 0, 0, 0) from xlk (by decide +kernel)) rfl (ls' := [.ref (131), vi (x1), vi (0)]) (Nat.le_of_ble_eq_true rfl) rfl ?_
        refine xw_iload_n (n := 41) (show xlook 163 40 = some (40, .iload_n 2, 1, 0, 0, 0, 0) from xlk (by decide +kernel)) rfl rfl ?_
        refine xw_if_eq (n := 44) (m := 74) (show xlook 163 41 = some (41, .ifCond .eq 33, 3, 74, 0, 0, 0) from xlk (by decide +kernel)) rfl rfl ⟨by decide, by decide⟩ ⟨fun _ => ?_, fun c => absurd c (by decide)⟩
        exact t hG1
      · replace t := t.2 c
        exact t hG1

theorem s163_34 {X : List Int32} {d : Nat} {F : XF} {Q : XF → Prop} {x1 : Int} {w2 : Value} (hPT : xPT F)  (t : (0 ≤ ((F) (131) 17) ∧ ((F) (131) 17) < 30) ∧ ((0 ≤ ((F) (131) 17) ∧ ((F) (131) 17) < 30) ∧ (xPT (xup (xup (xup (F) (137) ((F) (131) 17) (x1)) (139) ((F) (131) 17) (0)) (131) 17 (((F) (131) 17) + (1))) → xW X d 163 74 [.ref (131), vi (x1), vi (1)] [] (xup (xup (xup (F) (137) ((F) (131) 17) (x1)) (139) ((F) (131) 17) (0)) (131) 17 (((F) (131) 17) + (1))) (xqv Q)))) : xW X d 163 34 [.ref (131), vi (x1), w2] [] F (xqv Q) := by
  refine xw_iconst (n := 35) (show xlook 163 34 = some (34, .iconst 1, 1, 0, 0, 0, 0) from xlk (by decide +kernel)) rfl ?_
  refine xw_goto (m := 39) (show xlook 163 35 = some (35, .goto 4, 3, 39, 0, 0, 0) from xlk (by decide +kernel)) rfl ?_
  refine xw_istore_n (n := 40) (show xlook 163 39 = some (39, .istore_n 2, 1, 0, 0, 0, 0) from xlk (by decide +kernel)) rfl (ls' := [.ref (131), vi (x1), vi (1)]) (Nat.le_of_ble_eq_true rfl) rfl ?_
  refine xw_iload_n (n := 41) (show xlook 163 40 = some (40, .iload_n 2, 1, 0, 0, 0, 0) from xlk (by decide +kernel)) rfl rfl ?_
  refine xw_if_eq (n := 44) (m := 74) (show xlook 163 41 = some (41, .ifCond .eq 33, 3, 74, 0, 0, 0) from xlk (by decide +kernel)) rfl rfl ⟨by decide, by decide⟩ ⟨fun c => absurd c (by decide), fun _ => ?_⟩
  refine xw_aload_n (n := 45) (show xlook 163 44 = some (44, .aload_n 0, 1, 0, 0, 0, 0) from xlk (by decide +kernel)) rfl rfl ?_
  refine xw_getr (q := 137) (show xlook 163 45 = some (45, .getfield 33, 3, 12, 14, 0, 226) from xlk (by decide +kernel)) (by decide) (xobf xob_12 (by decide) (by decide)) rfl (xPT_get (k := 14) (f := 6) hPT xob_12 (by decide)) (by have := (xtg_12_14 _ xob_12.1 xob_12.2).1.1; omega) (n := 48) rfl ?_
  refine xw_aload_n (n := 49) (show xlook 163 48 = some (48, .aload_n 0, 1, 0, 0, 0, 0) from xlk (by decide +kernel)) rfl rfl ?_
  refine xw_geti (show xlook 163 49 = some (49, .getfield 167, 3, 12, 17, 0, 243) from xlk (by decide +kernel)) (by decide) (xobf xob_12 (by decide) (by decide)) rfl (n := 52) rfl ?_
  refine xw_iload_n (n := 53) (show xlook 163 52 = some (52, .iload_n 1, 1, 0, 0, 0, 0) from xlk (by decide +kernel)) rfl rfl ?_
  obtain ⟨q1, t⟩ := t
  refine xw_iast (show xlook 163 53 = some (53, .iastore, 1, 0, 0, 0, 0) from xlk (by decide +kernel)) (xtg_12_14 _ xob_12.1 xob_12.2).1 (by rw [(xtg_12_14 _ xob_12.1 xob_12.2).2]; exact q1) (n := 54) rfl ?_
  refine xw_aload_n (n := 55) (show xlook 163 54 = some (54, .aload_n 0, 1, 0, 0, 0, 0) from xlk (by decide +kernel)) rfl rfl ?_
  refine xw_getr (q := 139) (show xlook 163 55 = some (55, .getfield 39, 3, 12, 16, 0, 228) from xlk (by decide +kernel)) (by decide) (xobf xob_12 (by decide) (by decide)) rfl (xPT_get (k := 16) (f := 8) (xPT_arr hPT (Or.inl (xtg_12_14 _ xob_12.1 xob_12.2).1.2)) xob_12 (by decide)) (by have := (xtg_12_16 _ xob_12.1 xob_12.2).1.1; omega) (n := 58) rfl ?_
  refine xw_aload_n (n := 59) (show xlook 163 58 = some (58, .aload_n 0, 1, 0, 0, 0, 0) from xlk (by decide +kernel)) rfl rfl ?_
  refine xw_geti2 (u := (F) (131) 17) (show xlook 163 59 = some (59, .getfield 167, 3, 12, 17, 0, 243) from xlk (by decide +kernel)) (by decide) (xobf xob_12 (by decide) (by decide)) rfl (xup_o (by decide)) (n := 62) rfl ?_
  refine xw_iconst (n := 63) (show xlook 163 62 = some (62, .iconst 0, 1, 0, 0, 0, 0) from xlk (by decide +kernel)) rfl ?_
  obtain ⟨q1, t⟩ := t
  refine xw_iast (show xlook 163 63 = some (63, .iastore, 1, 0, 0, 0, 0) from xlk (by decide +kernel)) (xtg_12_16 _ xob_12.1 xob_12.2).1 (by rw [(xtg_12_16 _ xob_12.1 xob_12.2).2]; exact q1) (n := 64) rfl ?_
  refine xw_aload_n (n := 65) (show xlook 163 64 = some (64, .aload_n 0, 1, 0, 0, 0, 0) from xlk (by decide +kernel)) rfl rfl ?_
  refine xw_dupr (n := 66) (show xlook 163 65 = some (65, .dup, 1, 0, 0, 0, 0) from xlk (by decide +kernel)) rfl ?_
  refine xw_geti2 (u := (F) (131) 17) (show xlook 163 66 = some (66, .getfield 167, 3, 12, 17, 0, 243) from xlk (by decide +kernel)) (by decide) (xobf xob_12 (by decide) (by decide)) rfl ((xup_o (by decide)).trans (xup_o (by decide))) (n := 69) rfl ?_
  refine xw_iconst (n := 70) (show xlook 163 69 = some (69, .iconst 1, 1, 0, 0, 0, 0) from xlk (by decide +kernel)) rfl ?_
  refine xw_iadd (n := 71) (show xlook 163 70 = some (70, .iadd, 1, 0, 0, 0, 0) from xlk (by decide +kernel)) rfl ?_
  refine xw_puti (show xlook 163 71 = some (71, .putfield 167, 3, 12, 17, 0, 243) from xlk (by decide +kernel)) (xobf xob_12 (by decide) (by decide)) rfl (n := 74) rfl ?_
  exact t (xPT_fld (k := 17) (xPT_arr (xPT_arr hPT (Or.inl (xtg_12_14 _ xob_12.1 xob_12.2).1.2)) (Or.inl (xtg_12_16 _ xob_12.1 xob_12.2).1.2)) xob_12 (by decide) (by decide))

theorem s163_74 {X : List Int32} {d : Nat} {F : XF} {Q : XF → Prop} {x1 : Int} {x2 : Int} (hPT : xPT F)  (t : (0 ≤ (((F) (131) 17) - (1)) ∧ (((F) (131) 17) - (1)) < 30) ∧ ((0 ≤ ((78) + (x1)) ∧ ((78) + (x1)) < 163) ∧ (inR (x2) ∧ ((((x2) = (0)) → ((0 ≤ (((F) (131) 17) - (1)) ∧ (((F) (131) 17) - (1)) < 30) ∧ ((0 ≤ (((F) (131) 17) - (1)) ∧ (((F) (131) 17) - (1)) < 30) ∧ ((0 ≤ (x1) ∧ (x1) < 30) ∧ (xPT (xup (xup (xup (F) (139) (((F) (131) 17) - (1)) (((F) (139) (((F) (131) 17) - (1))) + (((F) (132) ((78) + (x1))) + ((F) (132) 2)))) (138) (((F) (131) 17) - (1)) (x1)) (136) (x1) (((F) (131) 17) - (1))) → xW X d 163 7 [.ref (131), vi (x1 + 1), vi (x2)] [] (xup (xup (xup (F) (139) (((F) (131) 17) - (1)) (((F) (139) (((F) (131) 17) - (1))) + (((F) (132) ((78) + (x1))) + ((F) (132) 2)))) (138) (((F) (131) 17) - (1)) (x1)) (136) (x1) (((F) (131) 17) - (1))) (xqv Q)))))) ∧ (¬ ((x2) = (0)) → ((0 ≤ (((F) (131) 17) - (1)) ∧ (((F) (131) 17) - (1)) < 30) ∧ ((0 ≤ (((F) (131) 17) - (1)) ∧ (((F) (131) 17) - (1)) < 30) ∧ ((0 ≤ (x1) ∧ (x1) < 30) ∧ (xPT (xup (xup (xup (F) (139) (((F) (131) 17) - (1)) (((F) (139) (((F) (131) 17) - (1))) + (((F) (132) ((78) + (x1))) + (0)))) (138) (((F) (131) 17) - (1)) (x1)) (136) (x1) (((F) (131) 17) - (1))) → xW X d 163 7 [.ref (131), vi (x1 + 1), vi (x2)] [] (xup (xup (xup (F) (139) (((F) (131) 17) - (1)) (((F) (139) (((F) (131) 17) - (1))) + (((F) (132) ((78) + (x1))) + (0)))) (138) (((F) (131) 17) - (1)) (x1)) (136) (x1) (((F) (131) 17) - (1))) (xqv Q)))))))))) : xW X d 163 74 [.ref (131), vi (x1), vi (x2)] [] F (xqv Q) := by
  refine xw_aload_n (n := 75) (show xlook 163 74 = some (74, .aload_n 0, 1, 0, 0, 0, 0) from xlk (by decide +kernel)) rfl rfl ?_
  refine xw_getr (q := 139) (show xlook 163 75 = some (75, .getfield 39, 3, 12, 16, 0, 228) from xlk (by decide +kernel)) (by decide) (xobf xob_12 (by decide) (by decide)) rfl (xPT_get (k := 16) (f := 8) hPT xob_12 (by decide)) (by have := (xtg_12_16 _ xob_12.1 xob_12.2).1.1; omega) (n := 78) rfl ?_
  refine xw_aload_n (n := 79) (show xlook 163 78 = some (78, .aload_n 0, 1, 0, 0, 0, 0) from xlk (by decide +kernel)) rfl rfl ?_
  refine xw_geti (show xlook 163 79 = some (79, .getfield 167, 3, 12, 17, 0, 243) from xlk (by decide +kernel)) (by decide) (xobf xob_12 (by decide) (by decide)) rfl (n := 82) rfl ?_
  refine xw_iconst (n := 83) (show xlook 163 82 = some (82, .iconst 1, 1, 0, 0, 0, 0) from xlk (by decide +kernel)) rfl ?_
  refine xw_isub (n := 84) (show xlook 163 83 = some (83, .isub, 1, 0, 0, 0, 0) from xlk (by decide +kernel)) rfl ?_
  refine xw_dup2 (n := 85) (show xlook 163 84 = some (84, .dup2, 1, 0, 0, 0, 0) from xlk (by decide +kernel)) rfl ?_
  obtain ⟨q1, t⟩ := t
  refine xw_iald (show xlook 163 85 = some (85, .iaload, 1, 0, 0, 0, 0) from xlk (by decide +kernel)) (xtg_12_16 _ xob_12.1 xob_12.2).1 (by rw [(xtg_12_16 _ xob_12.1 xob_12.2).2]; exact q1) (n := 86) rfl ?_
  refine xw_aload_n (n := 87) (show xlook 163 86 = some (86, .aload_n 0, 1, 0, 0, 0, 0) from xlk (by decide +kernel)) rfl rfl ?_
  refine xw_getr (q := 132) (show xlook 163 87 = some (87, .getfield 13, 3, 12, 1, 0, 220) from xlk (by decide +kernel)) (by decide) (xobf xob_12 (by decide) (by decide)) rfl (xPT_get (k := 1) (f := 1) hPT xob_12 (by decide)) (by have := (xtg_12_1 _ xob_12.1 xob_12.2).1.1; omega) (n := 90) rfl ?_
  refine xw_bipush (n := 92) (show xlook 163 90 = some (90, .bipush 78, 2, 0, 0, 0, 0) from xlk (by decide +kernel)) rfl (by decide) ?_
  refine xw_iload_n (n := 93) (show xlook 163 92 = some (92, .iload_n 1, 1, 0, 0, 0, 0) from xlk (by decide +kernel)) rfl rfl ?_
  refine xw_iadd (n := 94) (show xlook 163 93 = some (93, .iadd, 1, 0, 0, 0, 0) from xlk (by decide +kernel)) rfl ?_
  obtain ⟨q1, t⟩ := t
  refine xw_iald (show xlook 163 94 = some (94, .iaload, 1, 0, 0, 0, 0) from xlk (by decide +kernel)) (xtg_12_1 _ xob_12.1 xob_12.2).1 (by rw [(xtg_12_1 _ xob_12.1 xob_12.2).2]; exact q1) (n := 95) rfl ?_
  refine xw_iload_n (n := 96) (show xlook 163 95 = some (95, .iload_n 2, 1, 0, 0, 0, 0) from xlk (by decide +kernel)) rfl rfl ?_
  obtain ⟨q0, t⟩ := t
  refine xw_if_eq (n := 99) (m := 103) (show xlook 163 96 = some (96, .ifCond .eq 7, 3, 103, 0, 0, 0) from xlk (by decide +kernel)) rfl rfl q0 ⟨fun c => ?_, fun c => ?_⟩
  · replace t := t.1 c
    refine xw_aload_n (n := 104) (show xlook 163 103 = some (103, .aload_n 0, 1, 0, 0, 0, 0) from xlk (by decide +kernel)) rfl rfl ?_
    refine xw_getr (q := 132) (show xlook 163 104 = some (104, .getfield 13, 3, 12, 1, 0, 220) from xlk (by decide +kernel)) (by decide) (xobf xob_12 (by decide) (by decide)) rfl (xPT_get (k := 1) (f := 1) hPT xob_12 (by decide)) (by have := (xtg_12_1 _ xob_12.1 xob_12.2).1.1; omega) (n := 107) rfl ?_
    refine xw_iconst (n := 108) (show xlook 163 107 = some (107, .iconst 2, 1, 0, 0, 0, 0) from xlk (by decide +kernel)) rfl ?_
    refine xw_iald (show xlook 163 108 = some (108, .iaload, 1, 0, 0, 0, 0) from xlk (by decide +kernel)) (xtg_12_1 _ xob_12.1 xob_12.2).1 (by rw [(xtg_12_1 _ xob_12.1 xob_12.2).2]; decide) (n := 109) rfl ?_
    refine xw_iadd (n := 110) (show xlook 163 109 = some (109, .iadd, 1, 0, 0, 0, 0) from xlk (by decide +kernel)) rfl ?_
    refine xw_iadd (n := 111) (show xlook 163 110 = some (110, .iadd, 1, 0, 0, 0, 0) from xlk (by decide +kernel)) rfl ?_
    obtain ⟨q1, t⟩ := t
    refine xw_iast (show xlook 163 111 = some (111, .iastore, 1, 0, 0, 0, 0) from xlk (by decide +kernel)) (xtg_12_16 _ xob_12.1 xob_12.2).1 (by rw [(xtg_12_16 _ xob_12.1 xob_12.2).2]; exact q1) (n := 112) rfl ?_
    refine xw_aload_n (n := 113) (show xlook 163 112 = some (112, .aload_n 0, 1, 0, 0, 0, 0) from xlk (by decide +kernel)) rfl rfl ?_
    refine xw_getr (q := 138) (show xlook 163 113 = some (113, .getfield 36, 3, 12, 15, 0, 227) from xlk (by decide +kernel)) (by decide) (xobf xob_12 (by decide) (by decide)) rfl (xPT_get (k := 15) (f := 7) (xPT_arr hPT (Or.inl (xtg_12_16 _ xob_12.1 xob_12.2).1.2)) xob_12 (by decide)) (by have := (xtg_12_15 _ xob_12.1 xob_12.2).1.1; omega) (n := 116) rfl ?_
    refine xw_aload_n (n := 117) (show xlook 163 116 = some (116, .aload_n 0, 1, 0, 0, 0, 0) from xlk (by decide +kernel)) rfl rfl ?_
    refine xw_geti2 (u := (F) (131) 17) (show xlook 163 117 = some (117, .getfield 167, 3, 12, 17, 0, 243) from xlk (by decide +kernel)) (by decide) (xobf xob_12 (by decide) (by decide)) rfl (xup_o (by decide)) (n := 120) rfl ?_
    refine xw_iconst (n := 121) (show xlook 163 120 = some (120, .iconst 1, 1, 0, 0, 0, 0) from xlk (by decide +kernel)) rfl ?_
    refine xw_isub (n := 122) (show xlook 163 121 = some (121, .isub, 1, 0, 0, 0, 0) from xlk (by decide +kernel)) rfl ?_
    refine xw_iload_n (n := 123) (show xlook 163 122 = some (122, .iload_n 1, 1, 0, 0, 0, 0) from xlk (by decide +kernel)) rfl rfl ?_
    obtain ⟨q1, t⟩ := t
    refine xw_iast (show xlook 163 123 = some (123, .iastore, 1, 0, 0, 0, 0) from xlk (by decide +kernel)) (xtg_12_15 _ xob_12.1 xob_12.2).1 (by rw [(xtg_12_15 _ xob_12.1 xob_12.2).2]; exact q1) (n := 124) rfl ?_
    refine xw_aload_n (n := 125) (show xlook 163 124 = some (124, .aload_n 0, 1, 0, 0, 0, 0) from xlk (by decide +kernel)) rfl rfl ?_
    refine xw_getr (q := 136) (show xlook 163 125 = some (125, .getfield 30, 3, 12, 13, 0, 225) from xlk (by decide +kernel)) (by decide) (xobf xob_12 (by decide) (by decide)) rfl (xPT_get (k := 13) (f := 5) (xPT_arr (xPT_arr hPT (Or.inl (xtg_12_16 _ xob_12.1 xob_12.2).1.2)) (Or.inl (xtg_12_15 _ xob_12.1 xob_12.2).1.2)) xob_12 (by decide)) (by have := (xtg_12_13 _ xob_12.1 xob_12.2).1.1; omega) (n := 128) rfl ?_
    refine xw_iload_n (n := 129) (show xlook 163 128 = some (128, .iload_n 1, 1, 0, 0, 0, 0) from xlk (by decide +kernel)) rfl rfl ?_
    refine xw_aload_n (n := 130) (show xlook 163 129 = some (129, .aload_n 0, 1, 0, 0, 0, 0) from xlk (by decide +kernel)) rfl rfl ?_
    refine xw_geti2 (u := (F) (131) 17) (show xlook 163 130 = some (130, .getfield 167, 3, 12, 17, 0, 243) from xlk (by decide +kernel)) (by decide) (xobf xob_12 (by decide) (by decide)) rfl ((xup_o (by decide)).trans (xup_o (by decide))) (n := 133) rfl ?_
    refine xw_iconst (n := 134) (show xlook 163 133 = some (133, .iconst 1, 1, 0, 0, 0, 0) from xlk (by decide +kernel)) rfl ?_
    refine xw_isub (n := 135) (show xlook 163 134 = some (134, .isub, 1, 0, 0, 0, 0) from xlk (by decide +kernel)) rfl ?_
    obtain ⟨q1, t⟩ := t
    refine xw_iast (show xlook 163 135 = some (135, .iastore, 1, 0, 0, 0, 0) from xlk (by decide +kernel)) (xtg_12_13 _ xob_12.1 xob_12.2).1 (by rw [(xtg_12_13 _ xob_12.1 xob_12.2).2]; exact q1) (n := 136) rfl ?_
    refine xw_iinc (n := 139) (show xlook 163 136 = some (136, .iinc 1 1, 3, 0, 0, 0, 0) from xlk (by decide +kernel)) rfl (ls' := [.ref (131), vi (x1 + 1), vi (x2)]) rfl rfl ?_
    refine xw_goto (m := 7) (show xlook 163 139 = some (139, .goto (-132), 3, 7, 0, 0, 0) from xlk (by decide +kernel)) rfl ?_
    exact t (xPT_arr (xPT_arr (xPT_arr hPT (Or.inl (xtg_12_16 _ xob_12.1 xob_12.2).1.2)) (Or.inl (xtg_12_15 _ xob_12.1 xob_12.2).1.2)) (Or.inl (xtg_12_13 _ xob_12.1 xob_12.2).1.2))
  · replace t := t.2 c
    refine xw_iconst (n := 100) (show xlook 163 99 = some (99, .iconst 0, 1, 0, 0, 0, 0) from xlk (by decide +kernel)) rfl ?_
    refine xw_goto (m := 109) (show xlook 163 100 = some (100, .goto 9, 3, 109, 0, 0, 0) from xlk (by decide +kernel)) rfl ?_
    refine xw_iadd (n := 110) (show xlook 163 109 = some (109, .iadd, 1, 0, 0, 0, 0) from xlk (by decide +kernel)) rfl ?_
    refine xw_iadd (n := 111) (show xlook 163 110 = some (110, .iadd, 1, 0, 0, 0, 0) from xlk (by decide +kernel)) rfl ?_
    obtain ⟨q1, t⟩ := t
    refine xw_iast (show xlook 163 111 = some (111, .iastore, 1, 0, 0, 0, 0) from xlk (by decide +kernel)) (xtg_12_16 _ xob_12.1 xob_12.2).1 (by rw [(xtg_12_16 _ xob_12.1 xob_12.2).2]; exact q1) (n := 112) rfl ?_
    refine xw_aload_n (n := 113) (show xlook 163 112 = some (112, .aload_n 0, 1, 0, 0, 0, 0) from xlk (by decide +kernel)) rfl rfl ?_
    refine xw_getr (q := 138) (show xlook 163 113 = some (113, .getfield 36, 3, 12, 15, 0, 227) from xlk (by decide +kernel)) (by decide) (xobf xob_12 (by decide) (by decide)) rfl (xPT_get (k := 15) (f := 7) (xPT_arr hPT (Or.inl (xtg_12_16 _ xob_12.1 xob_12.2).1.2)) xob_12 (by decide)) (by have := (xtg_12_15 _ xob_12.1 xob_12.2).1.1; omega) (n := 116) rfl ?_
    refine xw_aload_n (n := 117) (show xlook 163 116 = some (116, .aload_n 0, 1, 0, 0, 0, 0) from xlk (by decide +kernel)) rfl rfl ?_
    refine xw_geti2 (u := (F) (131) 17) (show xlook 163 117 = some (117, .getfield 167, 3, 12, 17, 0, 243) from xlk (by decide +kernel)) (by decide) (xobf xob_12 (by decide) (by decide)) rfl (xup_o (by decide)) (n := 120) rfl ?_
    refine xw_iconst (n := 121) (show xlook 163 120 = some (120, .iconst 1, 1, 0, 0, 0, 0) from xlk (by decide +kernel)) rfl ?_
    refine xw_isub (n := 122) (show xlook 163 121 = some (121, .isub, 1, 0, 0, 0, 0) from xlk (by decide +kernel)) rfl ?_
    refine xw_iload_n (n := 123) (show xlook 163 122 = some (122, .iload_n 1, 1, 0, 0, 0, 0) from xlk (by decide +kernel)) rfl rfl ?_
    obtain ⟨q1, t⟩ := t
    refine xw_iast (show xlook 163 123 = some (123, .iastore, 1, 0, 0, 0, 0) from xlk (by decide +kernel)) (xtg_12_15 _ xob_12.1 xob_12.2).1 (by rw [(xtg_12_15 _ xob_12.1 xob_12.2).2]; exact q1) (n := 124) rfl ?_
    refine xw_aload_n (n := 125) (show xlook 163 124 = some (124, .aload_n 0, 1, 0, 0, 0, 0) from xlk (by decide +kernel)) rfl rfl ?_
    refine xw_getr (q := 136) (show xlook 163 125 = some (125, .getfield 30, 3, 12, 13, 0, 225) from xlk (by decide +kernel)) (by decide) (xobf xob_12 (by decide) (by decide)) rfl (xPT_get (k := 13) (f := 5) (xPT_arr (xPT_arr hPT (Or.inl (xtg_12_16 _ xob_12.1 xob_12.2).1.2)) (Or.inl (xtg_12_15 _ xob_12.1 xob_12.2).1.2)) xob_12 (by decide)) (by have := (xtg_12_13 _ xob_12.1 xob_12.2).1.1; omega) (n := 128) rfl ?_
    refine xw_iload_n (n := 129) (show xlook 163 128 = some (128, .iload_n 1, 1, 0, 0, 0, 0) from xlk (by decide +kernel)) rfl rfl ?_
    refine xw_aload_n (n := 130) (show xlook 163 129 = some (129, .aload_n 0, 1, 0, 0, 0, 0) from xlk (by decide +kernel)) rfl rfl ?_
    refine xw_geti2 (u := (F) (131) 17) (show xlook 163 130 = some (130, .getfield 167, 3, 12, 17, 0, 243) from xlk (by decide +kernel)) (by decide) (xobf xob_12 (by decide) (by decide)) rfl ((xup_o (by decide)).trans (xup_o (by decide))) (n := 133) rfl ?_
    refine xw_iconst (n := 134) (show xlook 163 133 = some (133, .iconst 1, 1, 0, 0, 0, 0) from xlk (by decide +kernel)) rfl ?_
    refine xw_isub (n := 135) (show xlook 163 134 = some (134, .isub, 1, 0, 0, 0, 0) from xlk (by decide +kernel)) rfl ?_
    obtain ⟨q1, t⟩ := t
    refine xw_iast (show xlook 163 135 = some (135, .iastore, 1, 0, 0, 0, 0) from xlk (by decide +kernel)) (xtg_12_13 _ xob_12.1 xob_12.2).1 (by rw [(xtg_12_13 _ xob_12.1 xob_12.2).2]; exact q1) (n := 136) rfl ?_
    refine xw_iinc (n := 139) (show xlook 163 136 = some (136, .iinc 1 1, 3, 0, 0, 0, 0) from xlk (by decide +kernel)) rfl (ls' := [.ref (131), vi (x1 + 1), vi (x2)]) rfl rfl ?_
    refine xw_goto (m := 7) (show xlook 163 139 = some (139, .goto (-132), 3, 7, 0, 0, 0) from xlk (by decide +kernel)) rfl ?_
    exact t (xPT_arr (xPT_arr (xPT_arr hPT (Or.inl (xtg_12_16 _ xob_12.1 xob_12.2).1.2)) (Or.inl (xtg_12_15 _ xob_12.1 xob_12.2).1.2)) (Or.inl (xtg_12_13 _ xob_12.1 xob_12.2).1.2))

theorem s164_0 {X : List Int32} {d : Nat} {F : XF} {Q : Int → XF → Prop} {x1 : Int} (hPT : xPT F)  (t : (0 ≤ ((8) + ((7) * (x1))) ∧ ((8) + ((7) * (x1))) < 163) ∧ (xPT (F) → Q ((F) (132) ((8) + ((7) * (x1)))) (F))) : xW X d 164 0 [.ref (131), vi (x1)] [] F (xqi Q) := by
  refine xw_aload_n (n := 1) (show xlook 164 0 = some (0, .aload_n 0, 1, 0, 0, 0, 0) from xlk (by decide +kernel)) rfl rfl ?_
  refine xw_getr (q := 132) (show xlook 164 1 = some (1, .getfield 13, 3, 12, 1, 0, 220) from xlk (by decide +kernel)) (by decide) (xobf xob_12 (by decide) (by decide)) rfl (xPT_get (k := 1) (f := 1) hPT xob_12 (by decide)) (by have := (xtg_12_1 _ xob_12.1 xob_12.2).1.1; omega) (n := 4) rfl ?_
  refine xw_bipush (n := 6) (show xlook 164 4 = some (4, .bipush 8, 2, 0, 0, 0, 0) from xlk (by decide +kernel)) rfl (by decide) ?_
  refine xw_bipush (n := 8) (show xlook 164 6 = some (6, .bipush 7, 2, 0, 0, 0, 0) from xlk (by decide +kernel)) rfl (by decide) ?_
  refine xw_iload_n (n := 9) (show xlook 164 8 = some (8, .iload_n 1, 1, 0, 0, 0, 0) from xlk (by decide +kernel)) rfl rfl ?_
  refine xw_imul (n := 10) (show xlook 164 9 = some (9, .imul, 1, 0, 0, 0, 0) from xlk (by decide +kernel)) rfl ?_
  refine xw_iadd (n := 11) (show xlook 164 10 = some (10, .iadd, 1, 0, 0, 0, 0) from xlk (by decide +kernel)) rfl ?_
  obtain ⟨q1, t⟩ := t
  refine xw_iald (show xlook 164 11 = some (11, .iaload, 1, 0, 0, 0, 0) from xlk (by decide +kernel)) (xtg_12_1 _ xob_12.1 xob_12.2).1 (by rw [(xtg_12_1 _ xob_12.1 xob_12.2).2]; exact q1) (n := 12) rfl ?_
  exact xw_ireturn hPT (show xlook 164 12 = some (12, .ireturn, 1, 0, 0, 0, 0) from xlk (by decide +kernel)) rfl (t hPT)
theorem m164 {X : List Int32} {d : Nat} {F : XF} {Q : Int → XF → Prop} {x1 : Int} (hPT : xPT F)  (t : (0 ≤ ((8) + ((7) * (x1))) ∧ ((8) + ((7) * (x1))) < 163) ∧ (xPT (F) → Q ((F) (132) ((8) + ((7) * (x1)))) (F))) : xMI X d 164 [.ref (131), vi (x1)] F Q := by
  show xW X d 164 0 [.ref (131), vi (x1)] [] F (xqi Q)
  exact s164_0 hPT  t

theorem s165_0 {X : List Int32} {d : Nat} {F : XF} {Q : Int → XF → Prop} {x1 : Int} (hPT : xPT F)  (t : (0 ≤ (((8) + ((7) * (x1))) + (1)) ∧ (((8) + ((7) * (x1))) + (1)) < 163) ∧ (xPT (F) → Q ((F) (132) (((8) + ((7) * (x1))) + (1))) (F))) : xW X d 165 0 [.ref (131), vi (x1)] [] F (xqi Q) := by
  refine xw_aload_n (n := 1) (show xlook 165 0 = some (0, .aload_n 0, 1, 0, 0, 0, 0) from xlk (by decide +kernel)) rfl rfl ?_
  refine xw_getr (q := 132) (show xlook 165 1 = some (1, .getfield 13, 3, 12, 1, 0, 220) from xlk (by decide +kernel)) (by decide) (xobf xob_12 (by decide) (by decide)) rfl (xPT_get (k := 1) (f := 1) hPT xob_12 (by decide)) (by have := (xtg_12_1 _ xob_12.1 xob_12.2).1.1; omega) (n := 4) rfl ?_
  refine xw_bipush (n := 6) (show xlook 165 4 = some (4, .bipush 8, 2, 0, 0, 0, 0) from xlk (by decide +kernel)) rfl (by decide) ?_
  refine xw_bipush (n := 8) (show xlook 165 6 = some (6, .bipush 7, 2, 0, 0, 0, 0) from xlk (by decide +kernel)) rfl (by decide) ?_
  refine xw_iload_n (n := 9) (show xlook 165 8 = some (8, .iload_n 1, 1, 0, 0, 0, 0) from xlk (by decide +kernel)) rfl rfl ?_
  refine xw_imul (n := 10) (show xlook 165 9 = some (9, .imul, 1, 0, 0, 0, 0) from xlk (by decide +kernel)) rfl ?_
  refine xw_iadd (n := 11) (show xlook 165 10 = some (10, .iadd, 1, 0, 0, 0, 0) from xlk (by decide +kernel)) rfl ?_
  refine xw_iconst (n := 12) (show xlook 165 11 = some (11, .iconst 1, 1, 0, 0, 0, 0) from xlk (by decide +kernel)) rfl ?_
  refine xw_iadd (n := 13) (show xlook 165 12 = some (12, .iadd, 1, 0, 0, 0, 0) from xlk (by decide +kernel)) rfl ?_
  obtain ⟨q1, t⟩ := t
  refine xw_iald (show xlook 165 13 = some (13, .iaload, 1, 0, 0, 0, 0) from xlk (by decide +kernel)) (xtg_12_1 _ xob_12.1 xob_12.2).1 (by rw [(xtg_12_1 _ xob_12.1 xob_12.2).2]; exact q1) (n := 14) rfl ?_
  exact xw_ireturn hPT (show xlook 165 14 = some (14, .ireturn, 1, 0, 0, 0, 0) from xlk (by decide +kernel)) rfl (t hPT)
theorem m165 {X : List Int32} {d : Nat} {F : XF} {Q : Int → XF → Prop} {x1 : Int} (hPT : xPT F)  (t : (0 ≤ (((8) + ((7) * (x1))) + (1)) ∧ (((8) + ((7) * (x1))) + (1)) < 163) ∧ (xPT (F) → Q ((F) (132) (((8) + ((7) * (x1))) + (1))) (F))) : xMI X d 165 [.ref (131), vi (x1)] F Q := by
  show xW X d 165 0 [.ref (131), vi (x1)] [] F (xqi Q)
  exact s165_0 hPT  t

theorem s166_0 {X : List Int32} {d : Nat} {F : XF} {Q : Int → XF → Prop} {x1 : Int} {x2 : Int} (hPT : xPT F)  (t : ∃ (j1 : Nat), j1 < d ∧ xMI X j1 165 [.ref (131), vi (x2)] (F) (fun (y1 : Int) (G1 : XF) => ((0 ≤ (x1) ∧ (x1) < 30) ∧ ((0 ≤ ((((y1) + ((G1) (139) (x1))) + ((G1) (132) 1)) - (1) : Int) ∧ ((((y1) + ((G1) (139) (x1))) + ((G1) (132) 1)) - (1) : Int) ≤ 2147483647) ∧ (0 < ((G1) (132) 1 : Int) ∧ ((G1) (132) 1 : Int) ≤ 2147483647) ∧ (xPT (G1) → Q (((((y1) + ((G1) (139) (x1))) + ((G1) (132) 1)) - (1)) / ((G1) (132) 1)) (G1)))))) : xW X d 166 0 [.ref (131), vi (x1), vi (x2)] [] F (xqi Q) := by
  refine xw_aload_n (n := 1) (show xlook 166 0 = some (0, .aload_n 0, 1, 0, 0, 0, 0) from xlk (by decide +kernel)) rfl rfl ?_
  refine xw_iload_n (n := 2) (show xlook 166 1 = some (1, .iload_n 2, 1, 0, 0, 0, 0) from xlk (by decide +kernel)) rfl rfl ?_
  obtain ⟨j1, hj1, rr1, G1, hm1, hG1, t⟩ := t
  obtain ⟨y1, rfl, t⟩ := t
  refine xw_callv (dk := j1) (o := 131) (as := [vi (x2)]) (show xlook 166 2 = some (2, .invokevirtual 187, 3, 165, 2, 0, 174) from xlk (by decide +kernel)) (by decide) hj1 ⟨Nat.le_of_ble_eq_true rfl, Nat.le_of_ble_eq_true rfl, Nat.le_of_ble_eq_true rfl⟩ ⟨xob_12.1, xob_12.2, by decide⟩ rfl hm1 (n := 5) rfl ?_
  show xW X d 166 5 [.ref (131), vi (x1), vi (x2)] [vi (y1)] G1 (xqi Q)
  refine xw_aload_n (n := 6) (show xlook 166 5 = some (5, .aload_n 0, 1, 0, 0, 0, 0) from xlk (by decide +kernel)) rfl rfl ?_
  refine xw_getr (q := 139) (show xlook 166 6 = some (6, .getfield 39, 3, 12, 16, 0, 228) from xlk (by decide +kernel)) (by decide) (xobf xob_12 (by decide) (by decide)) rfl (xPT_get (k := 16) (f := 8) hG1 xob_12 (by decide)) (by have := (xtg_12_16 _ xob_12.1 xob_12.2).1.1; omega) (n := 9) rfl ?_
  refine xw_iload_n (n := 10) (show xlook 166 9 = some (9, .iload_n 1, 1, 0, 0, 0, 0) from xlk (by decide +kernel)) rfl rfl ?_
  obtain ⟨q1, t⟩ := t
  refine xw_iald (show xlook 166 10 = some (10, .iaload, 1, 0, 0, 0, 0) from xlk (by decide +kernel)) (xtg_12_16 _ xob_12.1 xob_12.2).1 (by rw [(xtg_12_16 _ xob_12.1 xob_12.2).2]; exact q1) (n := 11) rfl ?_
  refine xw_iadd (n := 12) (show xlook 166 11 = some (11, .iadd, 1, 0, 0, 0, 0) from xlk (by decide +kernel)) rfl ?_
  refine xw_aload_n (n := 13) (show xlook 166 12 = some (12, .aload_n 0, 1, 0, 0, 0, 0) from xlk (by decide +kernel)) rfl rfl ?_
  refine xw_getr (q := 132) (show xlook 166 13 = some (13, .getfield 13, 3, 12, 1, 0, 220) from xlk (by decide +kernel)) (by decide) (xobf xob_12 (by decide) (by decide)) rfl (xPT_get (k := 1) (f := 1) hG1 xob_12 (by decide)) (by have := (xtg_12_1 _ xob_12.1 xob_12.2).1.1; omega) (n := 16) rfl ?_
  refine xw_iconst (n := 17) (show xlook 166 16 = some (16, .iconst 1, 1, 0, 0, 0, 0) from xlk (by decide +kernel)) rfl ?_
  refine xw_iald (show xlook 166 17 = some (17, .iaload, 1, 0, 0, 0, 0) from xlk (by decide +kernel)) (xtg_12_1 _ xob_12.1 xob_12.2).1 (by rw [(xtg_12_1 _ xob_12.1 xob_12.2).2]; decide) (n := 18) rfl ?_
  refine xw_iadd (n := 19) (show xlook 166 18 = some (18, .iadd, 1, 0, 0, 0, 0) from xlk (by decide +kernel)) rfl ?_
  refine xw_iconst (n := 20) (show xlook 166 19 = some (19, .iconst 1, 1, 0, 0, 0, 0) from xlk (by decide +kernel)) rfl ?_
  refine xw_isub (n := 21) (show xlook 166 20 = some (20, .isub, 1, 0, 0, 0, 0) from xlk (by decide +kernel)) rfl ?_
  refine xw_aload_n (n := 22) (show xlook 166 21 = some (21, .aload_n 0, 1, 0, 0, 0, 0) from xlk (by decide +kernel)) rfl rfl ?_
  refine xw_getr (q := 132) (show xlook 166 22 = some (22, .getfield 13, 3, 12, 1, 0, 220) from xlk (by decide +kernel)) (by decide) (xobf xob_12 (by decide) (by decide)) rfl (xPT_get (k := 1) (f := 1) hG1 xob_12 (by decide)) (by have := (xtg_12_1 _ xob_12.1 xob_12.2).1.1; omega) (n := 25) rfl ?_
  refine xw_iconst (n := 26) (show xlook 166 25 = some (25, .iconst 1, 1, 0, 0, 0, 0) from xlk (by decide +kernel)) rfl ?_
  refine xw_iald (show xlook 166 26 = some (26, .iaload, 1, 0, 0, 0, 0) from xlk (by decide +kernel)) (xtg_12_1 _ xob_12.1 xob_12.2).1 (by rw [(xtg_12_1 _ xob_12.1 xob_12.2).2]; decide) (n := 27) rfl ?_
  obtain ⟨q1, q2, t⟩ := t
  refine xw_idiv (n := 28) (show xlook 166 27 = some (27, .idiv, 1, 0, 0, 0, 0) from xlk (by decide +kernel)) rfl q1 q2 ?_
  exact xw_ireturn hG1 (show xlook 166 28 = some (28, .ireturn, 1, 0, 0, 0, 0) from xlk (by decide +kernel)) rfl (t hG1)
theorem m166 {X : List Int32} {d : Nat} {F : XF} {Q : Int → XF → Prop} {x1 : Int} {x2 : Int} (hPT : xPT F)  (t : ∃ (j1 : Nat), j1 < d ∧ xMI X j1 165 [.ref (131), vi (x2)] (F) (fun (y1 : Int) (G1 : XF) => ((0 ≤ (x1) ∧ (x1) < 30) ∧ ((0 ≤ ((((y1) + ((G1) (139) (x1))) + ((G1) (132) 1)) - (1) : Int) ∧ ((((y1) + ((G1) (139) (x1))) + ((G1) (132) 1)) - (1) : Int) ≤ 2147483647) ∧ (0 < ((G1) (132) 1 : Int) ∧ ((G1) (132) 1 : Int) ≤ 2147483647) ∧ (xPT (G1) → Q (((((y1) + ((G1) (139) (x1))) + ((G1) (132) 1)) - (1)) / ((G1) (132) 1)) (G1)))))) : xMI X d 166 [.ref (131), vi (x1), vi (x2)] F Q := by
  show xW X d 166 0 [.ref (131), vi (x1), vi (x2)] [] F (xqi Q)
  exact s166_0 hPT  t

theorem s167_0 {X : List Int32} {d : Nat} {F : XF} {Q : Int → XF → Prop} {x1 : Int} {x2 : Int} {w3 : Value} (hPT : xPT F)  (t : (0 ≤ (((8) + ((7) * (x1))) + (2)) ∧ (((8) + ((7) * (x1))) + (2)) < 163) ∧ ((0 ≤ (x2 : Int) ∧ (x2 : Int) ≤ 2147483647) ∧ (0 < ((F) (132) (((8) + ((7) * (x1))) + (2)) : Int) ∧ ((F) (132) (((8) + ((7) * (x1))) + (2)) : Int) ≤ 2147483647) ∧ ((inR ((x2) % ((F) (132) (((8) + ((7) * (x1))) + (2))))) ∧ ((0 ≤ (((8) + ((7) * (x1))) + (3)) ∧ (((8) + ((7) * (x1))) + (3)) < 163) ∧ ((inR ((F) (132) (((8) + ((7) * (x1))) + (3)))) ∧ ((0 ≤ (((8) + ((7) * (x1))) + (4)) ∧ (((8) + ((7) * (x1))) + (4)) < 163) ∧ ((inR (((F) (132) (((8) + ((7) * (x1))) + (4))) - (1))) ∧ (∃ (j1 : Nat), j1 < d ∧ xMI X j1 132 [vl ((x2) % ((F) (132) (((8) + ((7) * (x1))) + (2)))), vl ((F) (132) (((8) + ((7) * (x1))) + (3))), vl (((F) (132) (((8) + ((7) * (x1))) + (4))) - (1))] (F) (fun (y1 : Int) (G1 : XF) => (((y1 : Int) = 0 ∨ (y1 : Int) = 1) ∧ (xPT (G1) → Q (y1) (G1)))))))))))) : xW X d 167 0 [.ref (131), vi (x1), vi (x2), w3] [] F (xqi Q) := by
  refine xw_bipush (n := 2) (show xlook 167 0 = some (0, .bipush 8, 2, 0, 0, 0, 0) from xlk (by decide +kernel)) rfl (by decide) ?_
  refine xw_bipush (n := 4) (show xlook 167 2 = some (2, .bipush 7, 2, 0, 0, 0, 0) from xlk (by decide +kernel)) rfl (by decide) ?_
  refine xw_iload_n (n := 5) (show xlook 167 4 = some (4, .iload_n 1, 1, 0, 0, 0, 0) from xlk (by decide +kernel)) rfl rfl ?_
  refine xw_imul (n := 6) (show xlook 167 5 = some (5, .imul, 1, 0, 0, 0, 0) from xlk (by decide +kernel)) rfl ?_
  refine xw_iadd (n := 7) (show xlook 167 6 = some (6, .iadd, 1, 0, 0, 0, 0) from xlk (by decide +kernel)) rfl ?_
  refine xw_istore_n (n := 8) (show xlook 167 7 = some (7, .istore_n 3, 1, 0, 0, 0, 0) from xlk (by decide +kernel)) rfl (ls' := [.ref (131), vi (x1), vi (x2), vi ((8) + ((7) * (x1)))]) (Nat.le_of_ble_eq_true rfl) rfl ?_
  refine xw_iload_n (n := 9) (show xlook 167 8 = some (8, .iload_n 2, 1, 0, 0, 0, 0) from xlk (by decide +kernel)) rfl rfl ?_
  refine xw_aload_n (n := 10) (show xlook 167 9 = some (9, .aload_n 0, 1, 0, 0, 0, 0) from xlk (by decide +kernel)) rfl rfl ?_
  refine xw_getr (q := 132) (show xlook 167 10 = some (10, .getfield 13, 3, 12, 1, 0, 220) from xlk (by decide +kernel)) (by decide) (xobf xob_12 (by decide) (by decide)) rfl (xPT_get (k := 1) (f := 1) hPT xob_12 (by decide)) (by have := (xtg_12_1 _ xob_12.1 xob_12.2).1.1; omega) (n := 13) rfl ?_
  refine xw_iload_n (n := 14) (show xlook 167 13 = some (13, .iload_n 3, 1, 0, 0, 0, 0) from xlk (by decide +kernel)) rfl rfl ?_
  refine xw_iconst (n := 15) (show xlook 167 14 = some (14, .iconst 2, 1, 0, 0, 0, 0) from xlk (by decide +kernel)) rfl ?_
  refine xw_iadd (n := 16) (show xlook 167 15 = some (15, .iadd, 1, 0, 0, 0, 0) from xlk (by decide +kernel)) rfl ?_
  obtain ⟨q1, t⟩ := t
  refine xw_iald (show xlook 167 16 = some (16, .iaload, 1, 0, 0, 0, 0) from xlk (by decide +kernel)) (xtg_12_1 _ xob_12.1 xob_12.2).1 (by rw [(xtg_12_1 _ xob_12.1 xob_12.2).2]; exact q1) (n := 17) rfl ?_
  obtain ⟨q1, q2, t⟩ := t
  refine xw_irem (n := 18) (show xlook 167 17 = some (17, .irem, 1, 0, 0, 0, 0) from xlk (by decide +kernel)) rfl q1 q2 ?_
  obtain ⟨q1, t⟩ := t
  refine xw_i2l (n := 19) (show xlook 167 18 = some (18, .i2l, 1, 0, 0, 0, 0) from xlk (by decide +kernel)) rfl q1 ?_
  refine xw_aload_n (n := 20) (show xlook 167 19 = some (19, .aload_n 0, 1, 0, 0, 0, 0) from xlk (by decide +kernel)) rfl rfl ?_
  refine xw_getr (q := 132) (show xlook 167 20 = some (20, .getfield 13, 3, 12, 1, 0, 220) from xlk (by decide +kernel)) (by decide) (xobf xob_12 (by decide) (by decide)) rfl (xPT_get (k := 1) (f := 1) hPT xob_12 (by decide)) (by have := (xtg_12_1 _ xob_12.1 xob_12.2).1.1; omega) (n := 23) rfl ?_
  refine xw_iload_n (n := 24) (show xlook 167 23 = some (23, .iload_n 3, 1, 0, 0, 0, 0) from xlk (by decide +kernel)) rfl rfl ?_
  refine xw_iconst (n := 25) (show xlook 167 24 = some (24, .iconst 3, 1, 0, 0, 0, 0) from xlk (by decide +kernel)) rfl ?_
  refine xw_iadd (n := 26) (show xlook 167 25 = some (25, .iadd, 1, 0, 0, 0, 0) from xlk (by decide +kernel)) rfl ?_
  obtain ⟨q1, t⟩ := t
  refine xw_iald (show xlook 167 26 = some (26, .iaload, 1, 0, 0, 0, 0) from xlk (by decide +kernel)) (xtg_12_1 _ xob_12.1 xob_12.2).1 (by rw [(xtg_12_1 _ xob_12.1 xob_12.2).2]; exact q1) (n := 27) rfl ?_
  obtain ⟨q1, t⟩ := t
  refine xw_i2l (n := 28) (show xlook 167 27 = some (27, .i2l, 1, 0, 0, 0, 0) from xlk (by decide +kernel)) rfl q1 ?_
  refine xw_aload_n (n := 29) (show xlook 167 28 = some (28, .aload_n 0, 1, 0, 0, 0, 0) from xlk (by decide +kernel)) rfl rfl ?_
  refine xw_getr (q := 132) (show xlook 167 29 = some (29, .getfield 13, 3, 12, 1, 0, 220) from xlk (by decide +kernel)) (by decide) (xobf xob_12 (by decide) (by decide)) rfl (xPT_get (k := 1) (f := 1) hPT xob_12 (by decide)) (by have := (xtg_12_1 _ xob_12.1 xob_12.2).1.1; omega) (n := 32) rfl ?_
  refine xw_iload_n (n := 33) (show xlook 167 32 = some (32, .iload_n 3, 1, 0, 0, 0, 0) from xlk (by decide +kernel)) rfl rfl ?_
  refine xw_iconst (n := 34) (show xlook 167 33 = some (33, .iconst 4, 1, 0, 0, 0, 0) from xlk (by decide +kernel)) rfl ?_
  refine xw_iadd (n := 35) (show xlook 167 34 = some (34, .iadd, 1, 0, 0, 0, 0) from xlk (by decide +kernel)) rfl ?_
  obtain ⟨q1, t⟩ := t
  refine xw_iald (show xlook 167 35 = some (35, .iaload, 1, 0, 0, 0, 0) from xlk (by decide +kernel)) (xtg_12_1 _ xob_12.1 xob_12.2).1 (by rw [(xtg_12_1 _ xob_12.1 xob_12.2).2]; exact q1) (n := 36) rfl ?_
  refine xw_iconst (n := 37) (show xlook 167 36 = some (36, .iconst 1, 1, 0, 0, 0, 0) from xlk (by decide +kernel)) rfl ?_
  refine xw_isub (n := 38) (show xlook 167 37 = some (37, .isub, 1, 0, 0, 0, 0) from xlk (by decide +kernel)) rfl ?_
  obtain ⟨q1, t⟩ := t
  refine xw_i2l (n := 39) (show xlook 167 38 = some (38, .i2l, 1, 0, 0, 0, 0) from xlk (by decide +kernel)) rfl q1 ?_
  obtain ⟨j1, hj1, rr1, G1, hm1, hG1, t⟩ := t
  obtain ⟨y1, rfl, t⟩ := t
  refine xw_calls (dk := j1) (as := [vl ((x2) % ((F) (132) (((8) + ((7) * (x1))) + (2)))), vl ((F) (132) (((8) + ((7) * (x1))) + (3))), vl (((F) (132) (((8) + ((7) * (x1))) + (4))) - (1))]) (show xlook 167 39 = some (39, .invokestatic 83, 3, 132, 3, 0, 151) from xlk (by decide +kernel)) (by decide) hj1 ⟨Nat.le_of_ble_eq_true rfl, Nat.le_of_ble_eq_true rfl, Nat.le_of_ble_eq_true rfl, by decide⟩ rfl hm1 (n := 42) rfl ?_
  show xW X d 167 42 [.ref (131), vi (x1), vi (x2), vi ((8) + ((7) * (x1)))] [vi (y1)] G1 (xqi Q)
  obtain ⟨q1, t⟩ := t
  exact xw_zreturn hG1 (show xlook 167 42 = some (42, .ireturn, 1, 0, 0, 0, 0) from xlk (by decide +kernel)) rfl q1 (t hG1)
theorem m167 {X : List Int32} {d : Nat} {F : XF} {Q : Int → XF → Prop} {x1 : Int} {x2 : Int} (hPT : xPT F)  (t : (0 ≤ (((8) + ((7) * (x1))) + (2)) ∧ (((8) + ((7) * (x1))) + (2)) < 163) ∧ ((0 ≤ (x2 : Int) ∧ (x2 : Int) ≤ 2147483647) ∧ (0 < ((F) (132) (((8) + ((7) * (x1))) + (2)) : Int) ∧ ((F) (132) (((8) + ((7) * (x1))) + (2)) : Int) ≤ 2147483647) ∧ ((inR ((x2) % ((F) (132) (((8) + ((7) * (x1))) + (2))))) ∧ ((0 ≤ (((8) + ((7) * (x1))) + (3)) ∧ (((8) + ((7) * (x1))) + (3)) < 163) ∧ ((inR ((F) (132) (((8) + ((7) * (x1))) + (3)))) ∧ ((0 ≤ (((8) + ((7) * (x1))) + (4)) ∧ (((8) + ((7) * (x1))) + (4)) < 163) ∧ ((inR (((F) (132) (((8) + ((7) * (x1))) + (4))) - (1))) ∧ (∃ (j1 : Nat), j1 < d ∧ xMI X j1 132 [vl ((x2) % ((F) (132) (((8) + ((7) * (x1))) + (2)))), vl ((F) (132) (((8) + ((7) * (x1))) + (3))), vl (((F) (132) (((8) + ((7) * (x1))) + (4))) - (1))] (F) (fun (y1 : Int) (G1 : XF) => (((y1 : Int) = 0 ∨ (y1 : Int) = 1) ∧ (xPT (G1) → Q (y1) (G1)))))))))))) : xMI X d 167 [.ref (131), vi (x1), vi (x2)] F Q := by
  show xW X d 167 0 [.ref (131), vi (x1), vi (x2), xU0] [] F (xqi Q)
  exact s167_0 hPT  t

theorem s168_0 {X : List Int32} {d : Nat} {F : XF} {Q : Int → XF → Prop} {x1 : Int} {w2 : Value} (hPT : xPT F)  (t : (0 ≤ (((8) + ((7) * (x1))) + (3)) ∧ (((8) + ((7) * (x1))) + (3)) < 163) ∧ (inR ((F) (132) (((8) + ((7) * (x1))) + (3))) ∧ (((¬ ((F) (132) (((8) + ((7) * (x1))) + (3))) = (0)) → (xPT (F) → Q (0) (F))) ∧ (¬ (¬ ((F) (132) (((8) + ((7) * (x1))) + (3))) = (0)) → ((0 ≤ (((8) + ((7) * (x1))) + (4)) ∧ (((8) + ((7) * (x1))) + (4)) < 163) ∧ ((0 ≤ (((8) + ((7) * (x1))) + (2)) ∧ (((8) + ((7) * (x1))) + (2)) < 163) ∧ (inR ((F) (132) (((8) + ((7) * (x1))) + (4))) ∧ inR ((F) (132) (((8) + ((7) * (x1))) + (2))) ∧ (((¬ ((F) (132) (((8) + ((7) * (x1))) + (4))) = ((F) (132) (((8) + ((7) * (x1))) + (2)))) → (xPT (F) → Q (0) (F))) ∧ (¬ (¬ ((F) (132) (((8) + ((7) * (x1))) + (4))) = ((F) (132) (((8) + ((7) * (x1))) + (2)))) → (xPT (F) → Q (1) (F))))))))))) : xW X d 168 0 [.ref (131), vi (x1), w2] [] F (xqi Q) := by
  refine xw_bipush (n := 2) (show xlook 168 0 = some (0, .bipush 8, 2, 0, 0, 0, 0) from xlk (by decide +kernel)) rfl (by decide) ?_
  refine xw_bipush (n := 4) (show xlook 168 2 = some (2, .bipush 7, 2, 0, 0, 0, 0) from xlk (by decide +kernel)) rfl (by decide) ?_
  refine xw_iload_n (n := 5) (show xlook 168 4 = some (4, .iload_n 1, 1, 0, 0, 0, 0) from xlk (by decide +kernel)) rfl rfl ?_
  refine xw_imul (n := 6) (show xlook 168 5 = some (5, .imul, 1, 0, 0, 0, 0) from xlk (by decide +kernel)) rfl ?_
  refine xw_iadd (n := 7) (show xlook 168 6 = some (6, .iadd, 1, 0, 0, 0, 0) from xlk (by decide +kernel)) rfl ?_
  refine xw_istore_n (n := 8) (show xlook 168 7 = some (7, .istore_n 2, 1, 0, 0, 0, 0) from xlk (by decide +kernel)) rfl (ls' := [.ref (131), vi (x1), vi ((8) + ((7) * (x1)))]) (Nat.le_of_ble_eq_true rfl) rfl ?_
  refine xw_aload_n (n := 9) (show xlook 168 8 = some (8, .aload_n 0, 1, 0, 0, 0, 0) from xlk (by decide +kernel)) rfl rfl ?_
  refine xw_getr (q := 132) (show xlook 168 9 = some (9, .getfield 13, 3, 12, 1, 0, 220) from xlk (by decide +kernel)) (by decide) (xobf xob_12 (by decide) (by decide)) rfl (xPT_get (k := 1) (f := 1) hPT xob_12 (by decide)) (by have := (xtg_12_1 _ xob_12.1 xob_12.2).1.1; omega) (n := 12) rfl ?_
  refine xw_iload_n (n := 13) (show xlook 168 12 = some (12, .iload_n 2, 1, 0, 0, 0, 0) from xlk (by decide +kernel)) rfl rfl ?_
  refine xw_iconst (n := 14) (show xlook 168 13 = some (13, .iconst 3, 1, 0, 0, 0, 0) from xlk (by decide +kernel)) rfl ?_
  refine xw_iadd (n := 15) (show xlook 168 14 = some (14, .iadd, 1, 0, 0, 0, 0) from xlk (by decide +kernel)) rfl ?_
  obtain ⟨q1, t⟩ := t
  refine xw_iald (show xlook 168 15 = some (15, .iaload, 1, 0, 0, 0, 0) from xlk (by decide +kernel)) (xtg_12_1 _ xob_12.1 xob_12.2).1 (by rw [(xtg_12_1 _ xob_12.1 xob_12.2).2]; exact q1) (n := 16) rfl ?_
  obtain ⟨q0, t⟩ := t
  refine xw_if_ne (n := 19) (m := 42) (show xlook 168 16 = some (16, .ifCond .ne 26, 3, 42, 0, 0, 0) from xlk (by decide +kernel)) rfl rfl q0 ⟨fun c => ?_, fun c => ?_⟩
  · replace t := t.1 c
    refine xw_iconst (n := 43) (show xlook 168 42 = some (42, .iconst 0, 1, 0, 0, 0, 0) from xlk (by decide +kernel)) rfl ?_
    exact xw_zreturn hPT (show xlook 168 43 = some (43, .ireturn, 1, 0, 0, 0, 0) from xlk (by decide +kernel)) rfl (by decide) (t hPT)
  · replace t := t.2 c
    refine xw_aload_n (n := 20) (show xlook 168 19 = some (19, .aload_n 0, 1, 0, 0, 0, 0) from xlk (by decide +kernel)) rfl rfl ?_
    refine xw_getr (q := 132) (show xlook 168 20 = some (20, .getfield 13, 3, 12, 1, 0, 220) from xlk (by decide +kernel)) (by decide) (xobf xob_12 (by decide) (by decide)) rfl (xPT_get (k := 1) (f := 1) hPT xob_12 (by decide)) (by have := (xtg_12_1 _ xob_12.1 xob_12.2).1.1; omega) (n := 23) rfl ?_
    refine xw_iload_n (n := 24) (show xlook 168 23 = some (23, .iload_n 2, 1, 0, 0, 0, 0) from xlk (by decide +kernel)) rfl rfl ?_
    refine xw_iconst (n := 25) (show xlook 168 24 = some (24, .iconst 4, 1, 0, 0, 0, 0) from xlk (by decide +kernel)) rfl ?_
    refine xw_iadd (n := 26) (show xlook 168 25 = some (25, .iadd, 1, 0, 0, 0, 0) from xlk (by decide +kernel)) rfl ?_
    obtain ⟨q1, t⟩ := t
    refine xw_iald (show xlook 168 26 = some (26, .iaload, 1, 0, 0, 0, 0) from xlk (by decide +kernel)) (xtg_12_1 _ xob_12.1 xob_12.2).1 (by rw [(xtg_12_1 _ xob_12.1 xob_12.2).2]; exact q1) (n := 27) rfl ?_
    refine xw_aload_n (n := 28) (show xlook 168 27 = some (27, .aload_n 0, 1, 0, 0, 0, 0) from xlk (by decide +kernel)) rfl rfl ?_
    refine xw_getr (q := 132) (show xlook 168 28 = some (28, .getfield 13, 3, 12, 1, 0, 220) from xlk (by decide +kernel)) (by decide) (xobf xob_12 (by decide) (by decide)) rfl (xPT_get (k := 1) (f := 1) hPT xob_12 (by decide)) (by have := (xtg_12_1 _ xob_12.1 xob_12.2).1.1; omega) (n := 31) rfl ?_
    refine xw_iload_n (n := 32) (show xlook 168 31 = some (31, .iload_n 2, 1, 0, 0, 0, 0) from xlk (by decide +kernel)) rfl rfl ?_
    refine xw_iconst (n := 33) (show xlook 168 32 = some (32, .iconst 2, 1, 0, 0, 0, 0) from xlk (by decide +kernel)) rfl ?_
    refine xw_iadd (n := 34) (show xlook 168 33 = some (33, .iadd, 1, 0, 0, 0, 0) from xlk (by decide +kernel)) rfl ?_
    obtain ⟨q1, t⟩ := t
    refine xw_iald (show xlook 168 34 = some (34, .iaload, 1, 0, 0, 0, 0) from xlk (by decide +kernel)) (xtg_12_1 _ xob_12.1 xob_12.2).1 (by rw [(xtg_12_1 _ xob_12.1 xob_12.2).2]; exact q1) (n := 35) rfl ?_
    obtain ⟨q0, q1, t⟩ := t
    refine xw_icmp_ne (n := 38) (m := 42) (show xlook 168 35 = some (35, .if_icmp .ne 7, 3, 42, 0, 0, 0) from xlk (by decide +kernel)) rfl rfl q0 q1 ⟨fun c => ?_, fun c => ?_⟩
    · replace t := t.1 c
      refine xw_iconst (n := 43) (show xlook 168 42 = some (42, .iconst 0, 1, 0, 0, 0, 0) from xlk (by decide +kernel)) rfl ?_
      exact xw_zreturn hPT (show xlook 168 43 = some (43, .ireturn, 1, 0, 0, 0, 0) from xlk (by decide +kernel)) rfl (by decide) (t hPT)
    · replace t := t.2 c
      refine xw_iconst (n := 39) (show xlook 168 38 = some (38, .iconst 1, 1, 0, 0, 0, 0) from xlk (by decide +kernel)) rfl ?_
      refine xw_goto (m := 43) (show xlook 168 39 = some (39, .goto 4, 3, 43, 0, 0, 0) from xlk (by decide +kernel)) rfl ?_
      exact xw_zreturn hPT (show xlook 168 43 = some (43, .ireturn, 1, 0, 0, 0, 0) from xlk (by decide +kernel)) rfl (by decide) (t hPT)
theorem m168 {X : List Int32} {d : Nat} {F : XF} {Q : Int → XF → Prop} {x1 : Int} (hPT : xPT F)  (t : (0 ≤ (((8) + ((7) * (x1))) + (3)) ∧ (((8) + ((7) * (x1))) + (3)) < 163) ∧ (inR ((F) (132) (((8) + ((7) * (x1))) + (3))) ∧ (((¬ ((F) (132) (((8) + ((7) * (x1))) + (3))) = (0)) → (xPT (F) → Q (0) (F))) ∧ (¬ (¬ ((F) (132) (((8) + ((7) * (x1))) + (3))) = (0)) → ((0 ≤ (((8) + ((7) * (x1))) + (4)) ∧ (((8) + ((7) * (x1))) + (4)) < 163) ∧ ((0 ≤ (((8) + ((7) * (x1))) + (2)) ∧ (((8) + ((7) * (x1))) + (2)) < 163) ∧ (inR ((F) (132) (((8) + ((7) * (x1))) + (4))) ∧ inR ((F) (132) (((8) + ((7) * (x1))) + (2))) ∧ (((¬ ((F) (132) (((8) + ((7) * (x1))) + (4))) = ((F) (132) (((8) + ((7) * (x1))) + (2)))) → (xPT (F) → Q (0) (F))) ∧ (¬ (¬ ((F) (132) (((8) + ((7) * (x1))) + (4))) = ((F) (132) (((8) + ((7) * (x1))) + (2)))) → (xPT (F) → Q (1) (F))))))))))) : xMI X d 168 [.ref (131), vi (x1)] F Q := by
  show xW X d 168 0 [.ref (131), vi (x1), xU0] [] F (xqi Q)
  exact s168_0 hPT  t

theorem s169_0 {X : List Int32} {d : Nat} {F : XF} {Q : Int → XF → Prop} {x1 : Int} {x2 : Int} {x3 : Int} {w4 : Value} (hPT : xPT F)  (t : ∃ (j1 : Nat), j1 < d ∧ xMI X j1 168 [.ref (131), vi (x2)] (F) (fun (y1 : Int) (G1 : XF) => (inR (y1) ∧ (((¬ (y1) = (0)) → (xPT (G1) → Q (1) (G1))) ∧ (¬ (¬ (y1) = (0)) → (∃ (j2 : Nat), j2 < d ∧ xMI X j2 167 [.ref (131), vi (x2), vi (x3)] (G1) (fun (y2 : Int) (G2 : XF) => (inR (y2) ∧ ((((y2) = (0)) → (xPT (G2) → Q (0) (G2))) ∧ (¬ ((y2) = (0)) → ((0 ≤ (((8) + ((7) * (x2))) + (2)) ∧ (((8) + ((7) * (x2))) + (2)) < 163) ∧ ((0 ≤ (x3 : Int) ∧ (x3 : Int) ≤ 2147483647) ∧ (0 < ((G2) (132) (((8) + ((7) * (x2))) + (2)) : Int) ∧ ((G2) (132) (((8) + ((7) * (x2))) + (2)) : Int) ≤ 2147483647) ∧ (∃ (j3 : Nat), j3 < d ∧ xMI X j3 166 [.ref (131), vi (x1), vi (x2)] (G2) (fun (y3 : Int) (G3 : XF) => ((0 ≤ (((8) + ((7) * (x2))) + (4)) ∧ (((8) + ((7) * (x2))) + (4)) < 163) ∧ (inR (((x3) % ((G2) (132) (((8) + ((7) * (x2))) + (2)))) + (y3)) ∧ inR ((G3) (132) (((8) + ((7) * (x2))) + (4))) ∧ (((((G3) (132) (((8) + ((7) * (x2))) + (4))) < (((x3) % ((G2) (132) (((8) + ((7) * (x2))) + (2)))) + (y3))) → (xPT (G3) → Q (0) (G3))) ∧ (¬ (((G3) (132) (((8) + ((7) * (x2))) + (4))) < (((x3) % ((G2) (132) (((8) + ((7) * (x2))) + (2)))) + (y3))) → (xPT (G3) → Q (1) (G3)))))))))))))))))))) : xW X d 169 0 [.ref (131), vi (x1), vi (x2), vi (x3), w4] [] F (xqi Q) := by
  refine xw_bipush (n := 2) (show xlook 169 0 = some (0, .bipush 8, 2, 0, 0, 0, 0) from xlk (by decide +kernel)) rfl (by decide) ?_
  refine xw_bipush (n := 4) (show xlook 169 2 = some (2, .bipush 7, 2, 0, 0, 0, 0) from xlk (by decide +kernel)) rfl (by decide) ?_
  refine xw_iload_n (n := 5) (show xlook 169 4 = some (4, .iload_n 2, 1, 0, 0, 0, 0) from xlk (by decide +kernel)) rfl rfl ?_
  refine xw_imul (n := 6) (show xlook 169 5 = some (5, .imul, 1, 0, 0, 0, 0) from xlk (by decide +kernel)) rfl ?_
  refine xw_iadd (n := 7) (show xlook 169 6 = some (6, .iadd, 1, 0, 0, 0, 0) from xlk (by decide +kernel)) rfl ?_
  refine xw_istore (n := 9) (show xlook 169 7 = some (7, .istore 4, 2, 0, 0, 0, 0) from xlk (by decide +kernel)) rfl (ls' := [.ref (131), vi (x1), vi (x2), vi (x3), vi ((8) + ((7) * (x2)))]) (Nat.le_of_ble_eq_true rfl) rfl ?_
  refine xw_aload_n (n := 10) (show xlook 169 9 = some (9, .aload_n 0, 1, 0, 0, 0, 0) from xlk (by decide +kernel)) rfl rfl ?_
  refine xw_iload_n (n := 11) (show xlook 169 10 = some (10, .iload_n 2, 1, 0, 0, 0, 0) from xlk (by decide +kernel)) rfl rfl ?_
  obtain ⟨j1, hj1, rr1, G1, hm1, hG1, t⟩ := t
  obtain ⟨y1, rfl, t⟩ := t
  refine xw_callv (dk := j1) (o := 131) (as := [vi (x2)]) (show xlook 169 11 = some (11, .invokevirtual 191, 3, 168, 2, 0, 175) from xlk (by decide +kernel)) (by decide) hj1 ⟨Nat.le_of_ble_eq_true rfl, Nat.le_of_ble_eq_true rfl, Nat.le_of_ble_eq_true rfl⟩ ⟨xob_12.1, xob_12.2, by decide⟩ rfl hm1 (n := 14) rfl ?_
  show xW X d 169 14 [.ref (131), vi (x1), vi (x2), vi (x3), vi ((8) + ((7) * (x2)))] [vi (y1)] G1 (xqi Q)
  obtain ⟨q0, t⟩ := t
  refine xw_if_ne (n := 17) (m := 56) (show xlook 169 14 = some (14, .ifCond .ne 42, 3, 56, 0, 0, 0) from xlk (by decide +kernel)) rfl rfl q0 ⟨fun c => ?_, fun c => ?_⟩
  · replace t := t.1 c
    refine xw_iconst (n := 57) (show xlook 169 56 = some (56, .iconst 1, 1, 0, 0, 0, 0) from xlk (by decide +kernel)) rfl ?_
    refine xw_goto (m := 61) (show xlook 169 57 = some (57, .goto 4, 3, 61, 0, 0, 0) from xlk (by decide +kernel)) rfl ?_
    exact xw_zreturn hG1 (show xlook 169 61 = some (61, .ireturn, 1, 0, 0, 0, 0) from xlk (by decide +kernel)) rfl (by decide) (t hG1)
  · replace t := t.2 c
    refine xw_aload_n (n := 18) (show xlook 169 17 = some (17, .aload_n 0, 1, 0, 0, 0, 0) from xlk (by decide +kernel)) rfl rfl ?_
    refine xw_iload_n (n := 19) (show xlook 169 18 = some (18, .iload_n 2, 1, 0, 0, 0, 0) from xlk (by decide +kernel)) rfl rfl ?_
    refine xw_iload_n (n := 20) (show xlook 169 19 = some (19, .iload_n 3, 1, 0, 0, 0, 0) from xlk (by decide +kernel)) rfl rfl ?_
    obtain ⟨j2, hj2, rr2, G2, hm2, hG2, t⟩ := t
    obtain ⟨y2, rfl, t⟩ := t
    refine xw_callv (dk := j2) (o := 131) (as := [vi (x2), vi (x3)]) (show xlook 169 20 = some (20, .invokevirtual 194, 3, 167, 3, 0, 176) from xlk (by decide +kernel)) (by decide) hj2 ⟨Nat.le_of_ble_eq_true rfl, Nat.le_of_ble_eq_true rfl, Nat.le_of_ble_eq_true rfl⟩ ⟨xob_12.1, xob_12.2, by decide⟩ rfl hm2 (n := 23) rfl ?_
    show xW X d 169 23 [.ref (131), vi (x1), vi (x2), vi (x3), vi ((8) + ((7) * (x2)))] [vi (y2)] G2 (xqi Q)
    obtain ⟨q0, t⟩ := t
    refine xw_if_eq (n := 26) (m := 60) (show xlook 169 23 = some (23, .ifCond .eq 37, 3, 60, 0, 0, 0) from xlk (by decide +kernel)) rfl rfl q0 ⟨fun c => ?_, fun c => ?_⟩
    · replace t := t.1 c
      refine xw_iconst (n := 61) (show xlook 169 60 = some (60, .iconst 0, 1, 0, 0, 0, 0) from xlk (by decide +kernel)) rfl ?_
      exact xw_zreturn hG2 (show xlook 169 61 = some (61, .ireturn, 1, 0, 0, 0, 0) from xlk (by decide +kernel)) rfl (by decide) (t hG2)
    · replace t := t.2 c
      refine xw_iload_n (n := 27) (show xlook 169 26 = some (26, .iload_n 3, 1, 0, 0, 0, 0) from xlk (by decide +kernel)) rfl rfl ?_
      refine xw_aload_n (n := 28) (show xlook 169 27 = some (27, .aload_n 0, 1, 0, 0, 0, 0) from xlk (by decide +kernel)) rfl rfl ?_
      refine xw_getr (q := 132) (show xlook 169 28 = some (28, .getfield 13, 3, 12, 1, 0, 220) from xlk (by decide +kernel)) (by decide) (xobf xob_12 (by decide) (by decide)) rfl (xPT_get (k := 1) (f := 1) hG2 xob_12 (by decide)) (by have := (xtg_12_1 _ xob_12.1 xob_12.2).1.1; omega) (n := 31) rfl ?_
      refine xw_iload (n := 33) (show xlook 169 31 = some (31, .iload 4, 2, 0, 0, 0, 0) from xlk (by decide +kernel)) rfl rfl ?_
      refine xw_iconst (n := 34) (show xlook 169 33 = some (33, .iconst 2, 1, 0, 0, 0, 0) from xlk (by decide +kernel)) rfl ?_
      refine xw_iadd (n := 35) (show xlook 169 34 = some (34, .iadd, 1, 0, 0, 0, 0) from xlk (by decide +kernel)) rfl ?_
      obtain ⟨q1, t⟩ := t
      refine xw_iald (show xlook 169 35 = some (35, .iaload, 1, 0, 0, 0, 0) from xlk (by decide +kernel)) (xtg_12_1 _ xob_12.1 xob_12.2).1 (by rw [(xtg_12_1 _ xob_12.1 xob_12.2).2]; exact q1) (n := 36) rfl ?_
      obtain ⟨q1, q2, t⟩ := t
      refine xw_irem (n := 37) (show xlook 169 36 = some (36, .irem, 1, 0, 0, 0, 0) from xlk (by decide +kernel)) rfl q1 q2 ?_
      refine xw_aload_n (n := 38) (show xlook 169 37 = some (37, .aload_n 0, 1, 0, 0, 0, 0) from xlk (by decide +kernel)) rfl rfl ?_
      refine xw_iload_n (n := 39) (show xlook 169 38 = some (38, .iload_n 1, 1, 0, 0, 0, 0) from xlk (by decide +kernel)) rfl rfl ?_
      refine xw_iload_n (n := 40) (show xlook 169 39 = some (39, .iload_n 2, 1, 0, 0, 0, 0) from xlk (by decide +kernel)) rfl rfl ?_
      obtain ⟨j3, hj3, rr3, G3, hm3, hG3, t⟩ := t
      obtain ⟨y3, rfl, t⟩ := t
      refine xw_callv (dk := j3) (o := 131) (as := [vi (x1), vi (x2)]) (show xlook 169 40 = some (40, .invokevirtual 197, 3, 166, 3, 0, 177) from xlk (by decide +kernel)) (by decide) hj3 ⟨Nat.le_of_ble_eq_true rfl, Nat.le_of_ble_eq_true rfl, Nat.le_of_ble_eq_true rfl⟩ ⟨xob_12.1, xob_12.2, by decide⟩ rfl hm3 (n := 43) rfl ?_
      show xW X d 169 43 [.ref (131), vi (x1), vi (x2), vi (x3), vi ((8) + ((7) * (x2)))] [vi (y3), vi ((x3) % ((G2) (132) (((8) + ((7) * (x2))) + (2))))] G3 (xqi Q)
      refine xw_iadd (n := 44) (show xlook 169 43 = some (43, .iadd, 1, 0, 0, 0, 0) from xlk (by decide +kernel)) rfl ?_
      refine xw_aload_n (n := 45) (show xlook 169 44 = some (44, .aload_n 0, 1, 0, 0, 0, 0) from xlk (by decide +kernel)) rfl rfl ?_
      refine xw_getr (q := 132) (show xlook 169 45 = some (45, .getfield 13, 3, 12, 1, 0, 220) from xlk (by decide +kernel)) (by decide) (xobf xob_12 (by decide) (by decide)) rfl (xPT_get (k := 1) (f := 1) hG3 xob_12 (by decide)) (by have := (xtg_12_1 _ xob_12.1 xob_12.2).1.1; omega) (n := 48) rfl ?_
      refine xw_iload (n := 50) (show xlook 169 48 = some (48, .iload 4, 2, 0, 0, 0, 0) from xlk (by decide +kernel)) rfl rfl ?_
      refine xw_iconst (n := 51) (show xlook 169 50 = some (50, .iconst 4, 1, 0, 0, 0, 0) from xlk (by decide +kernel)) rfl ?_
      refine xw_iadd (n := 52) (show xlook 169 51 = some (51, .iadd, 1, 0, 0, 0, 0) from xlk (by decide +kernel)) rfl ?_
      obtain ⟨q1, t⟩ := t
      refine xw_iald (show xlook 169 52 = some (52, .iaload, 1, 0, 0, 0, 0) from xlk (by decide +kernel)) (xtg_12_1 _ xob_12.1 xob_12.2).1 (by rw [(xtg_12_1 _ xob_12.1 xob_12.2).2]; exact q1) (n := 53) rfl ?_
      obtain ⟨q0, q1, t⟩ := t
      refine xw_icmp_gt (n := 56) (m := 60) (show xlook 169 53 = some (53, .if_icmp .gt 7, 3, 60, 0, 0, 0) from xlk (by decide +kernel)) rfl rfl q0 q1 ⟨fun c => ?_, fun c => ?_⟩
      · replace t := t.1 c
        refine xw_iconst (n := 61) (show xlook 169 60 = some (60, .iconst 0, 1, 0, 0, 0, 0) from xlk (by decide +kernel)) rfl ?_
        exact xw_zreturn hG3 (show xlook 169 61 = some (61, .ireturn, 1, 0, 0, 0, 0) from xlk (by decide +kernel)) rfl (by decide) (t hG3)
      · replace t := t.2 c
        refine xw_iconst (n := 57) (show xlook 169 56 = some (56, .iconst 1, 1, 0, 0, 0, 0) from xlk (by decide +kernel)) rfl ?_
        refine xw_goto (m := 61) (show xlook 169 57 = some (57, .goto 4, 3, 61, 0, 0, 0) from xlk (by decide +kernel)) rfl ?_
        exact xw_zreturn hG3 (show xlook 169 61 = some (61, .ireturn, 1, 0, 0, 0, 0) from xlk (by decide +kernel)) rfl (by decide) (t hG3)
theorem m169 {X : List Int32} {d : Nat} {F : XF} {Q : Int → XF → Prop} {x1 : Int} {x2 : Int} {x3 : Int} (hPT : xPT F)  (t : ∃ (j1 : Nat), j1 < d ∧ xMI X j1 168 [.ref (131), vi (x2)] (F) (fun (y1 : Int) (G1 : XF) => (inR (y1) ∧ (((¬ (y1) = (0)) → (xPT (G1) → Q (1) (G1))) ∧ (¬ (¬ (y1) = (0)) → (∃ (j2 : Nat), j2 < d ∧ xMI X j2 167 [.ref (131), vi (x2), vi (x3)] (G1) (fun (y2 : Int) (G2 : XF) => (inR (y2) ∧ ((((y2) = (0)) → (xPT (G2) → Q (0) (G2))) ∧ (¬ ((y2) = (0)) → ((0 ≤ (((8) + ((7) * (x2))) + (2)) ∧ (((8) + ((7) * (x2))) + (2)) < 163) ∧ ((0 ≤ (x3 : Int) ∧ (x3 : Int) ≤ 2147483647) ∧ (0 < ((G2) (132) (((8) + ((7) * (x2))) + (2)) : Int) ∧ ((G2) (132) (((8) + ((7) * (x2))) + (2)) : Int) ≤ 2147483647) ∧ (∃ (j3 : Nat), j3 < d ∧ xMI X j3 166 [.ref (131), vi (x1), vi (x2)] (G2) (fun (y3 : Int) (G3 : XF) => ((0 ≤ (((8) + ((7) * (x2))) + (4)) ∧ (((8) + ((7) * (x2))) + (4)) < 163) ∧ (inR (((x3) % ((G2) (132) (((8) + ((7) * (x2))) + (2)))) + (y3)) ∧ inR ((G3) (132) (((8) + ((7) * (x2))) + (4))) ∧ (((((G3) (132) (((8) + ((7) * (x2))) + (4))) < (((x3) % ((G2) (132) (((8) + ((7) * (x2))) + (2)))) + (y3))) → (xPT (G3) → Q (0) (G3))) ∧ (¬ (((G3) (132) (((8) + ((7) * (x2))) + (4))) < (((x3) % ((G2) (132) (((8) + ((7) * (x2))) + (2)))) + (y3))) → (xPT (G3) → Q (1) (G3)))))))))))))))))))) : xMI X d 169 [.ref (131), vi (x1), vi (x2), vi (x3)] F Q := by
  show xW X d 169 0 [.ref (131), vi (x1), vi (x2), vi (x3), xU0] [] F (xqi Q)
  exact s169_0 hPT  t

theorem s170_0 {X : List Int32} {d : Nat} {F : XF} {Q : XF → Prop} {x1 : Int} {w2 : Value} (hPT : xPT F)  (t : ∃ (j1 : Nat), j1 < d ∧ xMV X j1 163 [.ref (131)] (F) (fun (G1 : XF) => (xPT (G1) → xW X d 170 6 [.ref (131), vi (x1), vi (0)] [] (G1) (xqv Q)))) : xW X d 170 0 [.ref (131), vi (x1), w2] [] F (xqv Q) := by
  refine xw_aload_n (n := 1) (show xlook 170 0 = some (0, .aload_n 0, 1, 0, 0, 0, 0) from xlk (by decide +kernel)) rfl rfl ?_
  obtain ⟨j1, hj1, rr1, G1, hm1, hG1, t⟩ := t
  obtain ⟨rfl, t⟩ := t
  refine xw_callv (dk := j1) (o := 131) (as := []) (show xlook 170 1 = some (1, .invokevirtual 200, 3, 163, 1, 0, 178) from xlk (by decide +kernel)) (by decide) hj1 ⟨Nat.le_of_ble_eq_true rfl, Nat.le_of_ble_eq_true rfl, Nat.le_of_ble_eq_true rfl⟩ ⟨xob_12.1, xob_12.2, by decide⟩ rfl hm1 (n := 4) rfl ?_
  show xW X d 170 4 [.ref (131), vi (x1), w2] [] G1 (xqv Q)
  refine xw_iconst (n := 5) (show xlook 170 4 = some (4, .iconst 0, 1, 0, 0, 0, 0) from xlk (by decide +kernel)) rfl ?_
  refine xw_istore_n (n := 6) (show xlook 170 5 = some (5, .istore_n 2, 1, 0, 0, 0, 0) from xlk (by decide +kernel)) rfl (ls' := [.ref (131), vi (x1), vi (0)]) (Nat.le_of_ble_eq_true rfl) rfl ?_
  exact t hG1
theorem m170 {X : List Int32} {d : Nat} {F : XF} {Q : XF → Prop} {x1 : Int} (hPT : xPT F)  (t : ∃ (j1 : Nat), j1 < d ∧ xMV X j1 163 [.ref (131)] (F) (fun (G1 : XF) => (xPT (G1) → xW X d 170 6 [.ref (131), vi (x1), vi (0)] [] (G1) (xqv Q)))) : xMV X d 170 [.ref (131), vi (x1)] F Q := by
  show xW X d 170 0 [.ref (131), vi (x1), xU0] [] F (xqv Q)
  exact s170_0 hPT  t

theorem s170_6 {X : List Int32} {d : Nat} {F : XF} {Q : XF → Prop} {x1 : Int} {x2 : Int} (hPT : xPT F)  (t : inR (x2) ∧ ((((132) ≤ (x2)) → (xPT (F) → xW X d 170 30 [.ref (131), vi (x1), vi (0)] [] (F) (xqv Q))) ∧ (¬ ((132) ≤ (x2)) → ((0 ≤ ((x1) + (x2)) ∧ ((x1) + (x2)) < 264) ∧ (xPT (xup (F) (140) ((x1) + (x2)) (0)) → xW X d 170 6 [.ref (131), vi (x1), vi (x2 + 1)] [] (xup (F) (140) ((x1) + (x2)) (0)) (xqv Q)))))) : xW X d 170 6 [.ref (131), vi (x1), vi (x2)] [] F (xqv Q) := by
  refine xw_iload_n (n := 7) (show xlook 170 6 = some (6, .iload_n 2, 1, 0, 0, 0, 0) from xlk (by decide +kernel)) rfl rfl ?_
  refine xw_sipush (n := 10) (show xlook 170 7 = some (7, .sipush 132, 3, 0, 0, 0, 0) from xlk (by decide +kernel)) rfl (by decide) ?_
  obtain ⟨q0, t⟩ := t
  refine xw_icmp_ge (n := 13) (m := 28) (show xlook 170 10 = some (10, .if_icmp .ge 18, 3, 28, 0, 0, 0) from xlk (by decide +kernel)) rfl rfl q0 ⟨by decide, by decide⟩ ⟨fun c => ?_, fun c => ?_⟩
  · replace t := t.1 c
    refine xw_iconst (n := 29) (show xlook 170 28 = some (28, .iconst 0, 1, 0, 0, 0, 0) from xlk (by decide +kernel)) rfl ?_
    refine xw_istore_n (n := 30) (show xlook 170 29 = some (29, .istore_n 2, 1, 0, 0, 0, 0) from xlk (by decide +kernel)) rfl (ls' := [.ref (131), vi (x1), vi (0)]) (Nat.le_of_ble_eq_true rfl) rfl ?_
    exact t hPT
  · replace t := t.2 c
    refine xw_aload_n (n := 14) (show xlook 170 13 = some (13, .aload_n 0, 1, 0, 0, 0, 0) from xlk (by decide +kernel)) rfl rfl ?_
    refine xw_getr (q := 140) (show xlook 170 14 = some (14, .getfield 42, 3, 12, 18, 0, 229) from xlk (by decide +kernel)) (by decide) (xobf xob_12 (by decide) (by decide)) rfl (xPT_get (k := 18) (f := 9) hPT xob_12 (by decide)) (by have := (xtg_12_18 _ xob_12.1 xob_12.2).1.1; omega) (n := 17) rfl ?_
    refine xw_iload_n (n := 18) (show xlook 170 17 = some (17, .iload_n 1, 1, 0, 0, 0, 0) from xlk (by decide +kernel)) rfl rfl ?_
    refine xw_iload_n (n := 19) (show xlook 170 18 = some (18, .iload_n 2, 1, 0, 0, 0, 0) from xlk (by decide +kernel)) rfl rfl ?_
    refine xw_iadd (n := 20) (show xlook 170 19 = some (19, .iadd, 1, 0, 0, 0, 0) from xlk (by decide +kernel)) rfl ?_
    refine xw_iconst (n := 21) (show xlook 170 20 = some (20, .iconst 0, 1, 0, 0, 0, 0) from xlk (by decide +kernel)) rfl ?_
    obtain ⟨q1, t⟩ := t
    refine xw_iast (show xlook 170 21 = some (21, .iastore, 1, 0, 0, 0, 0) from xlk (by decide +kernel)) (xtg_12_18 _ xob_12.1 xob_12.2).1 (by rw [(xtg_12_18 _ xob_12.1 xob_12.2).2]; exact q1) (n := 22) rfl ?_
    refine xw_iinc (n := 25) (show xlook 170 22 = some (22, .iinc 2 1, 3, 0, 0, 0, 0) from xlk (by decide +kernel)) rfl (ls' := [.ref (131), vi (x1), vi (x2 + 1)]) rfl rfl ?_
    refine xw_goto (m := 6) (show xlook 170 25 = some (25, .goto (-19), 3, 6, 0, 0, 0) from xlk (by decide +kernel)) rfl ?_
    exact t (xPT_arr hPT (Or.inl (xtg_12_18 _ xob_12.1 xob_12.2).1.2))

theorem s170_30 {X : List Int32} {d : Nat} {F : XF} {Q : XF → Prop} {x1 : Int} {x2 : Int} (hPT : xPT F)  (t : ∃ (j1 : Nat), j1 < d ∧ xMI X j1 154 [.ref (131)] (F) (fun (y1 : Int) (G1 : XF) => (inR (x2) ∧ inR (y1) ∧ ((((y1) ≤ (x2)) → (inR (x1) ∧ (((¬ (x1) = (0)) → (xPT (G1) → Q (G1))) ∧ (¬ (¬ (x1) = (0)) → (xPT (xup (G1) (131) 20 (0)) → Q (xup (G1) (131) 20 (0))))))) ∧ (¬ ((y1) ≤ (x2)) → (inR (x2) ∧ (((¬ (x2) = (0)) → (∃ (j2 : Nat), j2 < d ∧ xMI X j2 171 [.ref (131), vi (x1), vi ((x2) - (1))] (G1) (fun (y2 : Int) (G2 : XF) => ((0 ≤ ((x1) + (x2)) ∧ ((x1) + (x2)) < 264) ∧ ((0 ≤ (((x1) + (30)) + (x2)) ∧ (((x1) + (30)) + (x2)) < 264) ∧ (xPT (xup (xup (G2) (140) ((x1) + (x2)) ((y2) - ((G2) (132) 2))) (140) (((x1) + (30)) + (x2)) ((-1))) → xW X d 170 30 [.ref (131), vi (x1), vi (x2 + 1)] [] (xup (xup (G2) (140) ((x1) + (x2)) ((y2) - ((G2) (132) 2))) (140) (((x1) + (30)) + (x2)) ((-1))) (xqv Q))))))) ∧ (¬ (¬ (x2) = (0)) → ((0 ≤ ((x1) + (x2)) ∧ ((x1) + (x2)) < 264) ∧ ((0 ≤ (((x1) + (30)) + (x2)) ∧ (((x1) + (30)) + (x2)) < 264) ∧ (xPT (xup (xup (G1) (140) ((x1) + (x2)) (0)) (140) (((x1) + (30)) + (x2)) ((-1))) → xW X d 170 30 [.ref (131), vi (x1), vi (x2 + 1)] [] (xup (xup (G1) (140) ((x1) + (x2)) (0)) (140) (((x1) + (30)) + (x2)) ((-1))) (xqv Q)))))))))))) : xW X d 170 30 [.ref (131), vi (x1), vi (x2)] [] F (xqv Q) := by
  refine xw_iload_n (n := 31) (show xlook 170 30 = some (30, .iload_n 2, 1, 0, 0, 0, 0) from xlk (by decide +kernel)) rfl rfl ?_
  refine xw_aload_n (n := 32) (show xlook 170 31 = some (31, .aload_n 0, 1, 0, 0, 0, 0) from xlk (by decide +kernel)) rfl rfl ?_
  obtain ⟨j1, hj1, rr1, G1, hm1, hG1, t⟩ := t
  obtain ⟨y1, rfl, t⟩ := t
  refine xw_callv (dk := j1) (o := 131) (as := []) (show xlook 170 32 = some (32, .invokevirtual 161, 3, 154, 1, 0, 169) from xlk (by decide +kernel)) (by decide) hj1 ⟨Nat.le_of_ble_eq_true rfl, Nat.le_of_ble_eq_true rfl, Nat.le_of_ble_eq_true rfl⟩ ⟨xob_12.1, xob_12.2, by decide⟩ rfl hm1 (n := 35) rfl ?_
  show xW X d 170 35 [.ref (131), vi (x1), vi (x2)] [vi (y1), vi (x2)] G1 (xqv Q)
  obtain ⟨q0, q1, t⟩ := t
  refine xw_icmp_ge (n := 38) (m := 87) (show xlook 170 35 = some (35, .if_icmp .ge 52, 3, 87, 0, 0, 0) from xlk (by decide +kernel)) rfl rfl q0 q1 ⟨fun c => ?_, fun c => ?_⟩
  · replace t := t.1 c
    refine xw_iload_n (n := 88) (show xlook 170 87 = some (87, .iload_n 1, 1, 0, 0, 0, 0) from xlk (by decide +kernel)) rfl rfl ?_
    obtain ⟨q0, t⟩ := t
    refine xw_if_ne (n := 91) (m := 96) (show xlook 170 88 = some (88, .ifCond .ne 8, 3, 96, 0, 0, 0) from xlk (by decide +kernel)) rfl rfl q0 ⟨fun c => ?_, fun c => ?_⟩
    · replace t := t.1 c
      exact xw_return hG1 (show xlook 170 96 = some (96, .return_, 1, 0, 0, 0, 0) from xlk (by decide +kernel)) rfl (t hG1)
    · replace t := t.2 c
      refine xw_aload_n (n := 92) (show xlook 170 91 = some (91, .aload_n 0, 1, 0, 0, 0, 0) from xlk (by decide +kernel)) rfl rfl ?_
      refine xw_iconst (n := 93) (show xlook 170 92 = some (92, .iconst 0, 1, 0, 0, 0, 0) from xlk (by decide +kernel)) rfl ?_
      refine xw_puti (show xlook 170 93 = some (93, .putfield 206, 3, 12, 20, 0, 244) from xlk (by decide +kernel)) (xobf xob_12 (by decide) (by decide)) rfl (n := 96) rfl ?_
      exact xw_return (xPT_fld (k := 20) hG1 xob_12 (by decide) (by decide)) (show xlook 170 96 = some (96, .return_, 1, 0, 0, 0, 0) from xlk (by decide +kernel)) rfl (t (xPT_fld (k := 20) hG1 xob_12 (by decide) (by decide)))
  · replace t := t.2 c
    refine xw_aload_n (n := 39) (show xlook 170 38 = some (38, .aload_n 0, 1, 0, 0, 0, 0) from xlk (by decide +kernel)) rfl rfl ?_
    refine xw_getr (q := 140) (show xlook 170 39 = some (39, .getfield 42, 3, 12, 18, 0, 229) from xlk (by decide +kernel)) (by decide) (xobf xob_12 (by decide) (by decide)) rfl (xPT_get (k := 18) (f := 9) hG1 xob_12 (by decide)) (by have := (xtg_12_18 _ xob_12.1 xob_12.2).1.1; omega) (n := 42) rfl ?_
    refine xw_iload_n (n := 43) (show xlook 170 42 = some (42, .iload_n 1, 1, 0, 0, 0, 0) from xlk (by decide +kernel)) rfl rfl ?_
    refine xw_iload_n (n := 44) (show xlook 170 43 = some (43, .iload_n 2, 1, 0, 0, 0, 0) from xlk (by decide +kernel)) rfl rfl ?_
    refine xw_iadd (n := 45) (show xlook 170 44 = some (44, .iadd, 1, 0, 0, 0, 0) from xlk (by decide +kernel)) rfl ?_
    refine xw_iload_n (n := 46) (show xlook 170 45 = some (45, .iload_n 2, 1, 0, 0, 0, 0) from xlk (by decide +kernel)) rfl rfl ?_
    obtain ⟨q0, t⟩ := t
    refine xw_if_ne (n := 49) (m := 53) (show xlook 170 46 = some (46, .ifCond .ne 7, 3, 53, 0, 0, 0) from xlk (by decide +kernel)) rfl rfl q0 ⟨fun c => ?_, fun c => ?_⟩
    · replace t := t.1 c
      refine xw_aload_n (n := 54) (show xlook 170 53 = some (53, .aload_n 0, 1, 0, 0, 0, 0) from xlk (by decide +kernel)) rfl rfl ?_
      refine xw_iload_n (n := 55) (show xlook 170 54 = some (54, .iload_n 1, 1, 0, 0, 0, 0) from xlk (by decide +kernel)) rfl rfl ?_
      refine xw_iload_n (n := 56) (show xlook 170 55 = some (55, .iload_n 2, 1, 0, 0, 0, 0) from xlk (by decide +kernel)) rfl rfl ?_
      refine xw_iconst (n := 57) (show xlook 170 56 = some (56, .iconst 1, 1, 0, 0, 0, 0) from xlk (by decide +kernel)) rfl ?_
      refine xw_isub (n := 58) (show xlook 170 57 = some (57, .isub, 1, 0, 0, 0, 0) from xlk (by decide +kernel)) rfl ?_
      obtain ⟨j2, hj2, rr2, G2, hm2, hG2, t⟩ := t
      obtain ⟨y2, rfl, t⟩ := t
      refine xw_callv (dk := j2) (o := 131) (as := [vi (x1), vi ((x2) - (1))]) (show xlook 170 58 = some (58, .invokevirtual 203, 3, 171, 3, 0, 179) from xlk (by decide +kernel)) (by decide) hj2 ⟨Nat.le_of_ble_eq_true rfl, Nat.le_of_ble_eq_true rfl, Nat.le_of_ble_eq_true rfl⟩ ⟨xob_12.1, xob_12.2, by decide⟩ rfl hm2 (n := 61) rfl ?_
      show xW X d 170 61 [.ref (131), vi (x1), vi (x2)] [vi (y2), vi ((x1) + (x2)), .ref (140)] G2 (xqv Q)
      refine xw_aload_n (n := 62) (show xlook 170 61 = some (61, .aload_n 0, 1, 0, 0, 0, 0) from xlk (by decide +kernel)) rfl rfl ?_
      refine xw_getr (q := 132) (show xlook 170 62 = some (62, .getfield 13, 3, 12, 1, 0, 220) from xlk (by decide +kernel)) (by decide) (xobf xob_12 (by decide) (by decide)) rfl (xPT_get (k := 1) (f := 1) hG2 xob_12 (by decide)) (by have := (xtg_12_1 _ xob_12.1 xob_12.2).1.1; omega) (n := 65) rfl ?_
      refine xw_iconst (n := 66) (show xlook 170 65 = some (65, .iconst 2, 1, 0, 0, 0, 0) from xlk (by decide +kernel)) rfl ?_
      refine xw_iald (show xlook 170 66 = some (66, .iaload, 1, 0, 0, 0, 0) from xlk (by decide +kernel)) (xtg_12_1 _ xob_12.1 xob_12.2).1 (by rw [(xtg_12_1 _ xob_12.1 xob_12.2).2]; decide) (n := 67) rfl ?_
      refine xw_isub (n := 68) (show xlook 170 67 = some (67, .isub, 1, 0, 0, 0, 0) from xlk (by decide +kernel)) rfl ?_
      obtain ⟨q1, t⟩ := t
      refine xw_iast (show xlook 170 68 = some (68, .iastore, 1, 0, 0, 0, 0) from xlk (by decide +kernel)) (xtg_12_18 _ xob_12.1 xob_12.2).1 (by rw [(xtg_12_18 _ xob_12.1 xob_12.2).2]; exact q1) (n := 69) rfl ?_
      refine xw_aload_n (n := 70) (show xlook 170 69 = some (69, .aload_n 0, 1, 0, 0, 0, 0) from xlk (by decide +kernel)) rfl rfl ?_
      refine xw_getr (q := 140) (show xlook 170 70 = some (70, .getfield 42, 3, 12, 18, 0, 229) from xlk (by decide +kernel)) (by decide) (xobf xob_12 (by decide) (by decide)) rfl (xPT_get (k := 18) (f := 9) (xPT_arr hG2 (Or.inl (xtg_12_18 _ xob_12.1 xob_12.2).1.2)) xob_12 (by decide)) (by have := (xtg_12_18 _ xob_12.1 xob_12.2).1.1; omega) (n := 73) rfl ?_
      refine xw_iload_n (n := 74) (show xlook 170 73 = some (73, .iload_n 1, 1, 0, 0, 0, 0) from xlk (by decide +kernel)) rfl rfl ?_
      refine xw_bipush (n := 76) (show xlook 170 74 = some (74, .bipush 30, 2, 0, 0, 0, 0) from xlk (by decide +kernel)) rfl (by decide) ?_
      refine xw_iadd (n := 77) (show xlook 170 76 = some (76, .iadd, 1, 0, 0, 0, 0) from xlk (by decide +kernel)) rfl ?_
      refine xw_iload_n (n := 78) (show xlook 170 77 = some (77, .iload_n 2, 1, 0, 0, 0, 0) from xlk (by decide +kernel)) rfl rfl ?_
      refine xw_iadd (n := 79) (show xlook 170 78 = some (78, .iadd, 1, 0, 0, 0, 0) from xlk (by decide +kernel)) rfl ?_
      refine xw_iconst (n := 80) (show xlook 170 79 = some (79, .iconst (-1), 1, 0, 0, 0, 0) from xlk (by decide +kernel)) rfl ?_
      obtain ⟨q1, t⟩ := t
      refine xw_iast (show xlook 170 80 = some (80, .iastore, 1, 0, 0, 0, 0) from xlk (by decide +kernel)) (xtg_12_18 _ xob_12.1 xob_12.2).1 (by rw [(xtg_12_18 _ xob_12.1 xob_12.2).2]; exact q1) (n := 81) rfl ?_
      refine xw_iinc (n := 84) (show xlook 170 81 = some (81, .iinc 2 1, 3, 0, 0, 0, 0) from xlk (by decide +kernel)) rfl (ls' := [.ref (131), vi (x1), vi (x2 + 1)]) rfl rfl ?_
      refine xw_goto (m := 30) (show xlook 170 84 = some (84, .goto (-54), 3, 30, 0, 0, 0) from xlk (by decide +kernel)) rfl ?_
      exact t (xPT_arr (xPT_arr hG2 (Or.inl (xtg_12_18 _ xob_12.1 xob_12.2).1.2)) (Or.inl (xtg_12_18 _ xob_12.1 xob_12.2).1.2))
    · replace t := t.2 c
      refine xw_iconst (n := 50) (show xlook 170 49 = some (49, .iconst 0, 1, 0, 0, 0, 0) from xlk (by decide +kernel)) rfl ?_
      refine xw_goto (m := 68) (show xlook 170 50 = some (50, .goto 18, 3, 68, 0, 0, 0) from xlk (by decide +kernel)) rfl ?_
      obtain ⟨q1, t⟩ := t
      refine xw_iast (show xlook 170 68 = some (68, .iastore, 1, 0, 0, 0, 0) from xlk (by decide +kernel)) (xtg_12_18 _ xob_12.1 xob_12.2).1 (by rw [(xtg_12_18 _ xob_12.1 xob_12.2).2]; exact q1) (n := 69) rfl ?_
      refine xw_aload_n (n := 70) (show xlook 170 69 = some (69, .aload_n 0, 1, 0, 0, 0, 0) from xlk (by decide +kernel)) rfl rfl ?_
      refine xw_getr (q := 140) (show xlook 170 70 = some (70, .getfield 42, 3, 12, 18, 0, 229) from xlk (by decide +kernel)) (by decide) (xobf xob_12 (by decide) (by decide)) rfl (xPT_get (k := 18) (f := 9) (xPT_arr hG1 (Or.inl (xtg_12_18 _ xob_12.1 xob_12.2).1.2)) xob_12 (by decide)) (by have := (xtg_12_18 _ xob_12.1 xob_12.2).1.1; omega) (n := 73) rfl ?_
      refine xw_iload_n (n := 74) (show xlook 170 73 = some (73, .iload_n 1, 1, 0, 0, 0, 0) from xlk (by decide +kernel)) rfl rfl ?_
      refine xw_bipush (n := 76) (show xlook 170 74 = some (74, .bipush 30, 2, 0, 0, 0, 0) from xlk (by decide +kernel)) rfl (by decide) ?_
      refine xw_iadd (n := 77) (show xlook 170 76 = some (76, .iadd, 1, 0, 0, 0, 0) from xlk (by decide +kernel)) rfl ?_
      refine xw_iload_n (n := 78) (show xlook 170 77 = some (77, .iload_n 2, 1, 0, 0, 0, 0) from xlk (by decide +kernel)) rfl rfl ?_
      refine xw_iadd (n := 79) (show xlook 170 78 = some (78, .iadd, 1, 0, 0, 0, 0) from xlk (by decide +kernel)) rfl ?_
      refine xw_iconst (n := 80) (show xlook 170 79 = some (79, .iconst (-1), 1, 0, 0, 0, 0) from xlk (by decide +kernel)) rfl ?_
      obtain ⟨q1, t⟩ := t
      refine xw_iast (show xlook 170 80 = some (80, .iastore, 1, 0, 0, 0, 0) from xlk (by decide +kernel)) (xtg_12_18 _ xob_12.1 xob_12.2).1 (by rw [(xtg_12_18 _ xob_12.1 xob_12.2).2]; exact q1) (n := 81) rfl ?_
      refine xw_iinc (n := 84) (show xlook 170 81 = some (81, .iinc 2 1, 3, 0, 0, 0, 0) from xlk (by decide +kernel)) rfl (ls' := [.ref (131), vi (x1), vi (x2 + 1)]) rfl rfl ?_
      refine xw_goto (m := 30) (show xlook 170 84 = some (84, .goto (-54), 3, 30, 0, 0, 0) from xlk (by decide +kernel)) rfl ?_
      exact t (xPT_arr (xPT_arr hG1 (Or.inl (xtg_12_18 _ xob_12.1 xob_12.2).1.2)) (Or.inl (xtg_12_18 _ xob_12.1 xob_12.2).1.2))

theorem s171_0 {X : List Int32} {d : Nat} {F : XF} {Q : Int → XF → Prop} {x1 : Int} {x2 : Int} (hPT : xPT F)  (t : (0 ≤ ((x1) + (x2)) ∧ ((x1) + (x2)) < 264) ∧ ((0 ≤ ((78) + (x2)) ∧ ((78) + (x2)) < 163) ∧ (xPT (F) → Q (((F) (140) ((x1) + (x2))) - ((F) (132) ((78) + (x2)))) (F)))) : xW X d 171 0 [.ref (131), vi (x1), vi (x2)] [] F (xqi Q) := by
  refine xw_aload_n (n := 1) (show xlook 171 0 = some (0, .aload_n 0, 1, 0, 0, 0, 0) from xlk (by decide +kernel)) rfl rfl ?_
  refine xw_getr (q := 140) (show xlook 171 1 = some (1, .getfield 42, 3, 12, 18, 0, 229) from xlk (by decide +kernel)) (by decide) (xobf xob_12 (by decide) (by decide)) rfl (xPT_get (k := 18) (f := 9) hPT xob_12 (by decide)) (by have := (xtg_12_18 _ xob_12.1 xob_12.2).1.1; omega) (n := 4) rfl ?_
  refine xw_iload_n (n := 5) (show xlook 171 4 = some (4, .iload_n 1, 1, 0, 0, 0, 0) from xlk (by decide +kernel)) rfl rfl ?_
  refine xw_iload_n (n := 6) (show xlook 171 5 = some (5, .iload_n 2, 1, 0, 0, 0, 0) from xlk (by decide +kernel)) rfl rfl ?_
  refine xw_iadd (n := 7) (show xlook 171 6 = some (6, .iadd, 1, 0, 0, 0, 0) from xlk (by decide +kernel)) rfl ?_
  obtain ⟨q1, t⟩ := t
  refine xw_iald (show xlook 171 7 = some (7, .iaload, 1, 0, 0, 0, 0) from xlk (by decide +kernel)) (xtg_12_18 _ xob_12.1 xob_12.2).1 (by rw [(xtg_12_18 _ xob_12.1 xob_12.2).2]; exact q1) (n := 8) rfl ?_
  refine xw_aload_n (n := 9) (show xlook 171 8 = some (8, .aload_n 0, 1, 0, 0, 0, 0) from xlk (by decide +kernel)) rfl rfl ?_
  refine xw_getr (q := 132) (show xlook 171 9 = some (9, .getfield 13, 3, 12, 1, 0, 220) from xlk (by decide +kernel)) (by decide) (xobf xob_12 (by decide) (by decide)) rfl (xPT_get (k := 1) (f := 1) hPT xob_12 (by decide)) (by have := (xtg_12_1 _ xob_12.1 xob_12.2).1.1; omega) (n := 12) rfl ?_
  refine xw_bipush (n := 14) (show xlook 171 12 = some (12, .bipush 78, 2, 0, 0, 0, 0) from xlk (by decide +kernel)) rfl (by decide) ?_
  refine xw_iload_n (n := 15) (show xlook 171 14 = some (14, .iload_n 2, 1, 0, 0, 0, 0) from xlk (by decide +kernel)) rfl rfl ?_
  refine xw_iadd (n := 16) (show xlook 171 15 = some (15, .iadd, 1, 0, 0, 0, 0) from xlk (by decide +kernel)) rfl ?_
  obtain ⟨q1, t⟩ := t
  refine xw_iald (show xlook 171 16 = some (16, .iaload, 1, 0, 0, 0, 0) from xlk (by decide +kernel)) (xtg_12_1 _ xob_12.1 xob_12.2).1 (by rw [(xtg_12_1 _ xob_12.1 xob_12.2).2]; exact q1) (n := 17) rfl ?_
  refine xw_isub (n := 18) (show xlook 171 17 = some (17, .isub, 1, 0, 0, 0, 0) from xlk (by decide +kernel)) rfl ?_
  exact xw_ireturn hPT (show xlook 171 18 = some (18, .ireturn, 1, 0, 0, 0, 0) from xlk (by decide +kernel)) rfl (t hPT)
theorem m171 {X : List Int32} {d : Nat} {F : XF} {Q : Int → XF → Prop} {x1 : Int} {x2 : Int} (hPT : xPT F)  (t : (0 ≤ ((x1) + (x2)) ∧ ((x1) + (x2)) < 264) ∧ ((0 ≤ ((78) + (x2)) ∧ ((78) + (x2)) < 163) ∧ (xPT (F) → Q (((F) (140) ((x1) + (x2))) - ((F) (132) ((78) + (x2)))) (F)))) : xMI X d 171 [.ref (131), vi (x1), vi (x2)] F Q := by
  show xW X d 171 0 [.ref (131), vi (x1), vi (x2)] [] F (xqi Q)
  exact s171_0 hPT  t

theorem s172_0 {X : List Int32} {d : Nat} {F : XF} {Q : Int → XF → Prop} {x1 : Int} {x2 : Int} (hPT : xPT F)  (t : ∃ (j1 : Nat), j1 < d ∧ xMI X j1 171 [.ref (131), vi (x1), vi (x2)] (F) (fun (y1 : Int) (G1 : XF) => (inR (y1) ∧ inR ((G1) (132) 0) ∧ ((((y1) < ((G1) (132) 0)) → (xPT (G1) → Q (0) (G1))) ∧ (¬ ((y1) < ((G1) (132) 0)) → (xPT (G1) → Q (1) (G1))))))) : xW X d 172 0 [.ref (131), vi (x1), vi (x2)] [] F (xqi Q) := by
  refine xw_aload_n (n := 1) (show xlook 172 0 = some (0, .aload_n 0, 1, 0, 0, 0, 0) from xlk (by decide +kernel)) rfl rfl ?_
  refine xw_iload_n (n := 2) (show xlook 172 1 = some (1, .iload_n 1, 1, 0, 0, 0, 0) from xlk (by decide +kernel)) rfl rfl ?_
  refine xw_iload_n (n := 3) (show xlook 172 2 = some (2, .iload_n 2, 1, 0, 0, 0, 0) from xlk (by decide +kernel)) rfl rfl ?_
  obtain ⟨j1, hj1, rr1, G1, hm1, hG1, t⟩ := t
  obtain ⟨y1, rfl, t⟩ := t
  refine xw_callv (dk := j1) (o := 131) (as := [vi (x1), vi (x2)]) (show xlook 172 3 = some (3, .invokevirtual 203, 3, 171, 3, 0, 179) from xlk (by decide +kernel)) (by decide) hj1 ⟨Nat.le_of_ble_eq_true rfl, Nat.le_of_ble_eq_true rfl, Nat.le_of_ble_eq_true rfl⟩ ⟨xob_12.1, xob_12.2, by decide⟩ rfl hm1 (n := 6) rfl ?_
  show xW X d 172 6 [.ref (131), vi (x1), vi (x2)] [vi (y1)] G1 (xqi Q)
  refine xw_aload_n (n := 7) (show xlook 172 6 = some (6, .aload_n 0, 1, 0, 0, 0, 0) from xlk (by decide +kernel)) rfl rfl ?_
  refine xw_getr (q := 132) (show xlook 172 7 = some (7, .getfield 13, 3, 12, 1, 0, 220) from xlk (by decide +kernel)) (by decide) (xobf xob_12 (by decide) (by decide)) rfl (xPT_get (k := 1) (f := 1) hG1 xob_12 (by decide)) (by have := (xtg_12_1 _ xob_12.1 xob_12.2).1.1; omega) (n := 10) rfl ?_
  refine xw_iconst (n := 11) (show xlook 172 10 = some (10, .iconst 0, 1, 0, 0, 0, 0) from xlk (by decide +kernel)) rfl ?_
  refine xw_iald (show xlook 172 11 = some (11, .iaload, 1, 0, 0, 0, 0) from xlk (by decide +kernel)) (xtg_12_1 _ xob_12.1 xob_12.2).1 (by rw [(xtg_12_1 _ xob_12.1 xob_12.2).2]; decide) (n := 12) rfl ?_
  obtain ⟨q0, q1, t⟩ := t
  refine xw_icmp_lt (n := 15) (m := 19) (show xlook 172 12 = some (12, .if_icmp .lt 7, 3, 19, 0, 0, 0) from xlk (by decide +kernel)) rfl rfl q0 q1 ⟨fun c => ?_, fun c => ?_⟩
  · replace t := t.1 c
    refine xw_iconst (n := 20) (show xlook 172 19 = some (19, .iconst 0, 1, 0, 0, 0, 0) from xlk (by decide +kernel)) rfl ?_
    exact xw_zreturn hG1 (show xlook 172 20 = some (20, .ireturn, 1, 0, 0, 0, 0) from xlk (by decide +kernel)) rfl (by decide) (t hG1)
  · replace t := t.2 c
    refine xw_iconst (n := 16) (show xlook 172 15 = some (15, .iconst 1, 1, 0, 0, 0, 0) from xlk (by decide +kernel)) rfl ?_
    refine xw_goto (m := 20) (show xlook 172 16 = some (16, .goto 4, 3, 20, 0, 0, 0) from xlk (by decide +kernel)) rfl ?_
    exact xw_zreturn hG1 (show xlook 172 20 = some (20, .ireturn, 1, 0, 0, 0, 0) from xlk (by decide +kernel)) rfl (by decide) (t hG1)
theorem m172 {X : List Int32} {d : Nat} {F : XF} {Q : Int → XF → Prop} {x1 : Int} {x2 : Int} (hPT : xPT F)  (t : ∃ (j1 : Nat), j1 < d ∧ xMI X j1 171 [.ref (131), vi (x1), vi (x2)] (F) (fun (y1 : Int) (G1 : XF) => (inR (y1) ∧ inR ((G1) (132) 0) ∧ ((((y1) < ((G1) (132) 0)) → (xPT (G1) → Q (0) (G1))) ∧ (¬ ((y1) < ((G1) (132) 0)) → (xPT (G1) → Q (1) (G1))))))) : xMI X d 172 [.ref (131), vi (x1), vi (x2)] F Q := by
  show xW X d 172 0 [.ref (131), vi (x1), vi (x2)] [] F (xqi Q)
  exact s172_0 hPT  t

theorem s173_0 {X : List Int32} {d : Nat} {F : XF} {Q : Int → XF → Prop} {x1 : Int} {x2 : Int} {w3 : Value} (hPT : xPT F)  (t : xPT (F) → xW X d 173 2 [.ref (131), vi (x1), vi (x2), vi (0)] [] (F) (xqi Q)) : xW X d 173 0 [.ref (131), vi (x1), vi (x2), w3] [] F (xqi Q) := by
  refine xw_iconst (n := 1) (show xlook 173 0 = some (0, .iconst 0, 1, 0, 0, 0, 0) from xlk (by decide +kernel)) rfl ?_
  refine xw_istore_n (n := 2) (show xlook 173 1 = some (1, .istore_n 3, 1, 0, 0, 0, 0) from xlk (by decide +kernel)) rfl (ls' := [.ref (131), vi (x1), vi (x2), vi (0)]) (Nat.le_of_ble_eq_true rfl) rfl ?_
  exact t hPT
theorem m173 {X : List Int32} {d : Nat} {F : XF} {Q : Int → XF → Prop} {x1 : Int} {x2 : Int} (hPT : xPT F)  (t : xPT (F) → xW X d 173 2 [.ref (131), vi (x1), vi (x2), vi (0)] [] (F) (xqi Q)) : xMI X d 173 [.ref (131), vi (x1), vi (x2)] F Q := by
  show xW X d 173 0 [.ref (131), vi (x1), vi (x2), xU0] [] F (xqi Q)
  exact s173_0 hPT  t

theorem s173_2 {X : List Int32} {d : Nat} {F : XF} {Q : Int → XF → Prop} {x1 : Int} {x2 : Int} {x3 : Int} (hPT : xPT F)  (t : inR (x3) ∧ inR ((F) (131) 17) ∧ (((((F) (131) 17) ≤ (x3)) → (xPT (F) → Q ((-1)) (F))) ∧ (¬ (((F) (131) 17) ≤ (x3)) → ((0 ≤ (x3) ∧ (x3) < 30) ∧ ((0 ≤ ((x1) + ((F) (137) (x3))) ∧ ((x1) + ((F) (137) (x3))) < 264) ∧ (∃ (j1 : Nat), j1 < d ∧ xMI X j1 164 [.ref (131), vi (x2)] (F) (fun (y1 : Int) (G1 : XF) => (inR ((F) (140) ((x1) + ((F) (137) (x3)))) ∧ inR (y1) ∧ (((((F) (140) ((x1) + ((F) (137) (x3)))) ≤ (y1)) → (xPT (G1) → xW X d 173 2 [.ref (131), vi (x1), vi (x2), vi (x3 + 1)] [] (G1) (xqi Q))) ∧ (¬ (((F) (140) ((x1) + ((F) (137) (x3)))) ≤ (y1)) → ((0 ≤ (x3) ∧ (x3) < 30) ∧ (∃ (j2 : Nat), j2 < d ∧ xMI X j2 171 [.ref (131), vi (x1), vi ((G1) (138) (x3))] (G1) (fun (y2 : Int) (G2 : XF) => (∃ (j3 : Nat), j3 < d ∧ xMI X j3 164 [.ref (131), vi (x2)] (G2) (fun (y3 : Int) (G3 : XF) => (∃ (j4 : Nat), j4 < d ∧ xMI X j4 165 [.ref (131), vi (x2)] (G3) (fun (y4 : Int) (G4 : XF) => (inR (y2) ∧ inR ((y3) + (y4)) ∧ (((((y3) + (y4)) ≤ (y2)) → (xPT (G4) → xW X d 173 2 [.ref (131), vi (x1), vi (x2), vi (x3 + 1)] [] (G4) (xqi Q))) ∧ (¬ (((y3) + (y4)) ≤ (y2)) → (xPT (G4) → Q (x3) (G4)))))))))))))))))))))) : xW X d 173 2 [.ref (131), vi (x1), vi (x2), vi (x3)] [] F (xqi Q) := by
  refine xw_iload_n (n := 3) (show xlook 173 2 = some (2, .iload_n 3, 1, 0, 0, 0, 0) from xlk (by decide +kernel)) rfl rfl ?_
  refine xw_aload_n (n := 4) (show xlook 173 3 = some (3, .aload_n 0, 1, 0, 0, 0, 0) from xlk (by decide +kernel)) rfl rfl ?_
  refine xw_geti (show xlook 173 4 = some (4, .getfield 167, 3, 12, 17, 0, 243) from xlk (by decide +kernel)) (by decide) (xobf xob_12 (by decide) (by decide)) rfl (n := 7) rfl ?_
  obtain ⟨q0, q1, t⟩ := t
  refine xw_icmp_ge (n := 10) (m := 64) (show xlook 173 7 = some (7, .if_icmp .ge 57, 3, 64, 0, 0, 0) from xlk (by decide +kernel)) rfl rfl q0 q1 ⟨fun c => ?_, fun c => ?_⟩
  · replace t := t.1 c
    refine xw_iconst (n := 65) (show xlook 173 64 = some (64, .iconst (-1), 1, 0, 0, 0, 0) from xlk (by decide +kernel)) rfl ?_
    exact xw_ireturn hPT (show xlook 173 65 = some (65, .ireturn, 1, 0, 0, 0, 0) from xlk (by decide +kernel)) rfl (t hPT)
  · replace t := t.2 c
    refine xw_aload_n (n := 11) (show xlook 173 10 = some (10, .aload_n 0, 1, 0, 0, 0, 0) from xlk (by decide +kernel)) rfl rfl ?_
    refine xw_getr (q := 140) (show xlook 173 11 = some (11, .getfield 42, 3, 12, 18, 0, 229) from xlk (by decide +kernel)) (by decide) (xobf xob_12 (by decide) (by decide)) rfl (xPT_get (k := 18) (f := 9) hPT xob_12 (by decide)) (by have := (xtg_12_18 _ xob_12.1 xob_12.2).1.1; omega) (n := 14) rfl ?_
    refine xw_iload_n (n := 15) (show xlook 173 14 = some (14, .iload_n 1, 1, 0, 0, 0, 0) from xlk (by decide +kernel)) rfl rfl ?_
    refine xw_aload_n (n := 16) (show xlook 173 15 = some (15, .aload_n 0, 1, 0, 0, 0, 0) from xlk (by decide +kernel)) rfl rfl ?_
    refine xw_getr (q := 137) (show xlook 173 16 = some (16, .getfield 33, 3, 12, 14, 0, 226) from xlk (by decide +kernel)) (by decide) (xobf xob_12 (by decide) (by decide)) rfl (xPT_get (k := 14) (f := 6) hPT xob_12 (by decide)) (by have := (xtg_12_14 _ xob_12.1 xob_12.2).1.1; omega) (n := 19) rfl ?_
    refine xw_iload_n (n := 20) (show xlook 173 19 = some (19, .iload_n 3, 1, 0, 0, 0, 0) from xlk (by decide +kernel)) rfl rfl ?_
    obtain ⟨q1, t⟩ := t
    refine xw_iald (show xlook 173 20 = some (20, .iaload, 1, 0, 0, 0, 0) from xlk (by decide +kernel)) (xtg_12_14 _ xob_12.1 xob_12.2).1 (by rw [(xtg_12_14 _ xob_12.1 xob_12.2).2]; exact q1) (n := 21) rfl ?_
    refine xw_iadd (n := 22) (show xlook 173 21 = some (21, .iadd, 1, 0, 0, 0, 0) from xlk (by decide +kernel)) rfl ?_
    obtain ⟨q1, t⟩ := t
    refine xw_iald (show xlook 173 22 = some (22, .iaload, 1, 0, 0, 0, 0) from xlk (by decide +kernel)) (xtg_12_18 _ xob_12.1 xob_12.2).1 (by rw [(xtg_12_18 _ xob_12.1 xob_12.2).2]; exact q1) (n := 23) rfl ?_
    refine xw_aload_n (n := 24) (show xlook 173 23 = some (23, .aload_n 0, 1, 0, 0, 0, 0) from xlk (by decide +kernel)) rfl rfl ?_
    refine xw_iload_n (n := 25) (show xlook 173 24 = some (24, .iload_n 2, 1, 0, 0, 0, 0) from xlk (by decide +kernel)) rfl rfl ?_
    obtain ⟨j1, hj1, rr1, G1, hm1, hG1, t⟩ := t
    obtain ⟨y1, rfl, t⟩ := t
    refine xw_callv (dk := j1) (o := 131) (as := [vi (x2)]) (show xlook 173 25 = some (25, .invokevirtual 209, 3, 164, 2, 0, 180) from xlk (by decide +kernel)) (by decide) hj1 ⟨Nat.le_of_ble_eq_true rfl, Nat.le_of_ble_eq_true rfl, Nat.le_of_ble_eq_true rfl⟩ ⟨xob_12.1, xob_12.2, by decide⟩ rfl hm1 (n := 28) rfl ?_
    show xW X d 173 28 [.ref (131), vi (x1), vi (x2), vi (x3)] [vi (y1), vi ((F) (140) ((x1) + ((F) (137) (x3))))] G1 (xqi Q)
    obtain ⟨q0, q1, t⟩ := t
    refine xw_icmp_le (n := 31) (m := 58) (show xlook 173 28 = some (28, .if_icmp .le 30, 3, 58, 0, 0, 0) from xlk (by decide +kernel)) rfl rfl q0 q1 ⟨fun c => ?_, fun c => ?_⟩
    · replace t := t.1 c
      refine xw_iinc (n := 61) (show xlook 173 58 = some (58, .iinc 3 1, 3, 0, 0, 0, 0) from xlk (by decide +kernel)) rfl (ls' := [.ref (131), vi (x1), vi (x2), vi (x3 + 1)]) rfl rfl ?_
      refine xw_goto (m := 2) (show xlook 173 61 = some (61, .goto (-59), 3, 2, 0, 0, 0) from xlk (by decide +kernel)) rfl ?_
      exact t hG1
    · replace t := t.2 c
      refine xw_aload_n (n := 32) (show xlook 173 31 = some (31, .aload_n 0, 1, 0, 0, 0, 0) from xlk (by decide +kernel)) rfl rfl ?_
      refine xw_iload_n (n := 33) (show xlook 173 32 = some (32, .iload_n 1, 1, 0, 0, 0, 0) from xlk (by decide +kernel)) rfl rfl ?_
      refine xw_aload_n (n := 34) (show xlook 173 33 = some (33, .aload_n 0, 1, 0, 0, 0, 0) from xlk (by decide +kernel)) rfl rfl ?_
      refine xw_getr (q := 138) (show xlook 173 34 = some (34, .getfield 36, 3, 12, 15, 0, 227) from xlk (by decide +kernel)) (by decide) (xobf xob_12 (by decide) (by decide)) rfl (xPT_get (k := 15) (f := 7) hG1 xob_12 (by decide)) (by have := (xtg_12_15 _ xob_12.1 xob_12.2).1.1; omega) (n := 37) rfl ?_
      refine xw_iload_n (n := 38) (show xlook 173 37 = some (37, .iload_n 3, 1, 0, 0, 0, 0) from xlk (by decide +kernel)) rfl rfl ?_
      obtain ⟨q1, t⟩ := t
      refine xw_iald (show xlook 173 38 = some (38, .iaload, 1, 0, 0, 0, 0) from xlk (by decide +kernel)) (xtg_12_15 _ xob_12.1 xob_12.2).1 (by rw [(xtg_12_15 _ xob_12.1 xob_12.2).2]; exact q1) (n := 39) rfl ?_
      obtain ⟨j2, hj2, rr2, G2, hm2, hG2, t⟩ := t
      obtain ⟨y2, rfl, t⟩ := t
      refine xw_callv (dk := j2) (o := 131) (as := [vi (x1), vi ((G1) (138) (x3))]) (show xlook 173 39 = some (39, .invokevirtual 203, 3, 171, 3, 0, 179) from xlk (by decide +kernel)) (by decide) hj2 ⟨Nat.le_of_ble_eq_true rfl, Nat.le_of_ble_eq_true rfl, Nat.le_of_ble_eq_true rfl⟩ ⟨xob_12.1, xob_12.2, by decide⟩ rfl hm2 (n := 42) rfl ?_
      show xW X d 173 42 [.ref (131), vi (x1), vi (x2), vi (x3)] [vi (y2)] G2 (xqi Q)
      refine xw_aload_n (n := 43) (show xlook 173 42 = some (42, .aload_n 0, 1, 0, 0, 0, 0) from xlk (by decide +kernel)) rfl rfl ?_
      refine xw_iload_n (n := 44) (show xlook 173 43 = some (43, .iload_n 2, 1, 0, 0, 0, 0) from xlk (by decide +kernel)) rfl rfl ?_
      obtain ⟨j3, hj3, rr3, G3, hm3, hG3, t⟩ := t
      obtain ⟨y3, rfl, t⟩ := t
      refine xw_callv (dk := j3) (o := 131) (as := [vi (x2)]) (show xlook 173 44 = some (44, .invokevirtual 209, 3, 164, 2, 0, 180) from xlk (by decide +kernel)) (by decide) hj3 ⟨Nat.le_of_ble_eq_true rfl, Nat.le_of_ble_eq_true rfl, Nat.le_of_ble_eq_true rfl⟩ ⟨xob_12.1, xob_12.2, by decide⟩ rfl hm3 (n := 47) rfl ?_
      show xW X d 173 47 [.ref (131), vi (x1), vi (x2), vi (x3)] [vi (y3), vi (y2)] G3 (xqi Q)
      refine xw_aload_n (n := 48) (show xlook 173 47 = some (47, .aload_n 0, 1, 0, 0, 0, 0) from xlk (by decide +kernel)) rfl rfl ?_
      refine xw_iload_n (n := 49) (show xlook 173 48 = some (48, .iload_n 2, 1, 0, 0, 0, 0) from xlk (by decide +kernel)) rfl rfl ?_
      obtain ⟨j4, hj4, rr4, G4, hm4, hG4, t⟩ := t
      obtain ⟨y4, rfl, t⟩ := t
      refine xw_callv (dk := j4) (o := 131) (as := [vi (x2)]) (show xlook 173 49 = some (49, .invokevirtual 187, 3, 165, 2, 0, 174) from xlk (by decide +kernel)) (by decide) hj4 ⟨Nat.le_of_ble_eq_true rfl, Nat.le_of_ble_eq_true rfl, Nat.le_of_ble_eq_true rfl⟩ ⟨xob_12.1, xob_12.2, by decide⟩ rfl hm4 (n := 52) rfl ?_
      show xW X d 173 52 [.ref (131), vi (x1), vi (x2), vi (x3)] [vi (y4), vi (y3), vi (y2)] G4 (xqi Q)
      refine xw_iadd (n := 53) (show xlook 173 52 = some (52, .iadd, 1, 0, 0, 0, 0) from xlk (by decide +kernel)) rfl ?_
      obtain ⟨q0, q1, t⟩ := t
      refine xw_icmp_ge (n := 56) (m := 58) (show xlook 173 53 = some (53, .if_icmp .ge 5, 3, 58, 0, 0, 0) from xlk (by decide +kernel)) rfl rfl q0 q1 ⟨fun c => ?_, fun c => ?_⟩
      · replace t := t.1 c
        refine xw_iinc (n := 61) (show xlook 173 58 = some (58, .iinc 3 1, 3, 0, 0, 0, 0) from xlk (by decide +kernel)) rfl (ls' := [.ref (131), vi (x1), vi (x2), vi (x3 + 1)]) rfl rfl ?_
        refine xw_goto (m := 2) (show xlook 173 61 = some (61, .goto (-59), 3, 2, 0, 0, 0) from xlk (by decide +kernel)) rfl ?_
        exact t hG4
      · replace t := t.2 c
        refine xw_iload_n (n := 57) (show xlook 173 56 = some (56, .iload_n 3, 1, 0, 0, 0, 0) from xlk (by decide +kernel)) rfl rfl ?_
        exact xw_ireturn hG4 (show xlook 173 57 = some (57, .ireturn, 1, 0, 0, 0, 0) from xlk (by decide +kernel)) rfl (t hG4)

theorem s174_0 {X : List Int32} {d : Nat} {F : XF} {Q : Int → XF → Prop} {x1 : Int} {x2 : Int} {w3 : Value} {w4 : Value} (hPT : xPT F)  (t : xPT (F) → xW X d 174 2 [.ref (131), vi (x1), vi (x2), vi (0), w4] [] (F) (xqi Q)) : xW X d 174 0 [.ref (131), vi (x1), vi (x2), w3, w4] [] F (xqi Q) := by
  refine xw_iconst (n := 1) (show xlook 174 0 = some (0, .iconst 0, 1, 0, 0, 0, 0) from xlk (by decide +kernel)) rfl ?_
  refine xw_istore_n (n := 2) (show xlook 174 1 = some (1, .istore_n 3, 1, 0, 0, 0, 0) from xlk (by decide +kernel)) rfl (ls' := [.ref (131), vi (x1), vi (x2), vi (0), w4]) (Nat.le_of_ble_eq_true rfl) rfl ?_
  exact t hPT
theorem m174 {X : List Int32} {d : Nat} {F : XF} {Q : Int → XF → Prop} {x1 : Int} {x2 : Int} (hPT : xPT F)  (t : xPT (F) → xW X d 174 2 [.ref (131), vi (x1), vi (x2), vi (0), xU0] [] (F) (xqi Q)) : xMI X d 174 [.ref (131), vi (x1), vi (x2)] F Q := by
  show xW X d 174 0 [.ref (131), vi (x1), vi (x2), xU0, xU0] [] F (xqi Q)
  exact s174_0 hPT  t

theorem s174_2 {X : List Int32} {d : Nat} {F : XF} {Q : Int → XF → Prop} {x1 : Int} {x2 : Int} {x3 : Int} {w4 : Value} (hPT : xPT F)  (t : inR (x3) ∧ inR ((F) (132) 7) ∧ (((((F) (132) 7) ≤ (x3)) → (xPT (F) → Q (0) (F))) ∧ (¬ (((F) (132) 7) ≤ (x3)) → ((0 ≤ ((142) + ((3) * (x3))) ∧ ((142) + ((3) * (x3))) < 163) ∧ (inR ((F) (132) ((142) + ((3) * (x3)))) ∧ inR (x1) ∧ (((¬ ((F) (132) ((142) + ((3) * (x3)))) = (x1)) → (xPT (F) → xW X d 174 2 [.ref (131), vi (x1), vi (x2), vi (x3 + 1), vi ((142) + ((3) * (x3)))] [] (F) (xqi Q))) ∧ (¬ (¬ ((F) (132) ((142) + ((3) * (x3)))) = (x1)) → ((inR (x2)) ∧ ((0 ≤ (((142) + ((3) * (x3))) + (1)) ∧ (((142) + ((3) * (x3))) + (1)) < 163) ∧ ((inR ((F) (132) (((142) + ((3) * (x3))) + (1)))) ∧ ((0 ≤ (((142) + ((3) * (x3))) + (1)) ∧ (((142) + ((3) * (x3))) + (1)) < 163) ∧ ((0 ≤ (((142) + ((3) * (x3))) + (2)) ∧ (((142) + ((3) * (x3))) + (2)) < 163) ∧ ((inR ((((F) (132) (((142) + ((3) * (x3))) + (1))) + ((F) (132) (((142) + ((3) * (x3))) + (2)))) - (1))) ∧ (∃ (j1 : Nat), j1 < d ∧ xMI X j1 132 [vl (x2), vl ((F) (132) (((142) + ((3) * (x3))) + (1))), vl ((((F) (132) (((142) + ((3) * (x3))) + (1))) + ((F) (132) (((142) + ((3) * (x3))) + (2)))) - (1))] (F) (fun (y1 : Int) (G1 : XF) => (inR (y1) ∧ ((((y1) = (0)) → (xPT (G1) → xW X d 174 2 [.ref (131), vi (x1), vi (x2), vi (x3 + 1), vi ((142) + ((3) * (x3)))] [] (G1) (xqi Q))) ∧ (¬ ((y1) = (0)) → (xPT (G1) → Q (1) (G1)))))))))))))))))))) : xW X d 174 2 [.ref (131), vi (x1), vi (x2), vi (x3), w4] [] F (xqi Q) := by
  refine xw_iload_n (n := 3) (show xlook 174 2 = some (2, .iload_n 3, 1, 0, 0, 0, 0) from xlk (by decide +kernel)) rfl rfl ?_
  refine xw_aload_n (n := 4) (show xlook 174 3 = some (3, .aload_n 0, 1, 0, 0, 0, 0) from xlk (by decide +kernel)) rfl rfl ?_
  refine xw_getr (q := 132) (show xlook 174 4 = some (4, .getfield 13, 3, 12, 1, 0, 220) from xlk (by decide +kernel)) (by decide) (xobf xob_12 (by decide) (by decide)) rfl (xPT_get (k := 1) (f := 1) hPT xob_12 (by decide)) (by have := (xtg_12_1 _ xob_12.1 xob_12.2).1.1; omega) (n := 7) rfl ?_
  refine xw_bipush (n := 9) (show xlook 174 7 = some (7, .bipush 7, 2, 0, 0, 0, 0) from xlk (by decide +kernel)) rfl (by decide) ?_
  refine xw_iald (show xlook 174 9 = some (9, .iaload, 1, 0, 0, 0, 0) from xlk (by decide +kernel)) (xtg_12_1 _ xob_12.1 xob_12.2).1 (by rw [(xtg_12_1 _ xob_12.1 xob_12.2).2]; decide) (n := 10) rfl ?_
  obtain ⟨q0, q1, t⟩ := t
  refine xw_icmp_ge (n := 13) (m := 81) (show xlook 174 10 = some (10, .if_icmp .ge 71, 3, 81, 0, 0, 0) from xlk (by decide +kernel)) rfl rfl q0 q1 ⟨fun c => ?_, fun c => ?_⟩
  · replace t := t.1 c
    refine xw_iconst (n := 82) (show xlook 174 81 = some (81, .iconst 0, 1, 0, 0, 0, 0) from xlk (by decide +kernel)) rfl ?_
    exact xw_zreturn hPT (show xlook 174 82 = some (82, .ireturn, 1, 0, 0, 0, 0) from xlk (by decide +kernel)) rfl (by decide) (t hPT)
  · replace t := t.2 c
    refine xw_sipush (n := 16) (show xlook 174 13 = some (13, .sipush 142, 3, 0, 0, 0, 0) from xlk (by decide +kernel)) rfl (by decide) ?_
    refine xw_iconst (n := 17) (show xlook 174 16 = some (16, .iconst 3, 1, 0, 0, 0, 0) from xlk (by decide +kernel)) rfl ?_
    refine xw_iload_n (n := 18) (show xlook 174 17 = some (17, .iload_n 3, 1, 0, 0, 0, 0) from xlk (by decide +kernel)) rfl rfl ?_
    refine xw_imul (n := 19) (show xlook 174 18 = some (18, .imul, 1, 0, 0, 0, 0) from xlk (by decide +kernel)) rfl ?_
    refine xw_iadd (n := 20) (show xlook 174 19 = some (19, .iadd, 1, 0, 0, 0, 0) from xlk (by decide +kernel)) rfl ?_
    refine xw_istore (n := 22) (show xlook 174 20 = some (20, .istore 4, 2, 0, 0, 0, 0) from xlk (by decide +kernel)) rfl (ls' := [.ref (131), vi (x1), vi (x2), vi (x3), vi ((142) + ((3) * (x3)))]) (Nat.le_of_ble_eq_true rfl) rfl ?_
    refine xw_aload_n (n := 23) (show xlook 174 22 = some (22, .aload_n 0, 1, 0, 0, 0, 0) from xlk (by decide +kernel)) rfl rfl ?_
    refine xw_getr (q := 132) (show xlook 174 23 = some (23, .getfield 13, 3, 12, 1, 0, 220) from xlk (by decide +kernel)) (by decide) (xobf xob_12 (by decide) (by decide)) rfl (xPT_get (k := 1) (f := 1) hPT xob_12 (by decide)) (by have := (xtg_12_1 _ xob_12.1 xob_12.2).1.1; omega) (n := 26) rfl ?_
    refine xw_iload (n := 28) (show xlook 174 26 = some (26, .iload 4, 2, 0, 0, 0, 0) from xlk (by decide +kernel)) rfl rfl ?_
    obtain ⟨q1, t⟩ := t
    refine xw_iald (show xlook 174 28 = some (28, .iaload, 1, 0, 0, 0, 0) from xlk (by decide +kernel)) (xtg_12_1 _ xob_12.1 xob_12.2).1 (by rw [(xtg_12_1 _ xob_12.1 xob_12.2).2]; exact q1) (n := 29) rfl ?_
    refine xw_iload_n (n := 30) (show xlook 174 29 = some (29, .iload_n 1, 1, 0, 0, 0, 0) from xlk (by decide +kernel)) rfl rfl ?_
    obtain ⟨q0, q1, t⟩ := t
    refine xw_icmp_ne (n := 33) (m := 75) (show xlook 174 30 = some (30, .if_icmp .ne 45, 3, 75, 0, 0, 0) from xlk (by decide +kernel)) rfl rfl q0 q1 ⟨fun c => ?_, fun c => ?_⟩
    · replace t := t.1 c
      refine xw_iinc (n := 78) (show xlook 174 75 = some (75, .iinc 3 1, 3, 0, 0, 0, 0) from xlk (by decide +kernel)) rfl (ls' := [.ref (131), vi (x1), vi (x2), vi (x3 + 1), vi ((142) + ((3) * (x3)))]) rfl rfl ?_
      refine xw_goto (m := 2) (show xlook 174 78 = some (78, .goto (-76), 3, 2, 0, 0, 0) from xlk (by decide +kernel)) rfl ?_
      exact t hPT
    · replace t := t.2 c
      refine xw_iload_n (n := 34) (show xlook 174 33 = some (33, .iload_n 2, 1, 0, 0, 0, 0) from xlk (by decide +kernel)) rfl rfl ?_
      obtain ⟨q1, t⟩ := t
      refine xw_i2l (n := 35) (show xlook 174 34 = some (34, .i2l, 1, 0, 0, 0, 0) from xlk (by decide +kernel)) rfl q1 ?_
      refine xw_aload_n (n := 36) (show xlook 174 35 = some (35, .aload_n 0, 1, 0, 0, 0, 0) from xlk (by decide +kernel)) rfl rfl ?_
      refine xw_getr (q := 132) (show xlook 174 36 = some (36, .getfield 13, 3, 12, 1, 0, 220) from xlk (by decide +kernel)) (by decide) (xobf xob_12 (by decide) (by decide)) rfl (xPT_get (k := 1) (f := 1) hPT xob_12 (by decide)) (by have := (xtg_12_1 _ xob_12.1 xob_12.2).1.1; omega) (n := 39) rfl ?_
      refine xw_iload (n := 41) (show xlook 174 39 = some (39, .iload 4, 2, 0, 0, 0, 0) from xlk (by decide +kernel)) rfl rfl ?_
      refine xw_iconst (n := 42) (show xlook 174 41 = some (41, .iconst 1, 1, 0, 0, 0, 0) from xlk (by decide +kernel)) rfl ?_
      refine xw_iadd (n := 43) (show xlook 174 42 = some (42, .iadd, 1, 0, 0, 0, 0) from xlk (by decide +kernel)) rfl ?_
      obtain ⟨q1, t⟩ := t
      refine xw_iald (show xlook 174 43 = some (43, .iaload, 1, 0, 0, 0, 0) from xlk (by decide +kernel)) (xtg_12_1 _ xob_12.1 xob_12.2).1 (by rw [(xtg_12_1 _ xob_12.1 xob_12.2).2]; exact q1) (n := 44) rfl ?_
      obtain ⟨q1, t⟩ := t
      refine xw_i2l (n := 45) (show xlook 174 44 = some (44, .i2l, 1, 0, 0, 0, 0) from xlk (by decide +kernel)) rfl q1 ?_
      refine xw_aload_n (n := 46) (show xlook 174 45 = some (45, .aload_n 0, 1, 0, 0, 0, 0) from xlk (by decide +kernel)) rfl rfl ?_
      refine xw_getr (q := 132) (show xlook 174 46 = some (46, .getfield 13, 3, 12, 1, 0, 220) from xlk (by decide +kernel)) (by decide) (xobf xob_12 (by decide) (by decide)) rfl (xPT_get (k := 1) (f := 1) hPT xob_12 (by decide)) (by have := (xtg_12_1 _ xob_12.1 xob_12.2).1.1; omega) (n := 49) rfl ?_
      refine xw_iload (n := 51) (show xlook 174 49 = some (49, .iload 4, 2, 0, 0, 0, 0) from xlk (by decide +kernel)) rfl rfl ?_
      refine xw_iconst (n := 52) (show xlook 174 51 = some (51, .iconst 1, 1, 0, 0, 0, 0) from xlk (by decide +kernel)) rfl ?_
      refine xw_iadd (n := 53) (show xlook 174 52 = some (52, .iadd, 1, 0, 0, 0, 0) from xlk (by decide +kernel)) rfl ?_
      obtain ⟨q1, t⟩ := t
      refine xw_iald (show xlook 174 53 = some (53, .iaload, 1, 0, 0, 0, 0) from xlk (by decide +kernel)) (xtg_12_1 _ xob_12.1 xob_12.2).1 (by rw [(xtg_12_1 _ xob_12.1 xob_12.2).2]; exact q1) (n := 54) rfl ?_
      refine xw_aload_n (n := 55) (show xlook 174 54 = some (54, .aload_n 0, 1, 0, 0, 0, 0) from xlk (by decide +kernel)) rfl rfl ?_
      refine xw_getr (q := 132) (show xlook 174 55 = some (55, .getfield 13, 3, 12, 1, 0, 220) from xlk (by decide +kernel)) (by decide) (xobf xob_12 (by decide) (by decide)) rfl (xPT_get (k := 1) (f := 1) hPT xob_12 (by decide)) (by have := (xtg_12_1 _ xob_12.1 xob_12.2).1.1; omega) (n := 58) rfl ?_
      refine xw_iload (n := 60) (show xlook 174 58 = some (58, .iload 4, 2, 0, 0, 0, 0) from xlk (by decide +kernel)) rfl rfl ?_
      refine xw_iconst (n := 61) (show xlook 174 60 = some (60, .iconst 2, 1, 0, 0, 0, 0) from xlk (by decide +kernel)) rfl ?_
      refine xw_iadd (n := 62) (show xlook 174 61 = some (61, .iadd, 1, 0, 0, 0, 0) from xlk (by decide +kernel)) rfl ?_
      obtain ⟨q1, t⟩ := t
      refine xw_iald (show xlook 174 62 = some (62, .iaload, 1, 0, 0, 0, 0) from xlk (by decide +kernel)) (xtg_12_1 _ xob_12.1 xob_12.2).1 (by rw [(xtg_12_1 _ xob_12.1 xob_12.2).2]; exact q1) (n := 63) rfl ?_
      refine xw_iadd (n := 64) (show xlook 174 63 = some (63, .iadd, 1, 0, 0, 0, 0) from xlk (by decide +kernel)) rfl ?_
      refine xw_iconst (n := 65) (show xlook 174 64 = some (64, .iconst 1, 1, 0, 0, 0, 0) from xlk (by decide +kernel)) rfl ?_
      refine xw_isub (n := 66) (show xlook 174 65 = some (65, .isub, 1, 0, 0, 0, 0) from xlk (by decide +kernel)) rfl ?_
      obtain ⟨q1, t⟩ := t
      refine xw_i2l (n := 67) (show xlook 174 66 = some (66, .i2l, 1, 0, 0, 0, 0) from xlk (by decide +kernel)) rfl q1 ?_
      obtain ⟨j1, hj1, rr1, G1, hm1, hG1, t⟩ := t
      obtain ⟨y1, rfl, t⟩ := t
      refine xw_calls (dk := j1) (as := [vl (x2), vl ((F) (132) (((142) + ((3) * (x3))) + (1))), vl ((((F) (132) (((142) + ((3) * (x3))) + (1))) + ((F) (132) (((142) + ((3) * (x3))) + (2)))) - (1))]) (show xlook 174 67 = some (67, .invokestatic 83, 3, 132, 3, 0, 151) from xlk (by decide +kernel)) (by decide) hj1 ⟨Nat.le_of_ble_eq_true rfl, Nat.le_of_ble_eq_true rfl, Nat.le_of_ble_eq_true rfl, by decide⟩ rfl hm1 (n := 70) rfl ?_
      show xW X d 174 70 [.ref (131), vi (x1), vi (x2), vi (x3), vi ((142) + ((3) * (x3)))] [vi (y1)] G1 (xqi Q)
      obtain ⟨q0, t⟩ := t
      refine xw_if_eq (n := 73) (m := 75) (show xlook 174 70 = some (70, .ifCond .eq 5, 3, 75, 0, 0, 0) from xlk (by decide +kernel)) rfl rfl q0 ⟨fun c => ?_, fun c => ?_⟩
      · replace t := t.1 c
        refine xw_iinc (n := 78) (show xlook 174 75 = some (75, .iinc 3 1, 3, 0, 0, 0, 0) from xlk (by decide +kernel)) rfl (ls' := [.ref (131), vi (x1), vi (x2), vi (x3 + 1), vi ((142) + ((3) * (x3)))]) rfl rfl ?_
        refine xw_goto (m := 2) (show xlook 174 78 = some (78, .goto (-76), 3, 2, 0, 0, 0) from xlk (by decide +kernel)) rfl ?_
        exact t hG1
      · replace t := t.2 c
        refine xw_iconst (n := 74) (show xlook 174 73 = some (73, .iconst 1, 1, 0, 0, 0, 0) from xlk (by decide +kernel)) rfl ?_
        exact xw_zreturn hG1 (show xlook 174 74 = some (74, .ireturn, 1, 0, 0, 0, 0) from xlk (by decide +kernel)) rfl (by decide) (t hG1)

theorem s175_0 {X : List Int32} {d : Nat} {F : XF} {Q : Int → XF → Prop} {x1 : Int} {w2 : Value} (hPT : xPT F)  (t : xPT (F) → xW X d 175 2 [.ref (131), vi (x1), vi (1)] [] (F) (xqi Q)) : xW X d 175 0 [.ref (131), vi (x1), w2] [] F (xqi Q) := by
  refine xw_iconst (n := 1) (show xlook 175 0 = some (0, .iconst 1, 1, 0, 0, 0, 0) from xlk (by decide +kernel)) rfl ?_
  refine xw_istore_n (n := 2) (show xlook 175 1 = some (1, .istore_n 2, 1, 0, 0, 0, 0) from xlk (by decide +kernel)) rfl (ls' := [.ref (131), vi (x1), vi (1)]) (Nat.le_of_ble_eq_true rfl) rfl ?_
  exact t hPT
theorem m175 {X : List Int32} {d : Nat} {F : XF} {Q : Int → XF → Prop} {x1 : Int} (hPT : xPT F)  (t : xPT (F) → xW X d 175 2 [.ref (131), vi (x1), vi (1)] [] (F) (xqi Q)) : xMI X d 175 [.ref (131), vi (x1)] F Q := by
  show xW X d 175 0 [.ref (131), vi (x1), xU0] [] F (xqi Q)
  exact s175_0 hPT  t

theorem s175_2 {X : List Int32} {d : Nat} {F : XF} {Q : Int → XF → Prop} {x1 : Int} {x2 : Int} (hPT : xPT F)  (t : ∃ (j1 : Nat), j1 < d ∧ xMI X j1 154 [.ref (131)] (F) (fun (y1 : Int) (G1 : XF) => (inR (x2) ∧ inR (y1) ∧ ((((y1) ≤ (x2)) → (xPT (G1) → Q (1) (G1))) ∧ (¬ ((y1) ≤ (x2)) → ((0 ≤ ((x1) + (x2)) ∧ ((x1) + (x2)) < 264) ∧ (∃ (j2 : Nat), j2 < d ∧ xMI X j2 171 [.ref (131), vi (x1), vi ((x2) - (1))] (G1) (fun (y2 : Int) (G2 : XF) => (inR ((G1) (140) ((x1) + (x2))) ∧ inR ((y2) - ((G2) (132) 2)) ∧ (((((G1) (140) ((x1) + (x2))) = ((y2) - ((G2) (132) 2))) → (xPT (G2) → xW X d 175 2 [.ref (131), vi (x1), vi (x2 + 1)] [] (G2) (xqi Q))) ∧ (¬ (((G1) (140) ((x1) + (x2))) = ((y2) - ((G2) (132) 2))) → (xPT (G2) → Q (0) (G2))))))))))))) : xW X d 175 2 [.ref (131), vi (x1), vi (x2)] [] F (xqi Q) := by
  refine xw_iload_n (n := 3) (show xlook 175 2 = some (2, .iload_n 2, 1, 0, 0, 0, 0) from xlk (by decide +kernel)) rfl rfl ?_
  refine xw_aload_n (n := 4) (show xlook 175 3 = some (3, .aload_n 0, 1, 0, 0, 0, 0) from xlk (by decide +kernel)) rfl rfl ?_
  obtain ⟨j1, hj1, rr1, G1, hm1, hG1, t⟩ := t
  obtain ⟨y1, rfl, t⟩ := t
  refine xw_callv (dk := j1) (o := 131) (as := []) (show xlook 175 4 = some (4, .invokevirtual 161, 3, 154, 1, 0, 169) from xlk (by decide +kernel)) (by decide) hj1 ⟨Nat.le_of_ble_eq_true rfl, Nat.le_of_ble_eq_true rfl, Nat.le_of_ble_eq_true rfl⟩ ⟨xob_12.1, xob_12.2, by decide⟩ rfl hm1 (n := 7) rfl ?_
  show xW X d 175 7 [.ref (131), vi (x1), vi (x2)] [vi (y1), vi (x2)] G1 (xqi Q)
  obtain ⟨q0, q1, t⟩ := t
  refine xw_icmp_ge (n := 10) (m := 44) (show xlook 175 7 = some (7, .if_icmp .ge 37, 3, 44, 0, 0, 0) from xlk (by decide +kernel)) rfl rfl q0 q1 ⟨fun c => ?_, fun c => ?_⟩
  · replace t := t.1 c
    refine xw_iconst (n := 45) (show xlook 175 44 = some (44, .iconst 1, 1, 0, 0, 0, 0) from xlk (by decide +kernel)) rfl ?_
    exact xw_zreturn hG1 (show xlook 175 45 = some (45, .ireturn, 1, 0, 0, 0, 0) from xlk (by decide +kernel)) rfl (by decide) (t hG1)
  · replace t := t.2 c
    refine xw_aload_n (n := 11) (show xlook 175 10 = some (10, .aload_n 0, 1, 0, 0, 0, 0) from xlk (by decide +kernel)) rfl rfl ?_
    refine xw_getr (q := 140) (show xlook 175 11 = some (11, .getfield 42, 3, 12, 18, 0, 229) from xlk (by decide +kernel)) (by decide) (xobf xob_12 (by decide) (by decide)) rfl (xPT_get (k := 18) (f := 9) hG1 xob_12 (by decide)) (by have := (xtg_12_18 _ xob_12.1 xob_12.2).1.1; omega) (n := 14) rfl ?_
    refine xw_iload_n (n := 15) (show xlook 175 14 = some (14, .iload_n 1, 1, 0, 0, 0, 0) from xlk (by decide +kernel)) rfl rfl ?_
    refine xw_iload_n (n := 16) (show xlook 175 15 = some (15, .iload_n 2, 1, 0, 0, 0, 0) from xlk (by decide +kernel)) rfl rfl ?_
    refine xw_iadd (n := 17) (show xlook 175 16 = some (16, .iadd, 1, 0, 0, 0, 0) from xlk (by decide +kernel)) rfl ?_
    obtain ⟨q1, t⟩ := t
    refine xw_iald (show xlook 175 17 = some (17, .iaload, 1, 0, 0, 0, 0) from xlk (by decide +kernel)) (xtg_12_18 _ xob_12.1 xob_12.2).1 (by rw [(xtg_12_18 _ xob_12.1 xob_12.2).2]; exact q1) (n := 18) rfl ?_
    refine xw_aload_n (n := 19) (show xlook 175 18 = some (18, .aload_n 0, 1, 0, 0, 0, 0) from xlk (by decide +kernel)) rfl rfl ?_
    refine xw_iload_n (n := 20) (show xlook 175 19 = some (19, .iload_n 1, 1, 0, 0, 0, 0) from xlk (by decide +kernel)) rfl rfl ?_
    refine xw_iload_n (n := 21) (show xlook 175 20 = some (20, .iload_n 2, 1, 0, 0, 0, 0) from xlk (by decide +kernel)) rfl rfl ?_
    refine xw_iconst (n := 22) (show xlook 175 21 = some (21, .iconst 1, 1, 0, 0, 0, 0) from xlk (by decide +kernel)) rfl ?_
    refine xw_isub (n := 23) (show xlook 175 22 = some (22, .isub, 1, 0, 0, 0, 0) from xlk (by decide +kernel)) rfl ?_
    obtain ⟨j2, hj2, rr2, G2, hm2, hG2, t⟩ := t
    obtain ⟨y2, rfl, t⟩ := t
    refine xw_callv (dk := j2) (o := 131) (as := [vi (x1), vi ((x2) - (1))]) (show xlook 175 23 = some (23, .invokevirtual 203, 3, 171, 3, 0, 179) from xlk (by decide +kernel)) (by decide) hj2 ⟨Nat.le_of_ble_eq_true rfl, Nat.le_of_ble_eq_true rfl, Nat.le_of_ble_eq_true rfl⟩ ⟨xob_12.1, xob_12.2, by decide⟩ rfl hm2 (n := 26) rfl ?_
    show xW X d 175 26 [.ref (131), vi (x1), vi (x2)] [vi (y2), vi ((G1) (140) ((x1) + (x2)))] G2 (xqi Q)
    refine xw_aload_n (n := 27) (show xlook 175 26 = some (26, .aload_n 0, 1, 0, 0, 0, 0) from xlk (by decide +kernel)) rfl rfl ?_
    refine xw_getr (q := 132) (show xlook 175 27 = some (27, .getfield 13, 3, 12, 1, 0, 220) from xlk (by decide +kernel)) (by decide) (xobf xob_12 (by decide) (by decide)) rfl (xPT_get (k := 1) (f := 1) hG2 xob_12 (by decide)) (by have := (xtg_12_1 _ xob_12.1 xob_12.2).1.1; omega) (n := 30) rfl ?_
    refine xw_iconst (n := 31) (show xlook 175 30 = some (30, .iconst 2, 1, 0, 0, 0, 0) from xlk (by decide +kernel)) rfl ?_
    refine xw_iald (show xlook 175 31 = some (31, .iaload, 1, 0, 0, 0, 0) from xlk (by decide +kernel)) (xtg_12_1 _ xob_12.1 xob_12.2).1 (by rw [(xtg_12_1 _ xob_12.1 xob_12.2).2]; decide) (n := 32) rfl ?_
    refine xw_isub (n := 33) (show xlook 175 32 = some (32, .isub, 1, 0, 0, 0, 0) from xlk (by decide +kernel)) rfl ?_
    obtain ⟨q0, q1, t⟩ := t
    refine xw_icmp_eq (n := 36) (m := 38) (show xlook 175 33 = some (33, .if_icmp .eq 5, 3, 38, 0, 0, 0) from xlk (by decide +kernel)) rfl rfl q0 q1 ⟨fun c => ?_, fun c => ?_⟩
    · replace t := t.1 c
      refine xw_iinc (n := 41) (show xlook 175 38 = some (38, .iinc 2 1, 3, 0, 0, 0, 0) from xlk (by decide +kernel)) rfl (ls' := [.ref (131), vi (x1), vi (x2 + 1)]) rfl rfl ?_
      refine xw_goto (m := 2) (show xlook 175 41 = some (41, .goto (-39), 3, 2, 0, 0, 0) from xlk (by decide +kernel)) rfl ?_
      exact t hG2
    · replace t := t.2 c
      refine xw_iconst (n := 37) (show xlook 175 36 = some (36, .iconst 0, 1, 0, 0, 0, 0) from xlk (by decide +kernel)) rfl ?_
      exact xw_zreturn hG2 (show xlook 175 37 = some (37, .ireturn, 1, 0, 0, 0, 0) from xlk (by decide +kernel)) rfl (by decide) (t hG2)

theorem s176_0 {X : List Int32} {d : Nat} {F : XF} {Q : XF → Prop} {x1 : Int} {x2 : Int} {w3 : Value} {w4 : Value} {w5 : Value} {w6 : Value} {w7 : Value} (hPT : xPT F)  (t : xPT (F) → xW X d 176 2 [.ref (131), vi (x1), vi (x2), vi (0), w4, w5, w6, w7] [] (F) (xqv Q)) : xW X d 176 0 [.ref (131), vi (x1), vi (x2), w3, w4, w5, w6, w7] [] F (xqv Q) := by
  refine xw_iconst (n := 1) (show xlook 176 0 = some (0, .iconst 0, 1, 0, 0, 0, 0) from xlk (by decide +kernel)) rfl ?_
  refine xw_istore_n (n := 2) (show xlook 176 1 = some (1, .istore_n 3, 1, 0, 0, 0, 0) from xlk (by decide +kernel)) rfl (ls' := [.ref (131), vi (x1), vi (x2), vi (0), w4, w5, w6, w7]) (Nat.le_of_ble_eq_true rfl) rfl ?_
  exact t hPT
theorem m176 {X : List Int32} {d : Nat} {F : XF} {Q : XF → Prop} {x1 : Int} {x2 : Int} (hPT : xPT F)  (t : xPT (F) → xW X d 176 2 [.ref (131), vi (x1), vi (x2), vi (0), xU0, xU0, xU0, xU0] [] (F) (xqv Q)) : xMV X d 176 [.ref (131), vi (x1), vi (x2)] F Q := by
  show xW X d 176 0 [.ref (131), vi (x1), vi (x2), xU0, xU0, xU0, xU0, xU0] [] F (xqv Q)
  exact s176_0 hPT  t

theorem s176_2 {X : List Int32} {d : Nat} {F : XF} {Q : XF → Prop} {x1 : Int} {x2 : Int} {x3 : Int} {w4 : Value} {w5 : Value} {w6 : Value} {w7 : Value} (hPT : xPT F)  (t : inR (x3) ∧ inR ((F) (132) 4) ∧ (((((F) (132) 4) ≤ (x3)) → (xPT (F) → Q (F))) ∧ (¬ (((F) (132) 4) ≤ (x3)) → ((0 ≤ (((8) + ((7) * (x3))) + (5)) ∧ (((8) + ((7) * (x3))) + (5)) < 163) ∧ (∃ (j1 : Nat), j1 < d ∧ xMI X j1 173 [.ref (131), vi (x1), vi (x3)] (F) (fun (y1 : Int) (G1 : XF) => (inR (y1) ∧ ((((y1) = ((-1))) → (inR ((F) (132) (((8) + ((7) * (x3))) + (5))) ∧ (((((F) (132) (((8) + ((7) * (x3))) + (5))) ≤ (0)) → (xPT (G1) → xW X d 176 79 [.ref (131), vi (x1), vi (x2), vi (x3), vi (((x1) + (60)) + ((7) * (x3))), vi ((F) (132) (((8) + ((7) * (x3))) + (5))), vi (0), w7] [] (G1) (xqv Q))) ∧ (¬ (((F) (132) (((8) + ((7) * (x3))) + (5))) ≤ (0)) → ((0 ≤ (x2 : Int) ∧ (x2 : Int) ≤ 2147483647) ∧ (0 < ((F) (132) (((8) + ((7) * (x3))) + (5)) : Int) ∧ ((F) (132) (((8) + ((7) * (x3))) + (5)) : Int) ≤ 2147483647) ∧ (inR ((x2) % ((F) (132) (((8) + ((7) * (x3))) + (5)))) ∧ (((¬ ((x2) % ((F) (132) (((8) + ((7) * (x3))) + (5)))) = (0)) → (xPT (G1) → xW X d 176 79 [.ref (131), vi (x1), vi (x2), vi (x3), vi (((x1) + (60)) + ((7) * (x3))), vi ((F) (132) (((8) + ((7) * (x3))) + (5))), vi (0), w7] [] (G1) (xqv Q))) ∧ (¬ (¬ ((x2) % ((F) (132) (((8) + ((7) * (x3))) + (5)))) = (0)) → ((0 ≤ (((x1) + (60)) + ((7) * (x3))) ∧ (((x1) + (60)) + ((7) * (x3))) < 264) ∧ ((0 ≤ (((x1) + (60)) + ((7) * (x3))) ∧ (((x1) + (60)) + ((7) * (x3))) < 264) ∧ (xPT (xup (G1) (140) (((x1) + (60)) + ((7) * (x3))) (((G1) (140) (((x1) + (60)) + ((7) * (x3)))) + (1))) → xW X d 176 79 [.ref (131), vi (x1), vi (x2), vi (x3), vi (((x1) + (60)) + ((7) * (x3))), vi ((F) (132) (((8) + ((7) * (x3))) + (5))), vi (0), w7] [] (xup (G1) (140) (((x1) + (60)) + ((7) * (x3))) (((G1) (140) (((x1) + (60)) + ((7) * (x3)))) + (1))) (xqv Q)))))))))))) ∧ (¬ ((y1) = ((-1))) → (inR ((F) (132) (((8) + ((7) * (x3))) + (5))) ∧ (((((F) (132) (((8) + ((7) * (x3))) + (5))) ≤ (0)) → (xPT (G1) → xW X d 176 79 [.ref (131), vi (x1), vi (x2), vi (x3), vi (((x1) + (60)) + ((7) * (x3))), vi ((F) (132) (((8) + ((7) * (x3))) + (5))), vi (1), w7] [] (G1) (xqv Q))) ∧ (¬ (((F) (132) (((8) + ((7) * (x3))) + (5))) ≤ (0)) → ((0 ≤ (x2 : Int) ∧ (x2 : Int) ≤ 2147483647) ∧ (0 < ((F) (132) (((8) + ((7) * (x3))) + (5)) : Int) ∧ ((F) (132) (((8) + ((7) * (x3))) + (5)) : Int) ≤ 2147483647) ∧ (inR ((x2) % ((F) (132) (((8) + ((7) * (x3))) + (5)))) ∧ (((¬ ((x2) % ((F) (132) (((8) + ((7) * (x3))) + (5)))) = (0)) → (xPT (G1) → xW X d 176 79 [.ref (131), vi (x1), vi (x2), vi (x3), vi (((x1) + (60)) + ((7) * (x3))), vi ((F) (132) (((8) + ((7) * (x3))) + (5))), vi (1), w7] [] (G1) (xqv Q))) ∧ (¬ (¬ ((x2) % ((F) (132) (((8) + ((7) * (x3))) + (5)))) = (0)) → ((0 ≤ (((x1) + (60)) + ((7) * (x3))) ∧ (((x1) + (60)) + ((7) * (x3))) < 264) ∧ ((0 ≤ (((x1) + (60)) + ((7) * (x3))) ∧ (((x1) + (60)) + ((7) * (x3))) < 264) ∧ (xPT (xup (G1) (140) (((x1) + (60)) + ((7) * (x3))) (((G1) (140) (((x1) + (60)) + ((7) * (x3)))) + (1))) → xW X d 176 79 [.ref (131), vi (x1), vi (x2), vi (x3), vi (((x1) + (60)) + ((7) * (x3))), vi ((F) (132) (((8) + ((7) * (x3))) + (5))), vi (1), w7] [] (xup (G1) (140) (((x1) + (60)) + ((7) * (x3))) (((G1) (140) (((x1) + (60)) + ((7) * (x3)))) + (1))) (xqv Q)))))))))))))))))))) : xW X d 176 2 [.ref (131), vi (x1), vi (x2), vi (x3), w4, w5, w6, w7] [] F (xqv Q) := by
  refine xw_iload_n (n := 3) (show xlook 176 2 = some (2, .iload_n 3, 1, 0, 0, 0, 0) from xlk (by decide +kernel)) rfl rfl ?_
  refine xw_aload_n (n := 4) (show xlook 176 3 = some (3, .aload_n 0, 1, 0, 0, 0, 0) from xlk (by decide +kernel)) rfl rfl ?_
  refine xw_getr (q := 132) (show xlook 176 4 = some (4, .getfield 13, 3, 12, 1, 0, 220) from xlk (by decide +kernel)) (by decide) (xobf xob_12 (by decide) (by decide)) rfl (xPT_get (k := 1) (f := 1) hPT xob_12 (by decide)) (by have := (xtg_12_1 _ xob_12.1 xob_12.2).1.1; omega) (n := 7) rfl ?_
  refine xw_iconst (n := 8) (show xlook 176 7 = some (7, .iconst 4, 1, 0, 0, 0, 0) from xlk (by decide +kernel)) rfl ?_
  refine xw_iald (show xlook 176 8 = some (8, .iaload, 1, 0, 0, 0, 0) from xlk (by decide +kernel)) (xtg_12_1 _ xob_12.1 xob_12.2).1 (by rw [(xtg_12_1 _ xob_12.1 xob_12.2).2]; decide) (n := 9) rfl ?_
  obtain ⟨q0, q1, t⟩ := t
  refine xw_icmp_ge (n := 12) (m := 319) (show xlook 176 9 = some (9, .if_icmp .ge 310, 3, 319, 0, 0, 0) from xlk (by decide +kernel)) rfl rfl q0 q1 ⟨fun c => ?_, fun c => ?_⟩
  · replace t := t.1 c
    exact xw_return hPT (show xlook 176 319 = some (319, .return_, 1, 0, 0, 0, 0) from xlk (by decide +kernel)) rfl (t hPT)
  · replace t := t.2 c
    refine xw_iload_n (n := 13) (show xlook 176 12 = some (12, .iload_n 1, 1, 0, 0, 0, 0) from xlk (by decide +kernel)) rfl rfl ?_
    refine xw_bipush (n := 15) (show xlook 176 13 = some (13, .bipush 60, 2, 0, 0, 0, 0) from xlk (by decide +kernel)) rfl (by decide) ?_
    refine xw_iadd (n := 16) (show xlook 176 15 = some (15, .iadd, 1, 0, 0, 0, 0) from xlk (by decide +kernel)) rfl ?_
    refine xw_bipush (n := 18) (show xlook 176 16 = some (16, .bipush 7, 2, 0, 0, 0, 0) from xlk (by decide +kernel)) rfl (by decide) ?_
    refine xw_iload_n (n := 19) (show xlook 176 18 = some (18, .iload_n 3, 1, 0, 0, 0, 0) from xlk (by decide +kernel)) rfl rfl ?_
    refine xw_imul (n := 20) (show xlook 176 19 = some (19, .imul, 1, 0, 0, 0, 0) from xlk (by decide +kernel)) rfl ?_
    refine xw_iadd (n := 21) (show xlook 176 20 = some (20, .iadd, 1, 0, 0, 0, 0) from xlk (by decide +kernel)) rfl ?_
    refine xw_istore (n := 23) (show xlook 176 21 = some (21, .istore 4, 2, 0, 0, 0, 0) from xlk (by decide +kernel)) rfl (ls' := [.ref (131), vi (x1), vi (x2), vi (x3), vi (((x1) + (60)) + ((7) * (x3))), w5, w6, w7]) (Nat.le_of_ble_eq_true rfl) rfl ?_
    refine xw_aload_n (n := 24) (show xlook 176 23 = some (23, .aload_n 0, 1, 0, 0, 0, 0) from xlk (by decide +kernel)) rfl rfl ?_
    refine xw_getr (q := 132) (show xlook 176 24 = some (24, .getfield 13, 3, 12, 1, 0, 220) from xlk (by decide +kernel)) (by decide) (xobf xob_12 (by decide) (by decide)) rfl (xPT_get (k := 1) (f := 1) hPT xob_12 (by decide)) (by have := (xtg_12_1 _ xob_12.1 xob_12.2).1.1; omega) (n := 27) rfl ?_
    refine xw_bipush (n := 29) (show xlook 176 27 = some (27, .bipush 8, 2, 0, 0, 0, 0) from xlk (by decide +kernel)) rfl (by decide) ?_
    refine xw_bipush (n := 31) (show xlook 176 29 = some (29, .bipush 7, 2, 0, 0, 0, 0) from xlk (by decide +kernel)) rfl (by decide) ?_
    refine xw_iload_n (n := 32) (show xlook 176 31 = some (31, .iload_n 3, 1, 0, 0, 0, 0) from xlk (by decide +kernel)) rfl rfl ?_
    refine xw_imul (n := 33) (show xlook 176 32 = some (32, .imul, 1, 0, 0, 0, 0) from xlk (by decide +kernel)) rfl ?_
    refine xw_iadd (n := 34) (show xlook 176 33 = some (33, .iadd, 1, 0, 0, 0, 0) from xlk (by decide +kernel)) rfl ?_
    refine xw_iconst (n := 35) (show xlook 176 34 = some (34, .iconst 5, 1, 0, 0, 0, 0) from xlk (by decide +kernel)) rfl ?_
    refine xw_iadd (n := 36) (show xlook 176 35 = some (35, .iadd, 1, 0, 0, 0, 0) from xlk (by decide +kernel)) rfl ?_
    obtain ⟨q1, t⟩ := t
    refine xw_iald (show xlook 176 36 = some (36, .iaload, 1, 0, 0, 0, 0) from xlk (by decide +kernel)) (xtg_12_1 _ xob_12.1 xob_12.2).1 (by rw [(xtg_12_1 _ xob_12.1 xob_12.2).2]; exact q1) (n := 37) rfl ?_
    refine xw_istore (n := 39) (show xlook 176 37 = some (37, .istore 5, 2, 0, 0, 0, 0) from xlk (by decide +kernel)) rfl (ls' := [.ref (131), vi (x1), vi (x2), vi (x3), vi (((x1) + (60)) + ((7) * (x3))), vi ((F) (132) (((8) + ((7) * (x3))) + (5))), w6, w7]) (Nat.le_of_ble_eq_true rfl) rfl ?_
    refine xw_aload_n (n := 40) (show xlook 176 39 = some (39, .aload_n 0, 1, 0, 0, 0, 0) from xlk (by decide +kernel)) rfl rfl ?_
    refine xw_iload_n (n := 41) (show xlook 176 40 = some (40, .iload_n 1, 1, 0, 0, 0, 0) from xlk (by decide +kernel)) rfl rfl ?_
    refine xw_iload_n (n := 42) (show xlook 176 41 = some (41, .iload_n 3, 1, 0, 0, 0, 0) from xlk (by decide +kernel)) rfl rfl ?_
    obtain ⟨j1, hj1, rr1, G1, hm1, hG1, t⟩ := t
    obtain ⟨y1, rfl, t⟩ := t
    refine xw_callv (dk := j1) (o := 131) (as := [vi (x1), vi (x3)]) (show xlook 176 42 = some (42, .invokevirtual 212, 3, 173, 3, 0, 181) from xlk (by decide +kernel)) (by decide) hj1 ⟨Nat.le_of_ble_eq_true rfl, Nat.le_of_ble_eq_true rfl, Nat.le_of_ble_eq_true rfl⟩ ⟨xob_12.1, xob_12.2, by decide⟩ rfl hm1 (n := 45) rfl ?_
    show xW X d 176 45 [.ref (131), vi (x1), vi (x2), vi (x3), vi (((x1) + (60)) + ((7) * (x3))), vi ((F) (132) (((8) + ((7) * (x3))) + (5))), w6, w7] [vi (y1)] G1 (xqv Q)
    refine xw_iconst (n := 46) (show xlook 176 45 = some (45, .iconst (-1), 1, 0, 0, 0, 0) from xlk (by decide +kernel)) rfl ?_
    obtain ⟨q0, t⟩ := t
    refine xw_icmp_eq (n := 49) (m := 53) (show xlook 176 46 = some (46, .if_icmp .eq 7, 3, 53, 0, 0, 0) from xlk (by decide +kernel)) rfl rfl q0 ⟨by decide, by decide⟩ ⟨fun c => ?_, fun c => ?_⟩
    · replace t := t.1 c
      refine xw_iconst (n := 54) (show xlook 176 53 = some (53, .iconst 0, 1, 0, 0, 0, 0) from xlk (by decide +kernel)) rfl ?_
      refine xw_istore (n := 56) (show xlook 176 54 = some (54, .istore 6, 2, 0, 0, 0, 0) from xlk (by decide +kernel)) rfl (ls' := [.ref (131), vi (x1), vi (x2), vi (x3), vi (((x1) + (60)) + ((7) * (x3))), vi ((F) (132) (((8) + ((7) * (x3))) + (5))), vi (0), w7]) (Nat.le_of_ble_eq_true rfl) rfl ?_
      refine xw_iload (n := 58) (show xlook 176 56 = some (56, .iload 5, 2, 0, 0, 0, 0) from xlk (by decide +kernel)) rfl rfl ?_
      obtain ⟨q0, t⟩ := t
      refine xw_if_le (n := 61) (m := 79) (show xlook 176 58 = some (58, .ifCond .le 21, 3, 79, 0, 0, 0) from xlk (by decide +kernel)) rfl rfl q0 ⟨fun c => ?_, fun c => ?_⟩
      · replace t := t.1 c
        exact t hG1
      · replace t := t.2 c
        refine xw_iload_n (n := 62) (show xlook 176 61 = some (61, .iload_n 2, 1, 0, 0, 0, 0) from xlk (by decide +kernel)) rfl rfl ?_
        refine xw_iload (n := 64) (show xlook 176 62 = some (62, .iload 5, 2, 0, 0, 0, 0) from xlk (by decide +kernel)) rfl rfl ?_
        obtain ⟨q1, q2, t⟩ := t
        refine xw_irem (n := 65) (show xlook 176 64 = some (64, .irem, 1, 0, 0, 0, 0) from xlk (by decide +kernel)) rfl q1 q2 ?_
        obtain ⟨q0, t⟩ := t
        refine xw_if_ne (n := 68) (m := 79) (show xlook 176 65 = some (65, .ifCond .ne 14, 3, 79, 0, 0, 0) from xlk (by decide +kernel)) rfl rfl q0 ⟨fun c => ?_, fun c => ?_⟩
        · replace t := t.1 c
          exact t hG1
        · replace t := t.2 c
          refine xw_aload_n (n := 69) (show xlook 176 68 = some (68, .aload_n 0, 1, 0, 0, 0, 0) from xlk (by decide +kernel)) rfl rfl ?_
          refine xw_getr (q := 140) (show xlook 176 69 = some (69, .getfield 42, 3, 12, 18, 0, 229) from xlk (by decide +kernel)) (by decide) (xobf xob_12 (by decide) (by decide)) rfl (xPT_get (k := 18) (f := 9) hG1 xob_12 (by decide)) (by have := (xtg_12_18 _ xob_12.1 xob_12.2).1.1; omega) (n := 72) rfl ?_
          refine xw_iload (n := 74) (show xlook 176 72 = some (72, .iload 4, 2, 0, 0, 0, 0) from xlk (by decide +kernel)) rfl rfl ?_
          refine xw_dup2 (n := 75) (show xlook 176 74 = some (74, .dup2, 1, 0, 0, 0, 0) from xlk (by decide +kernel)) rfl ?_
          obtain ⟨q1, t⟩ := t
          refine xw_iald (show xlook 176 75 = some (75, .iaload, 1, 0, 0, 0, 0) from xlk (by decide +kernel)) (xtg_12_18 _ xob_12.1 xob_12.2).1 (by rw [(xtg_12_18 _ xob_12.1 xob_12.2).2]; exact q1) (n := 76) rfl ?_
          refine xw_iconst (n := 77) (show xlook 176 76 = some (76, .iconst 1, 1, 0, 0, 0, 0) from xlk (by decide +kernel)) rfl ?_
          refine xw_iadd (n := 78) (show xlook 176 77 = some (77, .iadd, 1, 0, 0, 0, 0) from xlk (by decide +kernel)) rfl ?_
          obtain ⟨q1, t⟩ := t
          refine xw_iast (show xlook 176 78 = some (78, .iastore, 1, 0, 0, 0, 0) from xlk (by decide +kernel)) (xtg_12_18 _ xob_12.1 xob_12.2).1 (by rw [(xtg_12_18 _ xob_12.1 xob_12.2).2]; exact q1) (n := 79) rfl ?_
          exact t (xPT_arr hG1 (Or.inl (xtg_12_18 _ xob_12.1 xob_12.2).1.2))
    · replace t := t.2 c
      refine xw_iconst (n := 50) (show xlook 176 49 = some (49, .iconst 1, 1, 0, 0, 0, 0) from xlk (by decide +kernel)) rfl ?_
      refine xw_goto (m := 54) (show xlook 176 50 = some (50, .goto 4, 3, 54, 0, 0, 0) from xlk (by decide +kernel)) rfl ?_
      refine xw_istore (n := 56) (show xlook 176 54 = some (54, .istore 6, 2, 0, 0, 0, 0) from xlk (by decide +kernel)) rfl (ls' := [.ref (131), vi (x1), vi (x2), vi (x3), vi (((x1) + (60)) + ((7) * (x3))), vi ((F) (132) (((8) + ((7) * (x3))) + (5))), vi (1), w7]) (Nat.le_of_ble_eq_true rfl) rfl ?_
      refine xw_iload (n := 58) (show xlook 176 56 = some (56, .iload 5, 2, 0, 0, 0, 0) from xlk (by decide +kernel)) rfl rfl ?_
      obtain ⟨q0, t⟩ := t
      refine xw_if_le (n := 61) (m := 79) (show xlook 176 58 = some (58, .ifCond .le 21, 3, 79, 0, 0, 0) from xlk (by decide +kernel)) rfl rfl q0 ⟨fun c => ?_, fun c => ?_⟩
      · replace t := t.1 c
        exact t hG1
      · replace t := t.2 c
        refine xw_iload_n (n := 62) (show xlook 176 61 = some (61, .iload_n 2, 1, 0, 0, 0, 0) from xlk (by decide +kernel)) rfl rfl ?_
        refine xw_iload (n := 64) (show xlook 176 62 = some (62, .iload 5, 2, 0, 0, 0, 0) from xlk (by decide +kernel)) rfl rfl ?_
        obtain ⟨q1, q2, t⟩ := t
        refine xw_irem (n := 65) (show xlook 176 64 = some (64, .irem, 1, 0, 0, 0, 0) from xlk (by decide +kernel)) rfl q1 q2 ?_
        obtain ⟨q0, t⟩ := t
        refine xw_if_ne (n := 68) (m := 79) (show xlook 176 65 = some (65, .ifCond .ne 14, 3, 79, 0, 0, 0) from xlk (by decide +kernel)) rfl rfl q0 ⟨fun c => ?_, fun c => ?_⟩
        · replace t := t.1 c
          exact t hG1
        · replace t := t.2 c
          refine xw_aload_n (n := 69) (show xlook 176 68 = some (68, .aload_n 0, 1, 0, 0, 0, 0) from xlk (by decide +kernel)) rfl rfl ?_
          refine xw_getr (q := 140) (show xlook 176 69 = some (69, .getfield 42, 3, 12, 18, 0, 229) from xlk (by decide +kernel)) (by decide) (xobf xob_12 (by decide) (by decide)) rfl (xPT_get (k := 18) (f := 9) hG1 xob_12 (by decide)) (by have := (xtg_12_18 _ xob_12.1 xob_12.2).1.1; omega) (n := 72) rfl ?_
          refine xw_iload (n := 74) (show xlook 176 72 = some (72, .iload 4, 2, 0, 0, 0, 0) from xlk (by decide +kernel)) rfl rfl ?_
          refine xw_dup2 (n := 75) (show xlook 176 74 = some (74, .dup2, 1, 0, 0, 0, 0) from xlk (by decide +kernel)) rfl ?_
          obtain ⟨q1, t⟩ := t
          refine xw_iald (show xlook 176 75 = some (75, .iaload, 1, 0, 0, 0, 0) from xlk (by decide +kernel)) (xtg_12_18 _ xob_12.1 xob_12.2).1 (by rw [(xtg_12_18 _ xob_12.1 xob_12.2).2]; exact q1) (n := 76) rfl ?_
          refine xw_iconst (n := 77) (show xlook 176 76 = some (76, .iconst 1, 1, 0, 0, 0, 0) from xlk (by decide +kernel)) rfl ?_
          refine xw_iadd (n := 78) (show xlook 176 77 = some (77, .iadd, 1, 0, 0, 0, 0) from xlk (by decide +kernel)) rfl ?_
          obtain ⟨q1, t⟩ := t
          refine xw_iast (show xlook 176 78 = some (78, .iastore, 1, 0, 0, 0, 0) from xlk (by decide +kernel)) (xtg_12_18 _ xob_12.1 xob_12.2).1 (by rw [(xtg_12_18 _ xob_12.1 xob_12.2).2]; exact q1) (n := 79) rfl ?_
          exact t (xPT_arr hG1 (Or.inl (xtg_12_18 _ xob_12.1 xob_12.2).1.2))

theorem s176_79 {X : List Int32} {d : Nat} {F : XF} {Q : XF → Prop} {x1 : Int} {x2 : Int} {x3 : Int} {x4 : Int} {x5 : Int} {x6 : Int} {w7 : Value} (hPT : xPT F)  (t : (0 ≤ (x4) ∧ (x4) < 264) ∧ ((0 ≤ ((x4) + (3)) ∧ ((x4) + (3)) < 264) ∧ (inR ((F) (140) (x4)) ∧ inR ((F) (140) ((x4) + (3))) ∧ (((((F) (140) (x4)) ≤ ((F) (140) ((x4) + (3)))) → ((0 ≤ ((x4) + (3)) ∧ ((x4) + (3)) < 264) ∧ ((0 ≤ ((x4) + (3)) ∧ ((x4) + (3)) < 264) ∧ (inR (x6) ∧ (((¬ (x6) = (0)) → (xPT (xup (F) (140) ((x4) + (3)) ((F) (140) ((x4) + (3)))) → xW X d 176 241 [.ref (131), vi (x1), vi (x2), vi (x3), vi (x4), vi (x5), vi (x6), w7] [] (xup (F) (140) ((x4) + (3)) ((F) (140) ((x4) + (3)))) (xqv Q))) ∧ (¬ (¬ (x6) = (0)) → ((0 ≤ (((8) + ((7) * (x3))) + (6)) ∧ (((8) + ((7) * (x3))) + (6)) < 163) ∧ ((0 ≤ (x2 : Int) ∧ (x2 : Int) ≤ 2147483647) ∧ (0 < ((F) (132) (((8) + ((7) * (x3))) + (6)) : Int) ∧ ((F) (132) (((8) + ((7) * (x3))) + (6)) : Int) ≤ 2147483647) ∧ (inR ((x2) % ((F) (132) (((8) + ((7) * (x3))) + (6)))) ∧ (((¬ ((x2) % ((F) (132) (((8) + ((7) * (x3))) + (6)))) = (0)) → (xPT (xup (F) (140) ((x4) + (3)) ((F) (140) ((x4) + (3)))) → xW X d 176 241 [.ref (131), vi (x1), vi (x2), vi (x3), vi (x4), vi (x5), vi (x6), w7] [] (xup (F) (140) ((x4) + (3)) ((F) (140) ((x4) + (3)))) (xqv Q))) ∧ (¬ (¬ ((x2) % ((F) (132) (((8) + ((7) * (x3))) + (6)))) = (0)) → ((0 ≤ (x4) ∧ (x4) < 264) ∧ (inR ((F) (140) (x4)) ∧ (((((F) (140) (x4)) ≤ (0)) → (xPT (xup (F) (140) ((x4) + (3)) ((F) (140) ((x4) + (3)))) → xW X d 176 241 [.ref (131), vi (x1), vi (x2), vi (x3), vi (x4), vi (x5), vi (x6), w7] [] (xup (F) (140) ((x4) + (3)) ((F) (140) ((x4) + (3)))) (xqv Q))) ∧ (¬ (((F) (140) (x4)) ≤ (0)) → ((0 ≤ ((x4) + (2)) ∧ ((x4) + (2)) < 264) ∧ ((0 ≤ ((x4) + (6)) ∧ ((x4) + (6)) < 264) ∧ (inR ((x2) - (((F) (140) ((x4) + (2))) * (x5))) ∧ inR ((F) (140) ((x4) + (6))) ∧ (((((x2) - (((F) (140) ((x4) + (2))) * (x5))) ≤ ((F) (140) ((x4) + (6)))) → ((0 ≤ ((x4) + (6)) ∧ ((x4) + (6)) < 264) ∧ ((0 ≤ ((x4) + (6)) ∧ ((x4) + (6)) < 264) ∧ ((0 ≤ (x4) ∧ (x4) < 264) ∧ ((0 ≤ (x4) ∧ (x4) < 264) ∧ ((0 ≤ ((x4) + (2)) ∧ ((x4) + (2)) < 264) ∧ ((0 ≤ ((x4) + (2)) ∧ ((x4) + (2)) < 264) ∧ (xPT (xup (xup (xup (xup (F) (140) ((x4) + (3)) ((F) (140) ((x4) + (3)))) (140) ((x4) + (6)) ((F) (140) ((x4) + (6)))) (140) (x4) (((F) (140) (x4)) - (1))) (140) ((x4) + (2)) (((F) (140) ((x4) + (2))) + (1))) → xW X d 176 241 [.ref (131), vi (x1), vi (x2), vi (x3), vi (x4), vi (x5), vi (x6), vi ((x2) - (((F) (140) ((x4) + (2))) * (x5)))] [] (xup (xup (xup (xup (F) (140) ((x4) + (3)) ((F) (140) ((x4) + (3)))) (140) ((x4) + (6)) ((F) (140) ((x4) + (6)))) (140) (x4) (((F) (140) (x4)) - (1))) (140) ((x4) + (2)) (((F) (140) ((x4) + (2))) + (1))) (xqv Q))))))))) ∧ (¬ (((x2) - (((F) (140) ((x4) + (2))) * (x5))) ≤ ((F) (140) ((x4) + (6)))) → ((0 ≤ ((x4) + (6)) ∧ ((x4) + (6)) < 264) ∧ ((0 ≤ (x4) ∧ (x4) < 264) ∧ ((0 ≤ (x4) ∧ (x4) < 264) ∧ ((0 ≤ ((x4) + (2)) ∧ ((x4) + (2)) < 264) ∧ ((0 ≤ ((x4) + (2)) ∧ ((x4) + (2)) < 264) ∧ (xPT (xup (xup (xup (xup (F) (140) ((x4) + (3)) ((F) (140) ((x4) + (3)))) (140) ((x4) + (6)) ((x2) - (((F) (140) ((x4) + (2))) * (x5)))) (140) (x4) (((F) (140) (x4)) - (1))) (140) ((x4) + (2)) (((F) (140) ((x4) + (2))) + (1))) → xW X d 176 241 [.ref (131), vi (x1), vi (x2), vi (x3), vi (x4), vi (x5), vi (x6), vi ((x2) - (((F) (140) ((x4) + (2))) * (x5)))] [] (xup (xup (xup (xup (F) (140) ((x4) + (3)) ((F) (140) ((x4) + (3)))) (140) ((x4) + (6)) ((x2) - (((F) (140) ((x4) + (2))) * (x5)))) (140) (x4) (((F) (140) (x4)) - (1))) (140) ((x4) + (2)) (((F) (140) ((x4) + (2))) + (1))) (xqv Q))))))))))))))))))))))))))) ∧ (¬ (((F) (140) (x4)) ≤ ((F) (140) ((x4) + (3)))) → ((0 ≤ (x4) ∧ (x4) < 264) ∧ ((0 ≤ ((x4) + (3)) ∧ ((x4) + (3)) < 264) ∧ (inR (x6) ∧ (((¬ (x6) = (0)) → (xPT (xup (F) (140) ((x4) + (3)) ((F) (140) (x4))) → xW X d 176 241 [.ref (131), vi (x1), vi (x2), vi (x3), vi (x4), vi (x5), vi (x6), w7] [] (xup (F) (140) ((x4) + (3)) ((F) (140) (x4))) (xqv Q))) ∧ (¬ (¬ (x6) = (0)) → ((0 ≤ (((8) + ((7) * (x3))) + (6)) ∧ (((8) + ((7) * (x3))) + (6)) < 163) ∧ ((0 ≤ (x2 : Int) ∧ (x2 : Int) ≤ 2147483647) ∧ (0 < ((F) (132) (((8) + ((7) * (x3))) + (6)) : Int) ∧ ((F) (132) (((8) + ((7) * (x3))) + (6)) : Int) ≤ 2147483647) ∧ (inR ((x2) % ((F) (132) (((8) + ((7) * (x3))) + (6)))) ∧ (((¬ ((x2) % ((F) (132) (((8) + ((7) * (x3))) + (6)))) = (0)) → (xPT (xup (F) (140) ((x4) + (3)) ((F) (140) (x4))) → xW X d 176 241 [.ref (131), vi (x1), vi (x2), vi (x3), vi (x4), vi (x5), vi (x6), w7] [] (xup (F) (140) ((x4) + (3)) ((F) (140) (x4))) (xqv Q))) ∧ (¬ (¬ ((x2) % ((F) (132) (((8) + ((7) * (x3))) + (6)))) = (0)) → ((0 ≤ (x4) ∧ (x4) < 264) ∧ (inR ((F) (140) (x4)) ∧ (((((F) (140) (x4)) ≤ (0)) → (xPT (xup (F) (140) ((x4) + (3)) ((F) (140) (x4))) → xW X d 176 241 [.ref (131), vi (x1), vi (x2), vi (x3), vi (x4), vi (x5), vi (x6), w7] [] (xup (F) (140) ((x4) + (3)) ((F) (140) (x4))) (xqv Q))) ∧ (¬ (((F) (140) (x4)) ≤ (0)) → ((0 ≤ ((x4) + (2)) ∧ ((x4) + (2)) < 264) ∧ ((0 ≤ ((x4) + (6)) ∧ ((x4) + (6)) < 264) ∧ (inR ((x2) - (((F) (140) ((x4) + (2))) * (x5))) ∧ inR ((F) (140) ((x4) + (6))) ∧ (((((x2) - (((F) (140) ((x4) + (2))) * (x5))) ≤ ((F) (140) ((x4) + (6)))) → ((0 ≤ ((x4) + (6)) ∧ ((x4) + (6)) < 264) ∧ ((0 ≤ ((x4) + (6)) ∧ ((x4) + (6)) < 264) ∧ ((0 ≤ (x4) ∧ (x4) < 264) ∧ ((0 ≤ (x4) ∧ (x4) < 264) ∧ ((0 ≤ ((x4) + (2)) ∧ ((x4) + (2)) < 264) ∧ ((0 ≤ ((x4) + (2)) ∧ ((x4) + (2)) < 264) ∧ (xPT (xup (xup (xup (xup (F) (140) ((x4) + (3)) ((F) (140) (x4))) (140) ((x4) + (6)) ((F) (140) ((x4) + (6)))) (140) (x4) (((F) (140) (x4)) - (1))) (140) ((x4) + (2)) (((F) (140) ((x4) + (2))) + (1))) → xW X d 176 241 [.ref (131), vi (x1), vi (x2), vi (x3), vi (x4), vi (x5), vi (x6), vi ((x2) - (((F) (140) ((x4) + (2))) * (x5)))] [] (xup (xup (xup (xup (F) (140) ((x4) + (3)) ((F) (140) (x4))) (140) ((x4) + (6)) ((F) (140) ((x4) + (6)))) (140) (x4) (((F) (140) (x4)) - (1))) (140) ((x4) + (2)) (((F) (140) ((x4) + (2))) + (1))) (xqv Q))))))))) ∧ (¬ (((x2) - (((F) (140) ((x4) + (2))) * (x5))) ≤ ((F) (140) ((x4) + (6)))) → ((0 ≤ ((x4) + (6)) ∧ ((x4) + (6)) < 264) ∧ ((0 ≤ (x4) ∧ (x4) < 264) ∧ ((0 ≤ (x4) ∧ (x4) < 264) ∧ ((0 ≤ ((x4) + (2)) ∧ ((x4) + (2)) < 264) ∧ ((0 ≤ ((x4) + (2)) ∧ ((x4) + (2)) < 264) ∧ (xPT (xup (xup (xup (xup (F) (140) ((x4) + (3)) ((F) (140) (x4))) (140) ((x4) + (6)) ((x2) - (((F) (140) ((x4) + (2))) * (x5)))) (140) (x4) (((F) (140) (x4)) - (1))) (140) ((x4) + (2)) (((F) (140) ((x4) + (2))) + (1))) → xW X d 176 241 [.ref (131), vi (x1), vi (x2), vi (x3), vi (x4), vi (x5), vi (x6), vi ((x2) - (((F) (140) ((x4) + (2))) * (x5)))] [] (xup (xup (xup (xup (F) (140) ((x4) + (3)) ((F) (140) (x4))) (140) ((x4) + (6)) ((x2) - (((F) (140) ((x4) + (2))) * (x5)))) (140) (x4) (((F) (140) (x4)) - (1))) (140) ((x4) + (2)) (((F) (140) ((x4) + (2))) + (1))) (xqv Q))))))))))))))))))))))))))))))) : xW X d 176 79 [.ref (131), vi (x1), vi (x2), vi (x3), vi (x4), vi (x5), vi (x6), w7] [] F (xqv Q) := by
  refine xw_aload_n (n := 80) (show xlook 176 79 = some (79, .aload_n 0, 1, 0, 0, 0, 0) from xlk (by decide +kernel)) rfl rfl ?_
  refine xw_getr (q := 140) (show xlook 176 80 = some (80, .getfield 42, 3, 12, 18, 0, 229) from xlk (by decide +kernel)) (by decide) (xobf xob_12 (by decide) (by decide)) rfl (xPT_get (k := 18) (f := 9) hPT xob_12 (by decide)) (by have := (xtg_12_18 _ xob_12.1 xob_12.2).1.1; omega) (n := 83) rfl ?_
  refine xw_iload (n := 85) (show xlook 176 83 = some (83, .iload 4, 2, 0, 0, 0, 0) from xlk (by decide +kernel)) rfl rfl ?_
  refine xw_iconst (n := 86) (show xlook 176 85 = some (85, .iconst 3, 1, 0, 0, 0, 0) from xlk (by decide +kernel)) rfl ?_
  refine xw_iadd (n := 87) (show xlook 176 86 = some (86, .iadd, 1, 0, 0, 0, 0) from xlk (by decide +kernel)) rfl ?_
  refine xw_aload_n (n := 88) (show xlook 176 87 = some (87, .aload_n 0, 1, 0, 0, 0, 0) from xlk (by decide +kernel)) rfl rfl ?_
  refine xw_getr (q := 140) (show xlook 176 88 = some (88, .getfield 42, 3, 12, 18, 0, 229) from xlk (by decide +kernel)) (by decide) (xobf xob_12 (by decide) (by decide)) rfl (xPT_get (k := 18) (f := 9) hPT xob_12 (by decide)) (by have := (xtg_12_18 _ xob_12.1 xob_12.2).1.1; omega) (n := 91) rfl ?_
  refine xw_iload (n := 93) (show xlook 176 91 = some (91, .iload 4, 2, 0, 0, 0, 0) from xlk (by decide +kernel)) rfl rfl ?_
  obtain ⟨q1, t⟩ := t
  refine xw_iald (show xlook 176 93 = some (93, .iaload, 1, 0, 0, 0, 0) from xlk (by decide +kernel)) (xtg_12_18 _ xob_12.1 xob_12.2).1 (by rw [(xtg_12_18 _ xob_12.1 xob_12.2).2]; exact q1) (n := 94) rfl ?_
  refine xw_aload_n (n := 95) (show xlook 176 94 = some (94, .aload_n 0, 1, 0, 0, 0, 0) from xlk (by decide +kernel)) rfl rfl ?_
  refine xw_getr (q := 140) (show xlook 176 95 = some (95, .getfield 42, 3, 12, 18, 0, 229) from xlk (by decide +kernel)) (by decide) (xobf xob_12 (by decide) (by decide)) rfl (xPT_get (k := 18) (f := 9) hPT xob_12 (by decide)) (by have := (xtg_12_18 _ xob_12.1 xob_12.2).1.1; omega) (n := 98) rfl ?_
  refine xw_iload (n := 100) (show xlook 176 98 = some (98, .iload 4, 2, 0, 0, 0, 0) from xlk (by decide +kernel)) rfl rfl ?_
  refine xw_iconst (n := 101) (show xlook 176 100 = some (100, .iconst 3, 1, 0, 0, 0, 0) from xlk (by decide +kernel)) rfl ?_
  refine xw_iadd (n := 102) (show xlook 176 101 = some (101, .iadd, 1, 0, 0, 0, 0) from xlk (by decide +kernel)) rfl ?_
  obtain ⟨q1, t⟩ := t
  refine xw_iald (show xlook 176 102 = some (102, .iaload, 1, 0, 0, 0, 0) from xlk (by decide +kernel)) (xtg_12_18 _ xob_12.1 xob_12.2).1 (by rw [(xtg_12_18 _ xob_12.1 xob_12.2).2]; exact q1) (n := 103) rfl ?_
  obtain ⟨q0, q1, t⟩ := t
  refine xw_icmp_le (n := 106) (m := 116) (show xlook 176 103 = some (103, .if_icmp .le 13, 3, 116, 0, 0, 0) from xlk (by decide +kernel)) rfl rfl q0 q1 ⟨fun c => ?_, fun c => ?_⟩
  · replace t := t.1 c
    refine xw_aload_n (n := 117) (show xlook 176 116 = some (116, .aload_n 0, 1, 0, 0, 0, 0) from xlk (by decide +kernel)) rfl rfl ?_
    refine xw_getr (q := 140) (show xlook 176 117 = some (117, .getfield 42, 3, 12, 18, 0, 229) from xlk (by decide +kernel)) (by decide) (xobf xob_12 (by decide) (by decide)) rfl (xPT_get (k := 18) (f := 9) hPT xob_12 (by decide)) (by have := (xtg_12_18 _ xob_12.1 xob_12.2).1.1; omega) (n := 120) rfl ?_
    refine xw_iload (n := 122) (show xlook 176 120 = some (120, .iload 4, 2, 0, 0, 0, 0) from xlk (by decide +kernel)) rfl rfl ?_
    refine xw_iconst (n := 123) (show xlook 176 122 = some (122, .iconst 3, 1, 0, 0, 0, 0) from xlk (by decide +kernel)) rfl ?_
    refine xw_iadd (n := 124) (show xlook 176 123 = some (123, .iadd, 1, 0, 0, 0, 0) from xlk (by decide +kernel)) rfl ?_
    obtain ⟨q1, t⟩ := t
    refine xw_iald (show xlook 176 124 = some (124, .iaload, 1, 0, 0, 0, 0) from xlk (by decide +kernel)) (xtg_12_18 _ xob_12.1 xob_12.2).1 (by rw [(xtg_12_18 _ xob_12.1 xob_12.2).2]; exact q1) (n := 125) rfl ?_
    obtain ⟨q1, t⟩ := t
    refine xw_iast (show xlook 176 125 = some (125, .iastore, 1, 0, 0, 0, 0) from xlk (by decide +kernel)) (xtg_12_18 _ xob_12.1 xob_12.2).1 (by rw [(xtg_12_18 _ xob_12.1 xob_12.2).2]; exact q1) (n := 126) rfl ?_
    refine xw_iload (n := 128) (show xlook 176 126 = some (126, .iload 6, 2, 0, 0, 0, 0) from xlk (by decide +kernel)) rfl rfl ?_
    obtain ⟨q0, t⟩ := t
    refine xw_if_ne (n := 131) (m := 241) (show xlook 176 128 = some (128, .ifCond .ne 113, 3, 241, 0, 0, 0) from xlk (by decide +kernel)) rfl rfl q0 ⟨fun c => ?_, fun c => ?_⟩
    · replace t := t.1 c
      exact t (xPT_arr hPT (Or.inl (xtg_12_18 _ xob_12.1 xob_12.2).1.2))
    · replace t := t.2 c
      refine xw_iload_n (n := 132) (show xlook 176 131 = some (131, .iload_n 2, 1, 0, 0, 0, 0) from xlk (by decide +kernel)) rfl rfl ?_
      refine xw_aload_n (n := 133) (show xlook 176 132 = some (132, .aload_n 0, 1, 0, 0, 0, 0) from xlk (by decide +kernel)) rfl rfl ?_
      refine xw_getr (q := 132) (show xlook 176 133 = some (133, .getfield 13, 3, 12, 1, 0, 220) from xlk (by decide +kernel)) (by decide) (xobf xob_12 (by decide) (by decide)) rfl (xPT_get (k := 1) (f := 1) (xPT_arr hPT (Or.inl (xtg_12_18 _ xob_12.1 xob_12.2).1.2)) xob_12 (by decide)) (by have := (xtg_12_1 _ xob_12.1 xob_12.2).1.1; omega) (n := 136) rfl ?_
      refine xw_bipush (n := 138) (show xlook 176 136 = some (136, .bipush 8, 2, 0, 0, 0, 0) from xlk (by decide +kernel)) rfl (by decide) ?_
      refine xw_bipush (n := 140) (show xlook 176 138 = some (138, .bipush 7, 2, 0, 0, 0, 0) from xlk (by decide +kernel)) rfl (by decide) ?_
      refine xw_iload_n (n := 141) (show xlook 176 140 = some (140, .iload_n 3, 1, 0, 0, 0, 0) from xlk (by decide +kernel)) rfl rfl ?_
      refine xw_imul (n := 142) (show xlook 176 141 = some (141, .imul, 1, 0, 0, 0, 0) from xlk (by decide +kernel)) rfl ?_
      refine xw_iadd (n := 143) (show xlook 176 142 = some (142, .iadd, 1, 0, 0, 0, 0) from xlk (by decide +kernel)) rfl ?_
      refine xw_bipush (n := 145) (show xlook 176 143 = some (143, .bipush 6, 2, 0, 0, 0, 0) from xlk (by decide +kernel)) rfl (by decide) ?_
      refine xw_iadd (n := 146) (show xlook 176 145 = some (145, .iadd, 1, 0, 0, 0, 0) from xlk (by decide +kernel)) rfl ?_
      obtain ⟨q1, t⟩ := t
      refine xw_iald2 (u := (F) (132) (((8) + ((7) * (x3))) + (6))) (show xlook 176 146 = some (146, .iaload, 1, 0, 0, 0, 0) from xlk (by decide +kernel)) (xtg_12_1 _ xob_12.1 xob_12.2).1 (by rw [(xtg_12_1 _ xob_12.1 xob_12.2).2]; exact q1) (xup_o (by decide)) (n := 147) rfl ?_
      obtain ⟨q1, q2, t⟩ := t
      refine xw_irem (n := 148) (show xlook 176 147 = some (147, .irem, 1, 0, 0, 0, 0) from xlk (by decide +kernel)) rfl q1 q2 ?_
      obtain ⟨q0, t⟩ := t
      refine xw_if_ne (n := 151) (m := 241) (show xlook 176 148 = some (148, .ifCond .ne 93, 3, 241, 0, 0, 0) from xlk (by decide +kernel)) rfl rfl q0 ⟨fun c => ?_, fun c => ?_⟩
      · replace t := t.1 c
        exact t (xPT_arr hPT (Or.inl (xtg_12_18 _ xob_12.1 xob_12.2).1.2))
      · replace t := t.2 c
        refine xw_aload_n (n := 152) (show xlook 176 151 = some (151, .aload_n 0, 1, 0, 0, 0, 0) from xlk (by decide +kernel)) rfl rfl ?_
        refine xw_getr (q := 140) (show xlook 176 152 = some (152, .getfield 42, 3, 12, 18, 0, 229) from xlk (by decide +kernel)) (by decide) (xobf xob_12 (by decide) (by decide)) rfl (xPT_get (k := 18) (f := 9) (xPT_arr hPT (Or.inl (xtg_12_18 _ xob_12.1 xob_12.2).1.2)) xob_12 (by decide)) (by have := (xtg_12_18 _ xob_12.1 xob_12.2).1.1; omega) (n := 155) rfl ?_
        refine xw_iload (n := 157) (show xlook 176 155 = some (155, .iload 4, 2, 0, 0, 0, 0) from xlk (by decide +kernel)) rfl rfl ?_
        obtain ⟨q1, t⟩ := t
        refine xw_iald2 (u := (F) (140) (x4)) (show xlook 176 157 = some (157, .iaload, 1, 0, 0, 0, 0) from xlk (by decide +kernel)) (xtg_12_18 _ xob_12.1 xob_12.2).1 (by rw [(xtg_12_18 _ xob_12.1 xob_12.2).2]; exact q1) (xup_i (by omega)) (n := 158) rfl ?_
        obtain ⟨q0, t⟩ := t
        refine xw_if_le (n := 161) (m := 241) (show xlook 176 158 = some (158, .ifCond .le 83, 3, 241, 0, 0, 0) from xlk (by decide +kernel)) rfl rfl q0 ⟨fun c => ?_, fun c => ?_⟩
        · replace t := t.1 c
          exact t (xPT_arr hPT (Or.inl (xtg_12_18 _ xob_12.1 xob_12.2).1.2))
        · replace t := t.2 c
          refine xw_iload_n (n := 162) (show xlook 176 161 = some (161, .iload_n 2, 1, 0, 0, 0, 0) from xlk (by decide +kernel)) rfl rfl ?_
          refine xw_aload_n (n := 163) (show xlook 176 162 = some (162, .aload_n 0, 1, 0, 0, 0, 0) from xlk (by decide +kernel)) rfl rfl ?_
          refine xw_getr (q := 140) (show xlook 176 163 = some (163, .getfield 42, 3, 12, 18, 0, 229) from xlk (by decide +kernel)) (by decide) (xobf xob_12 (by decide) (by decide)) rfl (xPT_get (k := 18) (f := 9) (xPT_arr hPT (Or.inl (xtg_12_18 _ xob_12.1 xob_12.2).1.2)) xob_12 (by decide)) (by have := (xtg_12_18 _ xob_12.1 xob_12.2).1.1; omega) (n := 166) rfl ?_
          refine xw_iload (n := 168) (show xlook 176 166 = some (166, .iload 4, 2, 0, 0, 0, 0) from xlk (by decide +kernel)) rfl rfl ?_
          refine xw_iconst (n := 169) (show xlook 176 168 = some (168, .iconst 2, 1, 0, 0, 0, 0) from xlk (by decide +kernel)) rfl ?_
          refine xw_iadd (n := 170) (show xlook 176 169 = some (169, .iadd, 1, 0, 0, 0, 0) from xlk (by decide +kernel)) rfl ?_
          obtain ⟨q1, t⟩ := t
          refine xw_iald2 (u := (F) (140) ((x4) + (2))) (show xlook 176 170 = some (170, .iaload, 1, 0, 0, 0, 0) from xlk (by decide +kernel)) (xtg_12_18 _ xob_12.1 xob_12.2).1 (by rw [(xtg_12_18 _ xob_12.1 xob_12.2).2]; exact q1) (xup_i (by omega)) (n := 171) rfl ?_
          refine xw_iload (n := 173) (show xlook 176 171 = some (171, .iload 5, 2, 0, 0, 0, 0) from xlk (by decide +kernel)) rfl rfl ?_
          refine xw_imul (n := 174) (show xlook 176 173 = some (173, .imul, 1, 0, 0, 0, 0) from xlk (by decide +kernel)) rfl ?_
          refine xw_isub (n := 175) (show xlook 176 174 = some (174, .isub, 1, 0, 0, 0, 0) from xlk (by decide +kernel)) rfl ?_
          refine xw_istore (n := 177) (show xlook 176 175 = some (175, .istore 7, 2, 0, 0, 0, 0) from xlk (by decide +kernel)) rfl (ls' := [.ref (131), vi (x1), vi (x2), vi (x3), vi (x4), vi (x5), vi (x6), vi ((x2) - (((F) (140) ((x4) + (2))) * (x5)))]) (Nat.le_of_ble_eq_true rfl) rfl ?_
          refine xw_aload_n (n := 178) (show xlook 176 177 = some (177, .aload_n 0, 1, 0, 0, 0, 0) from xlk (by decide +kernel)) rfl rfl ?_
          refine xw_getr (q := 140) (show xlook 176 178 = some (178, .getfield 42, 3, 12, 18, 0, 229) from xlk (by decide +kernel)) (by decide) (xobf xob_12 (by decide) (by decide)) rfl (xPT_get (k := 18) (f := 9) (xPT_arr hPT (Or.inl (xtg_12_18 _ xob_12.1 xob_12.2).1.2)) xob_12 (by decide)) (by have := (xtg_12_18 _ xob_12.1 xob_12.2).1.1; omega) (n := 181) rfl ?_
          refine xw_iload (n := 183) (show xlook 176 181 = some (181, .iload 4, 2, 0, 0, 0, 0) from xlk (by decide +kernel)) rfl rfl ?_
          refine xw_bipush (n := 185) (show xlook 176 183 = some (183, .bipush 6, 2, 0, 0, 0, 0) from xlk (by decide +kernel)) rfl (by decide) ?_
          refine xw_iadd (n := 186) (show xlook 176 185 = some (185, .iadd, 1, 0, 0, 0, 0) from xlk (by decide +kernel)) rfl ?_
          refine xw_iload (n := 188) (show xlook 176 186 = some (186, .iload 7, 2, 0, 0, 0, 0) from xlk (by decide +kernel)) rfl rfl ?_
          refine xw_aload_n (n := 189) (show xlook 176 188 = some (188, .aload_n 0, 1, 0, 0, 0, 0) from xlk (by decide +kernel)) rfl rfl ?_
          refine xw_getr (q := 140) (show xlook 176 189 = some (189, .getfield 42, 3, 12, 18, 0, 229) from xlk (by decide +kernel)) (by decide) (xobf xob_12 (by decide) (by decide)) rfl (xPT_get (k := 18) (f := 9) (xPT_arr hPT (Or.inl (xtg_12_18 _ xob_12.1 xob_12.2).1.2)) xob_12 (by decide)) (by have := (xtg_12_18 _ xob_12.1 xob_12.2).1.1; omega) (n := 192) rfl ?_
          refine xw_iload (n := 194) (show xlook 176 192 = some (192, .iload 4, 2, 0, 0, 0, 0) from xlk (by decide +kernel)) rfl rfl ?_
          refine xw_bipush (n := 196) (show xlook 176 194 = some (194, .bipush 6, 2, 0, 0, 0, 0) from xlk (by decide +kernel)) rfl (by decide) ?_
          refine xw_iadd (n := 197) (show xlook 176 196 = some (196, .iadd, 1, 0, 0, 0, 0) from xlk (by decide +kernel)) rfl ?_
          obtain ⟨q1, t⟩ := t
          refine xw_iald2 (u := (F) (140) ((x4) + (6))) (show xlook 176 197 = some (197, .iaload, 1, 0, 0, 0, 0) from xlk (by decide +kernel)) (xtg_12_18 _ xob_12.1 xob_12.2).1 (by rw [(xtg_12_18 _ xob_12.1 xob_12.2).2]; exact q1) (xup_i (by omega)) (n := 198) rfl ?_
          obtain ⟨q0, q1, t⟩ := t
          refine xw_icmp_le (n := 201) (m := 206) (show xlook 176 198 = some (198, .if_icmp .le 8, 3, 206, 0, 0, 0) from xlk (by decide +kernel)) rfl rfl q0 q1 ⟨fun c => ?_, fun c => ?_⟩
          · replace t := t.1 c
            refine xw_aload_n (n := 207) (show xlook 176 206 = some (206, .aload_n 0, 1, 0, 0, 0, 0) from xlk (by decide +kernel)) rfl rfl ?_
            refine xw_getr (q := 140) (show xlook 176 207 = some (207, .getfield 42, 3, 12, 18, 0, 229) from xlk (by decide +kernel)) (by decide) (xobf xob_12 (by decide) (by decide)) rfl (xPT_get (k := 18) (f := 9) (xPT_arr hPT (Or.inl (xtg_12_18 _ xob_12.1 xob_12.2).1.2)) xob_12 (by decide)) (by have := (xtg_12_18 _ xob_12.1 xob_12.2).1.1; omega) (n := 210) rfl ?_
            refine xw_iload (n := 212) (show xlook 176 210 = some (210, .iload 4, 2, 0, 0, 0, 0) from xlk (by decide +kernel)) rfl rfl ?_
            refine xw_bipush (n := 214) (show xlook 176 212 = some (212, .bipush 6, 2, 0, 0, 0, 0) from xlk (by decide +kernel)) rfl (by decide) ?_
            refine xw_iadd (n := 215) (show xlook 176 214 = some (214, .iadd, 1, 0, 0, 0, 0) from xlk (by decide +kernel)) rfl ?_
            obtain ⟨q1, t⟩ := t
            refine xw_iald2 (u := (F) (140) ((x4) + (6))) (show xlook 176 215 = some (215, .iaload, 1, 0, 0, 0, 0) from xlk (by decide +kernel)) (xtg_12_18 _ xob_12.1 xob_12.2).1 (by rw [(xtg_12_18 _ xob_12.1 xob_12.2).2]; exact q1) (xup_i (by omega)) (n := 216) rfl ?_
            obtain ⟨q1, t⟩ := t
            refine xw_iast (show xlook 176 216 = some (216, .iastore, 1, 0, 0, 0, 0) from xlk (by decide +kernel)) (xtg_12_18 _ xob_12.1 xob_12.2).1 (by rw [(xtg_12_18 _ xob_12.1 xob_12.2).2]; exact q1) (n := 217) rfl ?_
            refine xw_aload_n (n := 218) (show xlook 176 217 = some (217, .aload_n 0, 1, 0, 0, 0, 0) from xlk (by decide +kernel)) rfl rfl ?_
            refine xw_getr (q := 140) (show xlook 176 218 = some (218, .getfield 42, 3, 12, 18, 0, 229) from xlk (by decide +kernel)) (by decide) (xobf xob_12 (by decide) (by decide)) rfl (xPT_get (k := 18) (f := 9) (xPT_arr (xPT_arr hPT (Or.inl (xtg_12_18 _ xob_12.1 xob_12.2).1.2)) (Or.inl (xtg_12_18 _ xob_12.1 xob_12.2).1.2)) xob_12 (by decide)) (by have := (xtg_12_18 _ xob_12.1 xob_12.2).1.1; omega) (n := 221) rfl ?_
            refine xw_iload (n := 223) (show xlook 176 221 = some (221, .iload 4, 2, 0, 0, 0, 0) from xlk (by decide +kernel)) rfl rfl ?_
            refine xw_dup2 (n := 224) (show xlook 176 223 = some (223, .dup2, 1, 0, 0, 0, 0) from xlk (by decide +kernel)) rfl ?_
            obtain ⟨q1, t⟩ := t
            refine xw_iald2 (u := (F) (140) (x4)) (show xlook 176 224 = some (224, .iaload, 1, 0, 0, 0, 0) from xlk (by decide +kernel)) (xtg_12_18 _ xob_12.1 xob_12.2).1 (by rw [(xtg_12_18 _ xob_12.1 xob_12.2).2]; exact q1) ((xup_i (by omega)).trans (xup_i (by omega))) (n := 225) rfl ?_
            refine xw_iconst (n := 226) (show xlook 176 225 = some (225, .iconst 1, 1, 0, 0, 0, 0) from xlk (by decide +kernel)) rfl ?_
            refine xw_isub (n := 227) (show xlook 176 226 = some (226, .isub, 1, 0, 0, 0, 0) from xlk (by decide +kernel)) rfl ?_
            obtain ⟨q1, t⟩ := t
            refine xw_iast (show xlook 176 227 = some (227, .iastore, 1, 0, 0, 0, 0) from xlk (by decide +kernel)) (xtg_12_18 _ xob_12.1 xob_12.2).1 (by rw [(xtg_12_18 _ xob_12.1 xob_12.2).2]; exact q1) (n := 228) rfl ?_
            refine xw_aload_n (n := 229) (show xlook 176 228 = some (228, .aload_n 0, 1, 0, 0, 0, 0) from xlk (by decide +kernel)) rfl rfl ?_
            refine xw_getr (q := 140) (show xlook 176 229 = some (229, .getfield 42, 3, 12, 18, 0, 229) from xlk (by decide +kernel)) (by decide) (xobf xob_12 (by decide) (by decide)) rfl (xPT_get (k := 18) (f := 9) (xPT_arr (xPT_arr (xPT_arr hPT (Or.inl (xtg_12_18 _ xob_12.1 xob_12.2).1.2)) (Or.inl (xtg_12_18 _ xob_12.1 xob_12.2).1.2)) (Or.inl (xtg_12_18 _ xob_12.1 xob_12.2).1.2)) xob_12 (by decide)) (by have := (xtg_12_18 _ xob_12.1 xob_12.2).1.1; omega) (n := 232) rfl ?_
            refine xw_iload (n := 234) (show xlook 176 232 = some (232, .iload 4, 2, 0, 0, 0, 0) from xlk (by decide +kernel)) rfl rfl ?_
            refine xw_iconst (n := 235) (show xlook 176 234 = some (234, .iconst 2, 1, 0, 0, 0, 0) from xlk (by decide +kernel)) rfl ?_
            refine xw_iadd (n := 236) (show xlook 176 235 = some (235, .iadd, 1, 0, 0, 0, 0) from xlk (by decide +kernel)) rfl ?_
            refine xw_dup2 (n := 237) (show xlook 176 236 = some (236, .dup2, 1, 0, 0, 0, 0) from xlk (by decide +kernel)) rfl ?_
            obtain ⟨q1, t⟩ := t
            refine xw_iald2 (u := (F) (140) ((x4) + (2))) (show xlook 176 237 = some (237, .iaload, 1, 0, 0, 0, 0) from xlk (by decide +kernel)) (xtg_12_18 _ xob_12.1 xob_12.2).1 (by rw [(xtg_12_18 _ xob_12.1 xob_12.2).2]; exact q1) ((xup_i (by omega)).trans ((xup_i (by omega)).trans (xup_i (by omega)))) (n := 238) rfl ?_
            refine xw_iconst (n := 239) (show xlook 176 238 = some (238, .iconst 1, 1, 0, 0, 0, 0) from xlk (by decide +kernel)) rfl ?_
            refine xw_iadd (n := 240) (show xlook 176 239 = some (239, .iadd, 1, 0, 0, 0, 0) from xlk (by decide +kernel)) rfl ?_
            obtain ⟨q1, t⟩ := t
            refine xw_iast (show xlook 176 240 = some (240, .iastore, 1, 0, 0, 0, 0) from xlk (by decide +kernel)) (xtg_12_18 _ xob_12.1 xob_12.2).1 (by rw [(xtg_12_18 _ xob_12.1 xob_12.2).2]; exact q1) (n := 241) rfl ?_
            exact t (xPT_arr (xPT_arr (xPT_arr (xPT_arr hPT (Or.inl (xtg_12_18 _ xob_12.1 xob_12.2).1.2)) (Or.inl (xtg_12_18 _ xob_12.1 xob_12.2).1.2)) (Or.inl (xtg_12_18 _ xob_12.1 xob_12.2).1.2)) (Or.inl (xtg_12_18 _ xob_12.1 xob_12.2).1.2))
          · replace t := t.2 c
            refine xw_iload (n := 203) (show xlook 176 201 = some (201, .iload 7, 2, 0, 0, 0, 0) from xlk (by decide +kernel)) rfl rfl ?_
            refine xw_goto (m := 216) (show xlook 176 203 = some (203, .goto 13, 3, 216, 0, 0, 0) from xlk (by decide +kernel)) rfl ?_
            obtain ⟨q1, t⟩ := t
            refine xw_iast (show xlook 176 216 = some (216, .iastore, 1, 0, 0, 0, 0) from xlk (by decide +kernel)) (xtg_12_18 _ xob_12.1 xob_12.2).1 (by rw [(xtg_12_18 _ xob_12.1 xob_12.2).2]; exact q1) (n := 217) rfl ?_
            refine xw_aload_n (n := 218) (show xlook 176 217 = some (217, .aload_n 0, 1, 0, 0, 0, 0) from xlk (by decide +kernel)) rfl rfl ?_
            refine xw_getr (q := 140) (show xlook 176 218 = some (218, .getfield 42, 3, 12, 18, 0, 229) from xlk (by decide +kernel)) (by decide) (xobf xob_12 (by decide) (by decide)) rfl (xPT_get (k := 18) (f := 9) (xPT_arr (xPT_arr hPT (Or.inl (xtg_12_18 _ xob_12.1 xob_12.2).1.2)) (Or.inl (xtg_12_18 _ xob_12.1 xob_12.2).1.2)) xob_12 (by decide)) (by have := (xtg_12_18 _ xob_12.1 xob_12.2).1.1; omega) (n := 221) rfl ?_
            refine xw_iload (n := 223) (show xlook 176 221 = some (221, .iload 4, 2, 0, 0, 0, 0) from xlk (by decide +kernel)) rfl rfl ?_
            refine xw_dup2 (n := 224) (show xlook 176 223 = some (223, .dup2, 1, 0, 0, 0, 0) from xlk (by decide +kernel)) rfl ?_
            obtain ⟨q1, t⟩ := t
            refine xw_iald2 (u := (F) (140) (x4)) (show xlook 176 224 = some (224, .iaload, 1, 0, 0, 0, 0) from xlk (by decide +kernel)) (xtg_12_18 _ xob_12.1 xob_12.2).1 (by rw [(xtg_12_18 _ xob_12.1 xob_12.2).2]; exact q1) ((xup_i (by omega)).trans (xup_i (by omega))) (n := 225) rfl ?_
            refine xw_iconst (n := 226) (show xlook 176 225 = some (225, .iconst 1, 1, 0, 0, 0, 0) from xlk (by decide +kernel)) rfl ?_
            refine xw_isub (n := 227) (show xlook 176 226 = some (226, .isub, 1, 0, 0, 0, 0) from xlk (by decide +kernel)) rfl ?_
            obtain ⟨q1, t⟩ := t
            refine xw_iast (show xlook 176 227 = some (227, .iastore, 1, 0, 0, 0, 0) from xlk (by decide +kernel)) (xtg_12_18 _ xob_12.1 xob_12.2).1 (by rw [(xtg_12_18 _ xob_12.1 xob_12.2).2]; exact q1) (n := 228) rfl ?_
            refine xw_aload_n (n := 229) (show xlook 176 228 = some (228, .aload_n 0, 1, 0, 0, 0, 0) from xlk (by decide +kernel)) rfl rfl ?_
            refine xw_getr (q := 140) (show xlook 176 229 = some (229, .getfield 42, 3, 12, 18, 0, 229) from xlk (by decide +kernel)) (by decide) (xobf xob_12 (by decide) (by decide)) rfl (xPT_get (k := 18) (f := 9) (xPT_arr (xPT_arr (xPT_arr hPT (Or.inl (xtg_12_18 _ xob_12.1 xob_12.2).1.2)) (Or.inl (xtg_12_18 _ xob_12.1 xob_12.2).1.2)) (Or.inl (xtg_12_18 _ xob_12.1 xob_12.2).1.2)) xob_12 (by decide)) (by have := (xtg_12_18 _ xob_12.1 xob_12.2).1.1; omega) (n := 232) rfl ?_
            refine xw_iload (n := 234) (show xlook 176 232 = some (232, .iload 4, 2, 0, 0, 0, 0) from xlk (by decide +kernel)) rfl rfl ?_
            refine xw_iconst (n := 235) (show xlook 176 234 = some (234, .iconst 2, 1, 0, 0, 0, 0) from xlk (by decide +kernel)) rfl ?_
            refine xw_iadd (n := 236) (show xlook 176 235 = some (235, .iadd, 1, 0, 0, 0, 0) from xlk (by decide +kernel)) rfl ?_
            refine xw_dup2 (n := 237) (show xlook 176 236 = some (236, .dup2, 1, 0, 0, 0, 0) from xlk (by decide +kernel)) rfl ?_
            obtain ⟨q1, t⟩ := t
            refine xw_iald2 (u := (F) (140) ((x4) + (2))) (show xlook 176 237 = some (237, .iaload, 1, 0, 0, 0, 0) from xlk (by decide +kernel)) (xtg_12_18 _ xob_12.1 xob_12.2).1 (by rw [(xtg_12_18 _ xob_12.1 xob_12.2).2]; exact q1) ((xup_i (by omega)).trans ((xup_i (by omega)).trans (xup_i (by omega)))) (n := 238) rfl ?_
            refine xw_iconst (n := 239) (show xlook 176 238 = some (238, .iconst 1, 1, 0, 0, 0, 0) from xlk (by decide +kernel)) rfl ?_
            refine xw_iadd (n := 240) (show xlook 176 239 = some (239, .iadd, 1, 0, 0, 0, 0) from xlk (by decide +kernel)) rfl ?_
            obtain ⟨q1, t⟩ := t
            refine xw_iast (show xlook 176 240 = some (240, .iastore, 1, 0, 0, 0, 0) from xlk (by decide +kernel)) (xtg_12_18 _ xob_12.1 xob_12.2).1 (by rw [(xtg_12_18 _ xob_12.1 xob_12.2).2]; exact q1) (n := 241) rfl ?_
            exact t (xPT_arr (xPT_arr (xPT_arr (xPT_arr hPT (Or.inl (xtg_12_18 _ xob_12.1 xob_12.2).1.2)) (Or.inl (xtg_12_18 _ xob_12.1 xob_12.2).1.2)) (Or.inl (xtg_12_18 _ xob_12.1 xob_12.2).1.2)) (Or.inl (xtg_12_18 _ xob_12.1 xob_12.2).1.2))
  · replace t := t.2 c
    refine xw_aload_n (n := 107) (show xlook 176 106 = some (106, .aload_n 0, 1, 0, 0, 0, 0) from xlk (by decide +kernel)) rfl rfl ?_
    refine xw_getr (q := 140) (show xlook 176 107 = some (107, .getfield 42, 3, 12, 18, 0, 229) from xlk (by decide +kernel)) (by decide) (xobf xob_12 (by decide) (by decide)) rfl (xPT_get (k := 18) (f := 9) hPT xob_12 (by decide)) (by have := (xtg_12_18 _ xob_12.1 xob_12.2).1.1; omega) (n := 110) rfl ?_
    refine xw_iload (n := 112) (show xlook 176 110 = some (110, .iload 4, 2, 0, 0, 0, 0) from xlk (by decide +kernel)) rfl rfl ?_
    obtain ⟨q1, t⟩ := t
    refine xw_iald (show xlook 176 112 = some (112, .iaload, 1, 0, 0, 0, 0) from xlk (by decide +kernel)) (xtg_12_18 _ xob_12.1 xob_12.2).1 (by rw [(xtg_12_18 _ xob_12.1 xob_12.2).2]; exact q1) (n := 113) rfl ?_
    refine xw_goto (m := 125) (show xlook 176 113 = some (113, .goto 12, 3, 125, 0, 0, 0) from xlk (by decide +kernel)) rfl ?_
    obtain ⟨q1, t⟩ := t
    refine xw_iast (show xlook 176 125 = some (125, .iastore, 1, 0, 0, 0, 0) from xlk (by decide +kernel)) (xtg_12_18 _ xob_12.1 xob_12.2).1 (by rw [(xtg_12_18 _ xob_12.1 xob_12.2).2]; exact q1) (n := 126) rfl ?_
    refine xw_iload (n := 128) (show xlook 176 126 = some (126, .iload 6, 2, 0, 0, 0, 0) from xlk (by decide +kernel)) rfl rfl ?_
    obtain ⟨q0, t⟩ := t
    refine xw_if_ne (n := 131) (m := 241) (show xlook 176 128 = some (128, .ifCond .ne 113, 3, 241, 0, 0, 0) from xlk (by decide +kernel)) rfl rfl q0 ⟨fun c => ?_, fun c => ?_⟩
    · replace t := t.1 c
      exact t (xPT_arr hPT (Or.inl (xtg_12_18 _ xob_12.1 xob_12.2).1.2))
    · replace t := t.2 c
      refine xw_iload_n (n := 132) (show xlook 176 131 = some (131, .iload_n 2, 1, 0, 0, 0, 0) from xlk (by decide +kernel)) rfl rfl ?_
      refine xw_aload_n (n := 133) (show xlook 176 132 = some (132, .aload_n 0, 1, 0, 0, 0, 0) from xlk (by decide +kernel)) rfl rfl ?_
      refine xw_getr (q := 132) (show xlook 176 133 = some (133, .getfield 13, 3, 12, 1, 0, 220) from xlk (by decide +kernel)) (by decide) (xobf xob_12 (by decide) (by decide)) rfl (xPT_get (k := 1) (f := 1) (xPT_arr hPT (Or.inl (xtg_12_18 _ xob_12.1 xob_12.2).1.2)) xob_12 (by decide)) (by have := (xtg_12_1 _ xob_12.1 xob_12.2).1.1; omega) (n := 136) rfl ?_
      refine xw_bipush (n := 138) (show xlook 176 136 = some (136, .bipush 8, 2, 0, 0, 0, 0) from xlk (by decide +kernel)) rfl (by decide) ?_
      refine xw_bipush (n := 140) (show xlook 176 138 = some (138, .bipush 7, 2, 0, 0, 0, 0) from xlk (by decide +kernel)) rfl (by decide) ?_
      refine xw_iload_n (n := 141) (show xlook 176 140 = some (140, .iload_n 3, 1, 0, 0, 0, 0) from xlk (by decide +kernel)) rfl rfl ?_
      refine xw_imul (n := 142) (show xlook 176 141 = some (141, .imul, 1, 0, 0, 0, 0) from xlk (by decide +kernel)) rfl ?_
      refine xw_iadd (n := 143) (show xlook 176 142 = some (142, .iadd, 1, 0, 0, 0, 0) from xlk (by decide +kernel)) rfl ?_
      refine xw_bipush (n := 145) (show xlook 176 143 = some (143, .bipush 6, 2, 0, 0, 0, 0) from xlk (by decide +kernel)) rfl (by decide) ?_
      refine xw_iadd (n := 146) (show xlook 176 145 = some (145, .iadd, 1, 0, 0, 0, 0) from xlk (by decide +kernel)) rfl ?_
      obtain ⟨q1, t⟩ := t
      refine xw_iald2 (u := (F) (132) (((8) + ((7) * (x3))) + (6))) (show xlook 176 146 = some (146, .iaload, 1, 0, 0, 0, 0) from xlk (by decide +kernel)) (xtg_12_1 _ xob_12.1 xob_12.2).1 (by rw [(xtg_12_1 _ xob_12.1 xob_12.2).2]; exact q1) (xup_o (by decide)) (n := 147) rfl ?_
      obtain ⟨q1, q2, t⟩ := t
      refine xw_irem (n := 148) (show xlook 176 147 = some (147, .irem, 1, 0, 0, 0, 0) from xlk (by decide +kernel)) rfl q1 q2 ?_
      obtain ⟨q0, t⟩ := t
      refine xw_if_ne (n := 151) (m := 241) (show xlook 176 148 = some (148, .ifCond .ne 93, 3, 241, 0, 0, 0) from xlk (by decide +kernel)) rfl rfl q0 ⟨fun c => ?_, fun c => ?_⟩
      · replace t := t.1 c
        exact t (xPT_arr hPT (Or.inl (xtg_12_18 _ xob_12.1 xob_12.2).1.2))
      · replace t := t.2 c
        refine xw_aload_n (n := 152) (show xlook 176 151 = some (151, .aload_n 0, 1, 0, 0, 0, 0) from xlk (by decide +kernel)) rfl rfl ?_
        refine xw_getr (q := 140) (show xlook 176 152 = some (152, .getfield 42, 3, 12, 18, 0, 229) from xlk (by decide +kernel)) (by decide) (xobf xob_12 (by decide) (by decide)) rfl (xPT_get (k := 18) (f := 9) (xPT_arr hPT (Or.inl (xtg_12_18 _ xob_12.1 xob_12.2).1.2)) xob_12 (by decide)) (by have := (xtg_12_18 _ xob_12.1 xob_12.2).1.1; omega) (n := 155) rfl ?_
        refine xw_iload (n := 157) (show xlook 176 155 = some (155, .iload 4, 2, 0, 0, 0, 0) from xlk (by decide +kernel)) rfl rfl ?_
        obtain ⟨q1, t⟩ := t
        refine xw_iald2 (u := (F) (140) (x4)) (show xlook 176 157 = some (157, .iaload, 1, 0, 0, 0, 0) from xlk (by decide +kernel)) (xtg_12_18 _ xob_12.1 xob_12.2).1 (by rw [(xtg_12_18 _ xob_12.1 xob_12.2).2]; exact q1) (xup_i (by omega)) (n := 158) rfl ?_
        obtain ⟨q0, t⟩ := t
        refine xw_if_le (n := 161) (m := 241) (show xlook 176 158 = some (158, .ifCond .le 83, 3, 241, 0, 0, 0) from xlk (by decide +kernel)) rfl rfl q0 ⟨fun c => ?_, fun c => ?_⟩
        · replace t := t.1 c
          exact t (xPT_arr hPT (Or.inl (xtg_12_18 _ xob_12.1 xob_12.2).1.2))
        · replace t := t.2 c
          refine xw_iload_n (n := 162) (show xlook 176 161 = some (161, .iload_n 2, 1, 0, 0, 0, 0) from xlk (by decide +kernel)) rfl rfl ?_
          refine xw_aload_n (n := 163) (show xlook 176 162 = some (162, .aload_n 0, 1, 0, 0, 0, 0) from xlk (by decide +kernel)) rfl rfl ?_
          refine xw_getr (q := 140) (show xlook 176 163 = some (163, .getfield 42, 3, 12, 18, 0, 229) from xlk (by decide +kernel)) (by decide) (xobf xob_12 (by decide) (by decide)) rfl (xPT_get (k := 18) (f := 9) (xPT_arr hPT (Or.inl (xtg_12_18 _ xob_12.1 xob_12.2).1.2)) xob_12 (by decide)) (by have := (xtg_12_18 _ xob_12.1 xob_12.2).1.1; omega) (n := 166) rfl ?_
          refine xw_iload (n := 168) (show xlook 176 166 = some (166, .iload 4, 2, 0, 0, 0, 0) from xlk (by decide +kernel)) rfl rfl ?_
          refine xw_iconst (n := 169) (show xlook 176 168 = some (168, .iconst 2, 1, 0, 0, 0, 0) from xlk (by decide +kernel)) rfl ?_
          refine xw_iadd (n := 170) (show xlook 176 169 = some (169, .iadd, 1, 0, 0, 0, 0) from xlk (by decide +kernel)) rfl ?_
          obtain ⟨q1, t⟩ := t
          refine xw_iald2 (u := (F) (140) ((x4) + (2))) (show xlook 176 170 = some (170, .iaload, 1, 0, 0, 0, 0) from xlk (by decide +kernel)) (xtg_12_18 _ xob_12.1 xob_12.2).1 (by rw [(xtg_12_18 _ xob_12.1 xob_12.2).2]; exact q1) (xup_i (by omega)) (n := 171) rfl ?_
          refine xw_iload (n := 173) (show xlook 176 171 = some (171, .iload 5, 2, 0, 0, 0, 0) from xlk (by decide +kernel)) rfl rfl ?_
          refine xw_imul (n := 174) (show xlook 176 173 = some (173, .imul, 1, 0, 0, 0, 0) from xlk (by decide +kernel)) rfl ?_
          refine xw_isub (n := 175) (show xlook 176 174 = some (174, .isub, 1, 0, 0, 0, 0) from xlk (by decide +kernel)) rfl ?_
          refine xw_istore (n := 177) (show xlook 176 175 = some (175, .istore 7, 2, 0, 0, 0, 0) from xlk (by decide +kernel)) rfl (ls' := [.ref (131), vi (x1), vi (x2), vi (x3), vi (x4), vi (x5), vi (x6), vi ((x2) - (((F) (140) ((x4) + (2))) * (x5)))]) (Nat.le_of_ble_eq_true rfl) rfl ?_
          refine xw_aload_n (n := 178) (show xlook 176 177 = some (177, .aload_n 0, 1, 0, 0, 0, 0) from xlk (by decide +kernel)) rfl rfl ?_
          refine xw_getr (q := 140) (show xlook 176 178 = some (178, .getfield 42, 3, 12, 18, 0, 229) from xlk (by decide +kernel)) (by decide) (xobf xob_12 (by decide) (by decide)) rfl (xPT_get (k := 18) (f := 9) (xPT_arr hPT (Or.inl (xtg_12_18 _ xob_12.1 xob_12.2).1.2)) xob_12 (by decide)) (by have := (xtg_12_18 _ xob_12.1 xob_12.2).1.1; omega) (n := 181) rfl ?_
          refine xw_iload (n := 183) (show xlook 176 181 = some (181, .iload 4, 2, 0, 0, 0, 0) from xlk (by decide +kernel)) rfl rfl ?_
          refine xw_bipush (n := 185) (show xlook 176 183 = some (183, .bipush 6, 2, 0, 0, 0, 0) from xlk (by decide +kernel)) rfl (by decide) ?_
          refine xw_iadd (n := 186) (show xlook 176 185 = some (185, .iadd, 1, 0, 0, 0, 0) from xlk (by decide +kernel)) rfl ?_
          refine xw_iload (n := 188) (show xlook 176 186 = some (186, .iload 7, 2, 0, 0, 0, 0) from xlk (by decide +kernel)) rfl rfl ?_
          refine xw_aload_n (n := 189) (show xlook 176 188 = some (188, .aload_n 0, 1, 0, 0, 0, 0) from xlk (by decide +kernel)) rfl rfl ?_
          refine xw_getr (q := 140) (show xlook 176 189 = some (189, .getfield 42, 3, 12, 18, 0, 229) from xlk (by decide +kernel)) (by decide) (xobf xob_12 (by decide) (by decide)) rfl (xPT_get (k := 18) (f := 9) (xPT_arr hPT (Or.inl (xtg_12_18 _ xob_12.1 xob_12.2).1.2)) xob_12 (by decide)) (by have := (xtg_12_18 _ xob_12.1 xob_12.2).1.1; omega) (n := 192) rfl ?_
          refine xw_iload (n := 194) (show xlook 176 192 = some (192, .iload 4, 2, 0, 0, 0, 0) from xlk (by decide +kernel)) rfl rfl ?_
          refine xw_bipush (n := 196) (show xlook 176 194 = some (194, .bipush 6, 2, 0, 0, 0, 0) from xlk (by decide +kernel)) rfl (by decide) ?_
          refine xw_iadd (n := 197) (show xlook 176 196 = some (196, .iadd, 1, 0, 0, 0, 0) from xlk (by decide +kernel)) rfl ?_
          obtain ⟨q1, t⟩ := t
          refine xw_iald2 (u := (F) (140) ((x4) + (6))) (show xlook 176 197 = some (197, .iaload, 1, 0, 0, 0, 0) from xlk (by decide +kernel)) (xtg_12_18 _ xob_12.1 xob_12.2).1 (by rw [(xtg_12_18 _ xob_12.1 xob_12.2).2]; exact q1) (xup_i (by omega)) (n := 198) rfl ?_
          obtain ⟨q0, q1, t⟩ := t
          refine xw_icmp_le (n := 201) (m := 206) (show xlook 176 198 = some (198, .if_icmp .le 8, 3, 206, 0, 0, 0) from xlk (by decide +kernel)) rfl rfl q0 q1 ⟨fun c => ?_, fun c => ?_⟩
          · replace t := t.1 c
            refine xw_aload_n (n := 207) (show xlook 176 206 = some (206, .aload_n 0, 1, 0, 0, 0, 0) from xlk (by decide +kernel)) rfl rfl ?_
            refine xw_getr (q := 140) (show xlook 176 207 = some (207, .getfield 42, 3, 12, 18, 0, 229) from xlk (by decide +kernel)) (by decide) (xobf xob_12 (by decide) (by decide)) rfl (xPT_get (k := 18) (f := 9) (xPT_arr hPT (Or.inl (xtg_12_18 _ xob_12.1 xob_12.2).1.2)) xob_12 (by decide)) (by have := (xtg_12_18 _ xob_12.1 xob_12.2).1.1; omega) (n := 210) rfl ?_
            refine xw_iload (n := 212) (show xlook 176 210 = some (210, .iload 4, 2, 0, 0, 0, 0) from xlk (by decide +kernel)) rfl rfl ?_
            refine xw_bipush (n := 214) (show xlook 176 212 = some (212, .bipush 6, 2, 0, 0, 0, 0) from xlk (by decide +kernel)) rfl (by decide) ?_
            refine xw_iadd (n := 215) (show xlook 176 214 = some (214, .iadd, 1, 0, 0, 0, 0) from xlk (by decide +kernel)) rfl ?_
            obtain ⟨q1, t⟩ := t
            refine xw_iald2 (u := (F) (140) ((x4) + (6))) (show xlook 176 215 = some (215, .iaload, 1, 0, 0, 0, 0) from xlk (by decide +kernel)) (xtg_12_18 _ xob_12.1 xob_12.2).1 (by rw [(xtg_12_18 _ xob_12.1 xob_12.2).2]; exact q1) (xup_i (by omega)) (n := 216) rfl ?_
            obtain ⟨q1, t⟩ := t
            refine xw_iast (show xlook 176 216 = some (216, .iastore, 1, 0, 0, 0, 0) from xlk (by decide +kernel)) (xtg_12_18 _ xob_12.1 xob_12.2).1 (by rw [(xtg_12_18 _ xob_12.1 xob_12.2).2]; exact q1) (n := 217) rfl ?_
            refine xw_aload_n (n := 218) (show xlook 176 217 = some (217, .aload_n 0, 1, 0, 0, 0, 0) from xlk (by decide +kernel)) rfl rfl ?_
            refine xw_getr (q := 140) (show xlook 176 218 = some (218, .getfield 42, 3, 12, 18, 0, 229) from xlk (by decide +kernel)) (by decide) (xobf xob_12 (by decide) (by decide)) rfl (xPT_get (k := 18) (f := 9) (xPT_arr (xPT_arr hPT (Or.inl (xtg_12_18 _ xob_12.1 xob_12.2).1.2)) (Or.inl (xtg_12_18 _ xob_12.1 xob_12.2).1.2)) xob_12 (by decide)) (by have := (xtg_12_18 _ xob_12.1 xob_12.2).1.1; omega) (n := 221) rfl ?_
            refine xw_iload (n := 223) (show xlook 176 221 = some (221, .iload 4, 2, 0, 0, 0, 0) from xlk (by decide +kernel)) rfl rfl ?_
            refine xw_dup2 (n := 224) (show xlook 176 223 = some (223, .dup2, 1, 0, 0, 0, 0) from xlk (by decide +kernel)) rfl ?_
            obtain ⟨q1, t⟩ := t
            refine xw_iald2 (u := (F) (140) (x4)) (show xlook 176 224 = some (224, .iaload, 1, 0, 0, 0, 0) from xlk (by decide +kernel)) (xtg_12_18 _ xob_12.1 xob_12.2).1 (by rw [(xtg_12_18 _ xob_12.1 xob_12.2).2]; exact q1) ((xup_i (by omega)).trans (xup_i (by omega))) (n := 225) rfl ?_
            refine xw_iconst (n := 226) (show xlook 176 225 = some (225, .iconst 1, 1, 0, 0, 0, 0) from xlk (by decide +kernel)) rfl ?_
            refine xw_isub (n := 227) (show xlook 176 226 = some (226, .isub, 1, 0, 0, 0, 0) from xlk (by decide +kernel)) rfl ?_
            obtain ⟨q1, t⟩ := t
            refine xw_iast (show xlook 176 227 = some (227, .iastore, 1, 0, 0, 0, 0) from xlk (by decide +kernel)) (xtg_12_18 _ xob_12.1 xob_12.2).1 (by rw [(xtg_12_18 _ xob_12.1 xob_12.2).2]; exact q1) (n := 228) rfl ?_
            refine xw_aload_n (n := 229) (show xlook 176 228 = some (228, .aload_n 0, 1, 0, 0, 0, 0) from xlk (by decide +kernel)) rfl rfl ?_
            refine xw_getr (q := 140) (show xlook 176 229 = some (229, .getfield 42, 3, 12, 18, 0, 229) from xlk (by decide +kernel)) (by decide) (xobf xob_12 (by decide) (by decide)) rfl (xPT_get (k := 18) (f := 9) (xPT_arr (xPT_arr (xPT_arr hPT (Or.inl (xtg_12_18 _ xob_12.1 xob_12.2).1.2)) (Or.inl (xtg_12_18 _ xob_12.1 xob_12.2).1.2)) (Or.inl (xtg_12_18 _ xob_12.1 xob_12.2).1.2)) xob_12 (by decide)) (by have := (xtg_12_18 _ xob_12.1 xob_12.2).1.1; omega) (n := 232) rfl ?_
            refine xw_iload (n := 234) (show xlook 176 232 = some (232, .iload 4, 2, 0, 0, 0, 0) from xlk (by decide +kernel)) rfl rfl ?_
            refine xw_iconst (n := 235) (show xlook 176 234 = some (234, .iconst 2, 1, 0, 0, 0, 0) from xlk (by decide +kernel)) rfl ?_
            refine xw_iadd (n := 236) (show xlook 176 235 = some (235, .iadd, 1, 0, 0, 0, 0) from xlk (by decide +kernel)) rfl ?_
            refine xw_dup2 (n := 237) (show xlook 176 236 = some (236, .dup2, 1, 0, 0, 0, 0) from xlk (by decide +kernel)) rfl ?_
            obtain ⟨q1, t⟩ := t
            refine xw_iald2 (u := (F) (140) ((x4) + (2))) (show xlook 176 237 = some (237, .iaload, 1, 0, 0, 0, 0) from xlk (by decide +kernel)) (xtg_12_18 _ xob_12.1 xob_12.2).1 (by rw [(xtg_12_18 _ xob_12.1 xob_12.2).2]; exact q1) ((xup_i (by omega)).trans ((xup_i (by omega)).trans (xup_i (by omega)))) (n := 238) rfl ?_
            refine xw_iconst (n := 239) (show xlook 176 238 = some (238, .iconst 1, 1, 0, 0, 0, 0) from xlk (by decide +kernel)) rfl ?_
            refine xw_iadd (n := 240) (show xlook 176 239 = some (239, .iadd, 1, 0, 0, 0, 0) from xlk (by decide +kernel)) rfl ?_
            obtain ⟨q1, t⟩ := t
            refine xw_iast (show xlook 176 240 = some (240, .iastore, 1, 0, 0, 0, 0) from xlk (by decide +kernel)) (xtg_12_18 _ xob_12.1 xob_12.2).1 (by rw [(xtg_12_18 _ xob_12.1 xob_12.2).2]; exact q1) (n := 241) rfl ?_
            exact t (xPT_arr (xPT_arr (xPT_arr (xPT_arr hPT (Or.inl (xtg_12_18 _ xob_12.1 xob_12.2).1.2)) (Or.inl (xtg_12_18 _ xob_12.1 xob_12.2).1.2)) (Or.inl (xtg_12_18 _ xob_12.1 xob_12.2).1.2)) (Or.inl (xtg_12_18 _ xob_12.1 xob_12.2).1.2))
          · replace t := t.2 c
            refine xw_iload (n := 203) (show xlook 176 201 = some (201, .iload 7, 2, 0, 0, 0, 0) from xlk (by decide +kernel)) rfl rfl ?_
            refine xw_goto (m := 216) (show xlook 176 203 = some (203, .goto 13, 3, 216, 0, 0, 0) from xlk (by decide +kernel)) rfl ?_
            obtain ⟨q1, t⟩ := t
            refine xw_iast (show xlook 176 216 = some (216, .iastore, 1, 0, 0, 0, 0) from xlk (by decide +kernel)) (xtg_12_18 _ xob_12.1 xob_12.2).1 (by rw [(xtg_12_18 _ xob_12.1 xob_12.2).2]; exact q1) (n := 217) rfl ?_
            refine xw_aload_n (n := 218) (show xlook 176 217 = some (217, .aload_n 0, 1, 0, 0, 0, 0) from xlk (by decide +kernel)) rfl rfl ?_
            refine xw_getr (q := 140) (show xlook 176 218 = some (218, .getfield 42, 3, 12, 18, 0, 229) from xlk (by decide +kernel)) (by decide) (xobf xob_12 (by decide) (by decide)) rfl (xPT_get (k := 18) (f := 9) (xPT_arr (xPT_arr hPT (Or.inl (xtg_12_18 _ xob_12.1 xob_12.2).1.2)) (Or.inl (xtg_12_18 _ xob_12.1 xob_12.2).1.2)) xob_12 (by decide)) (by have := (xtg_12_18 _ xob_12.1 xob_12.2).1.1; omega) (n := 221) rfl ?_
            refine xw_iload (n := 223) (show xlook 176 221 = some (221, .iload 4, 2, 0, 0, 0, 0) from xlk (by decide +kernel)) rfl rfl ?_
            refine xw_dup2 (n := 224) (show xlook 176 223 = some (223, .dup2, 1, 0, 0, 0, 0) from xlk (by decide +kernel)) rfl ?_
            obtain ⟨q1, t⟩ := t
            refine xw_iald2 (u := (F) (140) (x4)) (show xlook 176 224 = some (224, .iaload, 1, 0, 0, 0, 0) from xlk (by decide +kernel)) (xtg_12_18 _ xob_12.1 xob_12.2).1 (by rw [(xtg_12_18 _ xob_12.1 xob_12.2).2]; exact q1) ((xup_i (by omega)).trans (xup_i (by omega))) (n := 225) rfl ?_
            refine xw_iconst (n := 226) (show xlook 176 225 = some (225, .iconst 1, 1, 0, 0, 0, 0) from xlk (by decide +kernel)) rfl ?_
            refine xw_isub (n := 227) (show xlook 176 226 = some (226, .isub, 1, 0, 0, 0, 0) from xlk (by decide +kernel)) rfl ?_
            obtain ⟨q1, t⟩ := t
            refine xw_iast (show xlook 176 227 = some (227, .iastore, 1, 0, 0, 0, 0) from xlk (by decide +kernel)) (xtg_12_18 _ xob_12.1 xob_12.2).1 (by rw [(xtg_12_18 _ xob_12.1 xob_12.2).2]; exact q1) (n := 228) rfl ?_
            refine xw_aload_n (n := 229) (show xlook 176 228 = some (228, .aload_n 0, 1, 0, 0, 0, 0) from xlk (by decide +kernel)) rfl rfl ?_
            refine xw_getr (q := 140) (show xlook 176 229 = some (229, .getfield 42, 3, 12, 18, 0, 229) from xlk (by decide +kernel)) (by decide) (xobf xob_12 (by decide) (by decide)) rfl (xPT_get (k := 18) (f := 9) (xPT_arr (xPT_arr (xPT_arr hPT (Or.inl (xtg_12_18 _ xob_12.1 xob_12.2).1.2)) (Or.inl (xtg_12_18 _ xob_12.1 xob_12.2).1.2)) (Or.inl (xtg_12_18 _ xob_12.1 xob_12.2).1.2)) xob_12 (by decide)) (by have := (xtg_12_18 _ xob_12.1 xob_12.2).1.1; omega) (n := 232) rfl ?_
            refine xw_iload (n := 234) (show xlook 176 232 = some (232, .iload 4, 2, 0, 0, 0, 0) from xlk (by decide +kernel)) rfl rfl ?_
            refine xw_iconst (n := 235) (show xlook 176 234 = some (234, .iconst 2, 1, 0, 0, 0, 0) from xlk (by decide +kernel)) rfl ?_
            refine xw_iadd (n := 236) (show xlook 176 235 = some (235, .iadd, 1, 0, 0, 0, 0) from xlk (by decide +kernel)) rfl ?_
            refine xw_dup2 (n := 237) (show xlook 176 236 = some (236, .dup2, 1, 0, 0, 0, 0) from xlk (by decide +kernel)) rfl ?_
            obtain ⟨q1, t⟩ := t
            refine xw_iald2 (u := (F) (140) ((x4) + (2))) (show xlook 176 237 = some (237, .iaload, 1, 0, 0, 0, 0) from xlk (by decide +kernel)) (xtg_12_18 _ xob_12.1 xob_12.2).1 (by rw [(xtg_12_18 _ xob_12.1 xob_12.2).2]; exact q1) ((xup_i (by omega)).trans ((xup_i (by omega)).trans (xup_i (by omega)))) (n := 238) rfl ?_
            refine xw_iconst (n := 239) (show xlook 176 238 = some (238, .iconst 1, 1, 0, 0, 0, 0) from xlk (by decide +kernel)) rfl ?_
            refine xw_iadd (n := 240) (show xlook 176 239 = some (239, .iadd, 1, 0, 0, 0, 0) from xlk (by decide +kernel)) rfl ?_
            obtain ⟨q1, t⟩ := t
            refine xw_iast (show xlook 176 240 = some (240, .iastore, 1, 0, 0, 0, 0) from xlk (by decide +kernel)) (xtg_12_18 _ xob_12.1 xob_12.2).1 (by rw [(xtg_12_18 _ xob_12.1 xob_12.2).2]; exact q1) (n := 241) rfl ?_
            exact t (xPT_arr (xPT_arr (xPT_arr (xPT_arr hPT (Or.inl (xtg_12_18 _ xob_12.1 xob_12.2).1.2)) (Or.inl (xtg_12_18 _ xob_12.1 xob_12.2).1.2)) (Or.inl (xtg_12_18 _ xob_12.1 xob_12.2).1.2)) (Or.inl (xtg_12_18 _ xob_12.1 xob_12.2).1.2))

theorem s176_241 {X : List Int32} {d : Nat} {F : XF} {Q : XF → Prop} {x1 : Int} {x2 : Int} {x3 : Int} {x4 : Int} {x5 : Int} {x6 : Int} {w7 : Value} (hPT : xPT F)  (t : (0 ≤ ((x4) + (1)) ∧ ((x4) + (1)) < 264) ∧ ((0 ≤ (x4) ∧ (x4) < 264) ∧ ((0 ≤ ((x4) + (1)) ∧ ((x4) + (1)) < 264) ∧ ((0 ≤ ((x4) + (4)) ∧ ((x4) + (4)) < 264) ∧ (inR (x6) ∧ ((((x6) = (0)) → ((0 ≤ ((x4) + (4)) ∧ ((x4) + (4)) < 264) ∧ ((0 ≤ ((x4) + (5)) ∧ ((x4) + (5)) < 264) ∧ (inR (x6) ∧ ((((x6) = (0)) → ((0 ≤ ((x4) + (5)) ∧ ((x4) + (5)) < 264) ∧ (xPT (xup (xup (xup (F) (140) ((x4) + (1)) (((F) (140) ((x4) + (1))) + ((F) (140) (x4)))) (140) ((x4) + (4)) (((F) (140) ((x4) + (4))) + (0))) (140) ((x4) + (5)) (((F) (140) ((x4) + (5))) + (0))) → xW X d 176 2 [.ref (131), vi (x1), vi (x2), vi (x3 + 1), vi (x4), vi (x5), vi (x6), w7] [] (xup (xup (xup (F) (140) ((x4) + (1)) (((F) (140) ((x4) + (1))) + ((F) (140) (x4)))) (140) ((x4) + (4)) (((F) (140) ((x4) + (4))) + (0))) (140) ((x4) + (5)) (((F) (140) ((x4) + (5))) + (0))) (xqv Q)))) ∧ (¬ ((x6) = (0)) → (∃ (j1 : Nat), j1 < d ∧ xMI X j1 167 [.ref (131), vi (x3), vi (x2)] (xup (xup (F) (140) ((x4) + (1)) (((F) (140) ((x4) + (1))) + ((F) (140) (x4)))) (140) ((x4) + (4)) (((F) (140) ((x4) + (4))) + (0))) (fun (y1 : Int) (G1 : XF) => (inR (y1) ∧ (((¬ (y1) = (0)) → ((0 ≤ ((x4) + (5)) ∧ ((x4) + (5)) < 264) ∧ (xPT (xup (G1) (140) ((x4) + (5)) (((F) (140) ((x4) + (5))) + (0))) → xW X d 176 2 [.ref (131), vi (x1), vi (x2), vi (x3 + 1), vi (x4), vi (x5), vi (x6), w7] [] (xup (G1) (140) ((x4) + (5)) (((F) (140) ((x4) + (5))) + (0))) (xqv Q)))) ∧ (¬ (¬ (y1) = (0)) → ((0 ≤ ((x4) + (5)) ∧ ((x4) + (5)) < 264) ∧ (xPT (xup (G1) (140) ((x4) + (5)) (((F) (140) ((x4) + (5))) + (1))) → xW X d 176 2 [.ref (131), vi (x1), vi (x2), vi (x3 + 1), vi (x4), vi (x5), vi (x6), w7] [] (xup (G1) (140) ((x4) + (5)) (((F) (140) ((x4) + (5))) + (1))) (xqv Q)))))))))))))) ∧ (¬ ((x6) = (0)) → ((0 ≤ ((x4) + (4)) ∧ ((x4) + (4)) < 264) ∧ ((0 ≤ ((x4) + (5)) ∧ ((x4) + (5)) < 264) ∧ (inR (x6) ∧ ((((x6) = (0)) → ((0 ≤ ((x4) + (5)) ∧ ((x4) + (5)) < 264) ∧ (xPT (xup (xup (xup (F) (140) ((x4) + (1)) (((F) (140) ((x4) + (1))) + ((F) (140) (x4)))) (140) ((x4) + (4)) (((F) (140) ((x4) + (4))) + (1))) (140) ((x4) + (5)) (((F) (140) ((x4) + (5))) + (0))) → xW X d 176 2 [.ref (131), vi (x1), vi (x2), vi (x3 + 1), vi (x4), vi (x5), vi (x6), w7] [] (xup (xup (xup (F) (140) ((x4) + (1)) (((F) (140) ((x4) + (1))) + ((F) (140) (x4)))) (140) ((x4) + (4)) (((F) (140) ((x4) + (4))) + (1))) (140) ((x4) + (5)) (((F) (140) ((x4) + (5))) + (0))) (xqv Q)))) ∧ (¬ ((x6) = (0)) → (∃ (j2 : Nat), j2 < d ∧ xMI X j2 167 [.ref (131), vi (x3), vi (x2)] (xup (xup (F) (140) ((x4) + (1)) (((F) (140) ((x4) + (1))) + ((F) (140) (x4)))) (140) ((x4) + (4)) (((F) (140) ((x4) + (4))) + (1))) (fun (y2 : Int) (G2 : XF) => (inR (y2) ∧ (((¬ (y2) = (0)) → ((0 ≤ ((x4) + (5)) ∧ ((x4) + (5)) < 264) ∧ (xPT (xup (G2) (140) ((x4) + (5)) (((F) (140) ((x4) + (5))) + (0))) → xW X d 176 2 [.ref (131), vi (x1), vi (x2), vi (x3 + 1), vi (x4), vi (x5), vi (x6), w7] [] (xup (G2) (140) ((x4) + (5)) (((F) (140) ((x4) + (5))) + (0))) (xqv Q)))) ∧ (¬ (¬ (y2) = (0)) → ((0 ≤ ((x4) + (5)) ∧ ((x4) + (5)) < 264) ∧ (xPT (xup (G2) (140) ((x4) + (5)) (((F) (140) ((x4) + (5))) + (1))) → xW X d 176 2 [.ref (131), vi (x1), vi (x2), vi (x3 + 1), vi (x4), vi (x5), vi (x6), w7] [] (xup (G2) (140) ((x4) + (5)) (((F) (140) ((x4) + (5))) + (1))) (xqv Q)))))))))))))))))))) : xW X d 176 241 [.ref (131), vi (x1), vi (x2), vi (x3), vi (x4), vi (x5), vi (x6), w7] [] F (xqv Q) := by
  refine xw_aload_n (n := 242) (show xlook 176 241 = some (241, .aload_n 0, 1, 0, 0, 0, 0) from xlk (by decide +kernel)) rfl rfl ?_
  refine xw_getr (q := 140) (show xlook 176 242 = some (242, .getfield 42, 3, 12, 18, 0, 229) from xlk (by decide +kernel)) (by decide) (xobf xob_12 (by decide) (by decide)) rfl (xPT_get (k := 18) (f := 9) hPT xob_12 (by decide)) (by have := (xtg_12_18 _ xob_12.1 xob_12.2).1.1; omega) (n := 245) rfl ?_
  refine xw_iload (n := 247) (show xlook 176 245 = some (245, .iload 4, 2, 0, 0, 0, 0) from xlk (by decide +kernel)) rfl rfl ?_
  refine xw_iconst (n := 248) (show xlook 176 247 = some (247, .iconst 1, 1, 0, 0, 0, 0) from xlk (by decide +kernel)) rfl ?_
  refine xw_iadd (n := 249) (show xlook 176 248 = some (248, .iadd, 1, 0, 0, 0, 0) from xlk (by decide +kernel)) rfl ?_
  refine xw_dup2 (n := 250) (show xlook 176 249 = some (249, .dup2, 1, 0, 0, 0, 0) from xlk (by decide +kernel)) rfl ?_
  obtain ⟨q1, t⟩ := t
  refine xw_iald (show xlook 176 250 = some (250, .iaload, 1, 0, 0, 0, 0) from xlk (by decide +kernel)) (xtg_12_18 _ xob_12.1 xob_12.2).1 (by rw [(xtg_12_18 _ xob_12.1 xob_12.2).2]; exact q1) (n := 251) rfl ?_
  refine xw_aload_n (n := 252) (show xlook 176 251 = some (251, .aload_n 0, 1, 0, 0, 0, 0) from xlk (by decide +kernel)) rfl rfl ?_
  refine xw_getr (q := 140) (show xlook 176 252 = some (252, .getfield 42, 3, 12, 18, 0, 229) from xlk (by decide +kernel)) (by decide) (xobf xob_12 (by decide) (by decide)) rfl (xPT_get (k := 18) (f := 9) hPT xob_12 (by decide)) (by have := (xtg_12_18 _ xob_12.1 xob_12.2).1.1; omega) (n := 255) rfl ?_
  refine xw_iload (n := 257) (show xlook 176 255 = some (255, .iload 4, 2, 0, 0, 0, 0) from xlk (by decide +kernel)) rfl rfl ?_
  obtain ⟨q1, t⟩ := t
  refine xw_iald (show xlook 176 257 = some (257, .iaload, 1, 0, 0, 0, 0) from xlk (by decide +kernel)) (xtg_12_18 _ xob_12.1 xob_12.2).1 (by rw [(xtg_12_18 _ xob_12.1 xob_12.2).2]; exact q1) (n := 258) rfl ?_
  refine xw_iadd (n := 259) (show xlook 176 258 = some (258, .iadd, 1, 0, 0, 0, 0) from xlk (by decide +kernel)) rfl ?_
  obtain ⟨q1, t⟩ := t
  refine xw_iast (show xlook 176 259 = some (259, .iastore, 1, 0, 0, 0, 0) from xlk (by decide +kernel)) (xtg_12_18 _ xob_12.1 xob_12.2).1 (by rw [(xtg_12_18 _ xob_12.1 xob_12.2).2]; exact q1) (n := 260) rfl ?_
  refine xw_aload_n (n := 261) (show xlook 176 260 = some (260, .aload_n 0, 1, 0, 0, 0, 0) from xlk (by decide +kernel)) rfl rfl ?_
  refine xw_getr (q := 140) (show xlook 176 261 = some (261, .getfield 42, 3, 12, 18, 0, 229) from xlk (by decide +kernel)) (by decide) (xobf xob_12 (by decide) (by decide)) rfl (xPT_get (k := 18) (f := 9) (xPT_arr hPT (Or.inl (xtg_12_18 _ xob_12.1 xob_12.2).1.2)) xob_12 (by decide)) (by have := (xtg_12_18 _ xob_12.1 xob_12.2).1.1; omega) (n := 264) rfl ?_
  refine xw_iload (n := 266) (show xlook 176 264 = some (264, .iload 4, 2, 0, 0, 0, 0) from xlk (by decide +kernel)) rfl rfl ?_
  refine xw_iconst (n := 267) (show xlook 176 266 = some (266, .iconst 4, 1, 0, 0, 0, 0) from xlk (by decide +kernel)) rfl ?_
  refine xw_iadd (n := 268) (show xlook 176 267 = some (267, .iadd, 1, 0, 0, 0, 0) from xlk (by decide +kernel)) rfl ?_
  refine xw_dup2 (n := 269) (show xlook 176 268 = some (268, .dup2, 1, 0, 0, 0, 0) from xlk (by decide +kernel)) rfl ?_
  obtain ⟨q1, t⟩ := t
  refine xw_iald2 (u := (F) (140) ((x4) + (4))) (show xlook 176 269 = some (269, .iaload, 1, 0, 0, 0, 0) from xlk (by decide +kernel)) (xtg_12_18 _ xob_12.1 xob_12.2).1 (by rw [(xtg_12_18 _ xob_12.1 xob_12.2).2]; exact q1) (xup_i (by omega)) (n := 270) rfl ?_
  refine xw_iload (n := 272) (show xlook 176 270 = some (270, .iload 6, 2, 0, 0, 0, 0) from xlk (by decide +kernel)) rfl rfl ?_
  obtain ⟨q0, t⟩ := t
  refine xw_if_eq (n := 275) (m := 279) (show xlook 176 272 = some (272, .ifCond .eq 7, 3, 279, 0, 0, 0) from xlk (by decide +kernel)) rfl rfl q0 ⟨fun c => ?_, fun c => ?_⟩
  · replace t := t.1 c
    refine xw_iconst (n := 280) (show xlook 176 279 = some (279, .iconst 0, 1, 0, 0, 0, 0) from xlk (by decide +kernel)) rfl ?_
    refine xw_iadd (n := 281) (show xlook 176 280 = some (280, .iadd, 1, 0, 0, 0, 0) from xlk (by decide +kernel)) rfl ?_
    obtain ⟨q1, t⟩ := t
    refine xw_iast (show xlook 176 281 = some (281, .iastore, 1, 0, 0, 0, 0) from xlk (by decide +kernel)) (xtg_12_18 _ xob_12.1 xob_12.2).1 (by rw [(xtg_12_18 _ xob_12.1 xob_12.2).2]; exact q1) (n := 282) rfl ?_
    refine xw_aload_n (n := 283) (show xlook 176 282 = some (282, .aload_n 0, 1, 0, 0, 0, 0) from xlk (by decide +kernel)) rfl rfl ?_
    refine xw_getr (q := 140) (show xlook 176 283 = some (283, .getfield 42, 3, 12, 18, 0, 229) from xlk (by decide +kernel)) (by decide) (xobf xob_12 (by decide) (by decide)) rfl (xPT_get (k := 18) (f := 9) (xPT_arr (xPT_arr hPT (Or.inl (xtg_12_18 _ xob_12.1 xob_12.2).1.2)) (Or.inl (xtg_12_18 _ xob_12.1 xob_12.2).1.2)) xob_12 (by decide)) (by have := (xtg_12_18 _ xob_12.1 xob_12.2).1.1; omega) (n := 286) rfl ?_
    refine xw_iload (n := 288) (show xlook 176 286 = some (286, .iload 4, 2, 0, 0, 0, 0) from xlk (by decide +kernel)) rfl rfl ?_
    refine xw_iconst (n := 289) (show xlook 176 288 = some (288, .iconst 5, 1, 0, 0, 0, 0) from xlk (by decide +kernel)) rfl ?_
    refine xw_iadd (n := 290) (show xlook 176 289 = some (289, .iadd, 1, 0, 0, 0, 0) from xlk (by decide +kernel)) rfl ?_
    refine xw_dup2 (n := 291) (show xlook 176 290 = some (290, .dup2, 1, 0, 0, 0, 0) from xlk (by decide +kernel)) rfl ?_
    obtain ⟨q1, t⟩ := t
    refine xw_iald2 (u := (F) (140) ((x4) + (5))) (show xlook 176 291 = some (291, .iaload, 1, 0, 0, 0, 0) from xlk (by decide +kernel)) (xtg_12_18 _ xob_12.1 xob_12.2).1 (by rw [(xtg_12_18 _ xob_12.1 xob_12.2).2]; exact q1) ((xup_i (by omega)).trans (xup_i (by omega))) (n := 292) rfl ?_
    refine xw_iload (n := 294) (show xlook 176 292 = some (292, .iload 6, 2, 0, 0, 0, 0) from xlk (by decide +kernel)) rfl rfl ?_
    obtain ⟨q0, t⟩ := t
    refine xw_if_eq (n := 297) (m := 310) (show xlook 176 294 = some (294, .ifCond .eq 16, 3, 310, 0, 0, 0) from xlk (by decide +kernel)) rfl rfl q0 ⟨fun c => ?_, fun c => ?_⟩
    · replace t := t.1 c
      refine xw_iconst (n := 311) (show xlook 176 310 = some (310, .iconst 0, 1, 0, 0, 0, 0) from xlk (by decide +kernel)) rfl ?_
      refine xw_iadd (n := 312) (show xlook 176 311 = some (311, .iadd, 1, 0, 0, 0, 0) from xlk (by decide +kernel)) rfl ?_
      obtain ⟨q1, t⟩ := t
      refine xw_iast (show xlook 176 312 = some (312, .iastore, 1, 0, 0, 0, 0) from xlk (by decide +kernel)) (xtg_12_18 _ xob_12.1 xob_12.2).1 (by rw [(xtg_12_18 _ xob_12.1 xob_12.2).2]; exact q1) (n := 313) rfl ?_
      refine xw_iinc (n := 316) (show xlook 176 313 = some (313, .iinc 3 1, 3, 0, 0, 0, 0) from xlk (by decide +kernel)) rfl (ls' := [.ref (131), vi (x1), vi (x2), vi (x3 + 1), vi (x4), vi (x5), vi (x6), w7]) rfl rfl ?_
      refine xw_goto (m := 2) (show xlook 176 316 = some (316, .goto (-314), 3, 2, 0, 0, 0) from xlk (by decide +kernel)) rfl ?_
      exact t (xPT_arr (xPT_arr (xPT_arr hPT (Or.inl (xtg_12_18 _ xob_12.1 xob_12.2).1.2)) (Or.inl (xtg_12_18 _ xob_12.1 xob_12.2).1.2)) (Or.inl (xtg_12_18 _ xob_12.1 xob_12.2).1.2))
    · replace t := t.2 c
      refine xw_aload_n (n := 298) (show xlook 176 297 = some (297, .aload_n 0, 1, 0, 0, 0, 0) from xlk (by decide +kernel)) rfl rfl ?_
      refine xw_iload_n (n := 299) (show xlook 176 298 = some (298, .iload_n 3, 1, 0, 0, 0, 0) from xlk (by decide +kernel)) rfl rfl ?_
      refine xw_iload_n (n := 300) (show xlook 176 299 = some (299, .iload_n 2, 1, 0, 0, 0, 0) from xlk (by decide +kernel)) rfl rfl ?_
      obtain ⟨j1, hj1, rr1, G1, hm1, hG1, t⟩ := t
      obtain ⟨y1, rfl, t⟩ := t
      refine xw_callv (dk := j1) (o := 131) (as := [vi (x3), vi (x2)]) (show xlook 176 300 = some (300, .invokevirtual 194, 3, 167, 3, 0, 176) from xlk (by decide +kernel)) (by decide) hj1 ⟨Nat.le_of_ble_eq_true rfl, Nat.le_of_ble_eq_true rfl, Nat.le_of_ble_eq_true rfl⟩ ⟨xob_12.1, xob_12.2, by decide⟩ rfl hm1 (n := 303) rfl ?_
      show xW X d 176 303 [.ref (131), vi (x1), vi (x2), vi (x3), vi (x4), vi (x5), vi (x6), w7] [vi (y1), vi ((F) (140) ((x4) + (5))), vi ((x4) + (5)), .ref (140)] G1 (xqv Q)
      obtain ⟨q0, t⟩ := t
      refine xw_if_ne (n := 306) (m := 310) (show xlook 176 303 = some (303, .ifCond .ne 7, 3, 310, 0, 0, 0) from xlk (by decide +kernel)) rfl rfl q0 ⟨fun c => ?_, fun c => ?_⟩
      · replace t := t.1 c
        refine xw_iconst (n := 311) (show xlook 176 310 = some (310, .iconst 0, 1, 0, 0, 0, 0) from xlk (by decide +kernel)) rfl ?_
        refine xw_iadd (n := 312) (show xlook 176 311 = some (311, .iadd, 1, 0, 0, 0, 0) from xlk (by decide +kernel)) rfl ?_
        obtain ⟨q1, t⟩ := t
        refine xw_iast (show xlook 176 312 = some (312, .iastore, 1, 0, 0, 0, 0) from xlk (by decide +kernel)) (xtg_12_18 _ xob_12.1 xob_12.2).1 (by rw [(xtg_12_18 _ xob_12.1 xob_12.2).2]; exact q1) (n := 313) rfl ?_
        refine xw_iinc (n := 316) (show xlook 176 313 = some (313, .iinc 3 1, 3, 0, 0, 0, 0) from xlk (by decide +kernel)) rfl (ls' := [.ref (131), vi (x1), vi (x2), vi (x3 + 1), vi (x4), vi (x5), vi (x6), w7]) rfl rfl ?_
        refine xw_goto (m := 2) (show xlook 176 316 = some (316, .goto (-314), 3, 2, 0, 0, 0) from xlk (by decide +kernel)) rfl ?_
        exact t (xPT_arr hG1 (Or.inl (xtg_12_18 _ xob_12.1 xob_12.2).1.2))
      · replace t := t.2 c
        refine xw_iconst (n := 307) (show xlook 176 306 = some (306, .iconst 1, 1, 0, 0, 0, 0) from xlk (by decide +kernel)) rfl ?_
        refine xw_goto (m := 311) (show xlook 176 307 = some (307, .goto 4, 3, 311, 0, 0, 0) from xlk (by decide +kernel)) rfl ?_
        refine xw_iadd (n := 312) (show xlook 176 311 = some (311, .iadd, 1, 0, 0, 0, 0) from xlk (by decide +kernel)) rfl ?_
        obtain ⟨q1, t⟩ := t
        refine xw_iast (show xlook 176 312 = some (312, .iastore, 1, 0, 0, 0, 0) from xlk (by decide +kernel)) (xtg_12_18 _ xob_12.1 xob_12.2).1 (by rw [(xtg_12_18 _ xob_12.1 xob_12.2).2]; exact q1) (n := 313) rfl ?_
        refine xw_iinc (n := 316) (show xlook 176 313 = some (313, .iinc 3 1, 3, 0, 0, 0, 0) from xlk (by decide +kernel)) rfl (ls' := [.ref (131), vi (x1), vi (x2), vi (x3 + 1), vi (x4), vi (x5), vi (x6), w7]) rfl rfl ?_
        refine xw_goto (m := 2) (show xlook 176 316 = some (316, .goto (-314), 3, 2, 0, 0, 0) from xlk (by decide +kernel)) rfl ?_
        exact t (xPT_arr hG1 (Or.inl (xtg_12_18 _ xob_12.1 xob_12.2).1.2))
  · replace t := t.2 c
    refine xw_iconst (n := 276) (show xlook 176 275 = some (275, .iconst 1, 1, 0, 0, 0, 0) from xlk (by decide +kernel)) rfl ?_
    refine xw_goto (m := 280) (show xlook 176 276 = some (276, .goto 4, 3, 280, 0, 0, 0) from xlk (by decide +kernel)) rfl ?_
    refine xw_iadd (n := 281) (show xlook 176 280 = some (280, .iadd, 1, 0, 0, 0, 0) from xlk (by decide +kernel)) rfl ?_
    obtain ⟨q1, t⟩ := t
    refine xw_iast (show xlook 176 281 = some (281, .iastore, 1, 0, 0, 0, 0) from xlk (by decide +kernel)) (xtg_12_18 _ xob_12.1 xob_12.2).1 (by rw [(xtg_12_18 _ xob_12.1 xob_12.2).2]; exact q1) (n := 282) rfl ?_
    refine xw_aload_n (n := 283) (show xlook 176 282 = some (282, .aload_n 0, 1, 0, 0, 0, 0) from xlk (by decide +kernel)) rfl rfl ?_
    refine xw_getr (q := 140) (show xlook 176 283 = some (283, .getfield 42, 3, 12, 18, 0, 229) from xlk (by decide +kernel)) (by decide) (xobf xob_12 (by decide) (by decide)) rfl (xPT_get (k := 18) (f := 9) (xPT_arr (xPT_arr hPT (Or.inl (xtg_12_18 _ xob_12.1 xob_12.2).1.2)) (Or.inl (xtg_12_18 _ xob_12.1 xob_12.2).1.2)) xob_12 (by decide)) (by have := (xtg_12_18 _ xob_12.1 xob_12.2).1.1; omega) (n := 286) rfl ?_
    refine xw_iload (n := 288) (show xlook 176 286 = some (286, .iload 4, 2, 0, 0, 0, 0) from xlk (by decide +kernel)) rfl rfl ?_
    refine xw_iconst (n := 289) (show xlook 176 288 = some (288, .iconst 5, 1, 0, 0, 0, 0) from xlk (by decide +kernel)) rfl ?_
    refine xw_iadd (n := 290) (show xlook 176 289 = some (289, .iadd, 1, 0, 0, 0, 0) from xlk (by decide +kernel)) rfl ?_
    refine xw_dup2 (n := 291) (show xlook 176 290 = some (290, .dup2, 1, 0, 0, 0, 0) from xlk (by decide +kernel)) rfl ?_
    obtain ⟨q1, t⟩ := t
    refine xw_iald2 (u := (F) (140) ((x4) + (5))) (show xlook 176 291 = some (291, .iaload, 1, 0, 0, 0, 0) from xlk (by decide +kernel)) (xtg_12_18 _ xob_12.1 xob_12.2).1 (by rw [(xtg_12_18 _ xob_12.1 xob_12.2).2]; exact q1) ((xup_i (by omega)).trans (xup_i (by omega))) (n := 292) rfl ?_
    refine xw_iload (n := 294) (show xlook 176 292 = some (292, .iload 6, 2, 0, 0, 0, 0) from xlk (by decide +kernel)) rfl rfl ?_
    obtain ⟨q0, t⟩ := t
    refine xw_if_eq (n := 297) (m := 310) (show xlook 176 294 = some (294, .ifCond .eq 16, 3, 310, 0, 0, 0) from xlk (by decide +kernel)) rfl rfl q0 ⟨fun c => ?_, fun c => ?_⟩
    · replace t := t.1 c
      refine xw_iconst (n := 311) (show xlook 176 310 = some (310, .iconst 0, 1, 0, 0, 0, 0) from xlk (by decide +kernel)) rfl ?_
      refine xw_iadd (n := 312) (show xlook 176 311 = some (311, .iadd, 1, 0, 0, 0, 0) from xlk (by decide +kernel)) rfl ?_
      obtain ⟨q1, t⟩ := t
      refine xw_iast (show xlook 176 312 = some (312, .iastore, 1, 0, 0, 0, 0) from xlk (by decide +kernel)) (xtg_12_18 _ xob_12.1 xob_12.2).1 (by rw [(xtg_12_18 _ xob_12.1 xob_12.2).2]; exact q1) (n := 313) rfl ?_
      refine xw_iinc (n := 316) (show xlook 176 313 = some (313, .iinc 3 1, 3, 0, 0, 0, 0) from xlk (by decide +kernel)) rfl (ls' := [.ref (131), vi (x1), vi (x2), vi (x3 + 1), vi (x4), vi (x5), vi (x6), w7]) rfl rfl ?_
      refine xw_goto (m := 2) (show xlook 176 316 = some (316, .goto (-314), 3, 2, 0, 0, 0) from xlk (by decide +kernel)) rfl ?_
      exact t (xPT_arr (xPT_arr (xPT_arr hPT (Or.inl (xtg_12_18 _ xob_12.1 xob_12.2).1.2)) (Or.inl (xtg_12_18 _ xob_12.1 xob_12.2).1.2)) (Or.inl (xtg_12_18 _ xob_12.1 xob_12.2).1.2))
    · replace t := t.2 c
      refine xw_aload_n (n := 298) (show xlook 176 297 = some (297, .aload_n 0, 1, 0, 0, 0, 0) from xlk (by decide +kernel)) rfl rfl ?_
      refine xw_iload_n (n := 299) (show xlook 176 298 = some (298, .iload_n 3, 1, 0, 0, 0, 0) from xlk (by decide +kernel)) rfl rfl ?_
      refine xw_iload_n (n := 300) (show xlook 176 299 = some (299, .iload_n 2, 1, 0, 0, 0, 0) from xlk (by decide +kernel)) rfl rfl ?_
      obtain ⟨j2, hj2, rr2, G2, hm2, hG2, t⟩ := t
      obtain ⟨y2, rfl, t⟩ := t
      refine xw_callv (dk := j2) (o := 131) (as := [vi (x3), vi (x2)]) (show xlook 176 300 = some (300, .invokevirtual 194, 3, 167, 3, 0, 176) from xlk (by decide +kernel)) (by decide) hj2 ⟨Nat.le_of_ble_eq_true rfl, Nat.le_of_ble_eq_true rfl, Nat.le_of_ble_eq_true rfl⟩ ⟨xob_12.1, xob_12.2, by decide⟩ rfl hm2 (n := 303) rfl ?_
      show xW X d 176 303 [.ref (131), vi (x1), vi (x2), vi (x3), vi (x4), vi (x5), vi (x6), w7] [vi (y2), vi ((F) (140) ((x4) + (5))), vi ((x4) + (5)), .ref (140)] G2 (xqv Q)
      obtain ⟨q0, t⟩ := t
      refine xw_if_ne (n := 306) (m := 310) (show xlook 176 303 = some (303, .ifCond .ne 7, 3, 310, 0, 0, 0) from xlk (by decide +kernel)) rfl rfl q0 ⟨fun c => ?_, fun c => ?_⟩
      · replace t := t.1 c
        refine xw_iconst (n := 311) (show xlook 176 310 = some (310, .iconst 0, 1, 0, 0, 0, 0) from xlk (by decide +kernel)) rfl ?_
        refine xw_iadd (n := 312) (show xlook 176 311 = some (311, .iadd, 1, 0, 0, 0, 0) from xlk (by decide +kernel)) rfl ?_
        obtain ⟨q1, t⟩ := t
        refine xw_iast (show xlook 176 312 = some (312, .iastore, 1, 0, 0, 0, 0) from xlk (by decide +kernel)) (xtg_12_18 _ xob_12.1 xob_12.2).1 (by rw [(xtg_12_18 _ xob_12.1 xob_12.2).2]; exact q1) (n := 313) rfl ?_
        refine xw_iinc (n := 316) (show xlook 176 313 = some (313, .iinc 3 1, 3, 0, 0, 0, 0) from xlk (by decide +kernel)) rfl (ls' := [.ref (131), vi (x1), vi (x2), vi (x3 + 1), vi (x4), vi (x5), vi (x6), w7]) rfl rfl ?_
        refine xw_goto (m := 2) (show xlook 176 316 = some (316, .goto (-314), 3, 2, 0, 0, 0) from xlk (by decide +kernel)) rfl ?_
        exact t (xPT_arr hG2 (Or.inl (xtg_12_18 _ xob_12.1 xob_12.2).1.2))
      · replace t := t.2 c
        refine xw_iconst (n := 307) (show xlook 176 306 = some (306, .iconst 1, 1, 0, 0, 0, 0) from xlk (by decide +kernel)) rfl ?_
        refine xw_goto (m := 311) (show xlook 176 307 = some (307, .goto 4, 3, 311, 0, 0, 0) from xlk (by decide +kernel)) rfl ?_
        refine xw_iadd (n := 312) (show xlook 176 311 = some (311, .iadd, 1, 0, 0, 0, 0) from xlk (by decide +kernel)) rfl ?_
        obtain ⟨q1, t⟩ := t
        refine xw_iast (show xlook 176 312 = some (312, .iastore, 1, 0, 0, 0, 0) from xlk (by decide +kernel)) (xtg_12_18 _ xob_12.1 xob_12.2).1 (by rw [(xtg_12_18 _ xob_12.1 xob_12.2).2]; exact q1) (n := 313) rfl ?_
        refine xw_iinc (n := 316) (show xlook 176 313 = some (313, .iinc 3 1, 3, 0, 0, 0, 0) from xlk (by decide +kernel)) rfl (ls' := [.ref (131), vi (x1), vi (x2), vi (x3 + 1), vi (x4), vi (x5), vi (x6), w7]) rfl rfl ?_
        refine xw_goto (m := 2) (show xlook 176 316 = some (316, .goto (-314), 3, 2, 0, 0, 0) from xlk (by decide +kernel)) rfl ?_
        exact t (xPT_arr hG2 (Or.inl (xtg_12_18 _ xob_12.1 xob_12.2).1.2))

theorem s177_0 {X : List Int32} {d : Nat} {F : XF} {Q : XF → Prop} {x1 : Int} {x2 : Int} (hPT : xPT F)  (t : inR (x1) ∧ inR ((F) (131) 21) ∧ (((((F) (131) 21) < (x1)) → (xPT (F) → Q (F))) ∧ (¬ (((F) (131) 21) < (x1)) → (inR (x1) ∧ inR ((F) (131) 21) ∧ (((¬ (x1) = ((F) (131) 21)) → (xPT (xup (xup (F) (131) 21 (x1)) (131) 22 (x2)) → Q (xup (xup (F) (131) 21 (x1)) (131) 22 (x2)))) ∧ (¬ (¬ (x1) = ((F) (131) 21)) → (inR ((F) (131) 22) ∧ (((((F) (131) 22) = (3)) → (xPT (F) → Q (F))) ∧ (¬ (((F) (131) 22) = (3)) → (inR ((F) (131) 22) ∧ inR (x2) ∧ ((((x2) < ((F) (131) 22)) → (xPT (xup (xup (F) (131) 21 (x1)) (131) 22 (x2)) → Q (xup (xup (F) (131) 21 (x1)) (131) 22 (x2)))) ∧ (¬ ((x2) < ((F) (131) 22)) → (xPT (F) → Q (F)))))))))))))) : xW X d 177 0 [.ref (131), vi (x1), vi (x2)] [] F (xqv Q) := by
  refine xw_iload_n (n := 1) (show xlook 177 0 = some (0, .iload_n 1, 1, 0, 0, 0, 0) from xlk (by decide +kernel)) rfl rfl ?_
  refine xw_aload_n (n := 2) (show xlook 177 1 = some (1, .aload_n 0, 1, 0, 0, 0, 0) from xlk (by decide +kernel)) rfl rfl ?_
  refine xw_geti (show xlook 177 2 = some (2, .getfield 215, 3, 12, 21, 0, 245) from xlk (by decide +kernel)) (by decide) (xobf xob_12 (by decide) (by decide)) rfl (n := 5) rfl ?_
  obtain ⟨q0, q1, t⟩ := t
  refine xw_icmp_gt (n := 8) (m := 32) (show xlook 177 5 = some (5, .if_icmp .gt 27, 3, 32, 0, 0, 0) from xlk (by decide +kernel)) rfl rfl q0 q1 ⟨fun c => ?_, fun c => ?_⟩
  · replace t := t.1 c
    exact xw_return hPT (show xlook 177 32 = some (32, .return_, 1, 0, 0, 0, 0) from xlk (by decide +kernel)) rfl (t hPT)
  · replace t := t.2 c
    refine xw_iload_n (n := 9) (show xlook 177 8 = some (8, .iload_n 1, 1, 0, 0, 0, 0) from xlk (by decide +kernel)) rfl rfl ?_
    refine xw_aload_n (n := 10) (show xlook 177 9 = some (9, .aload_n 0, 1, 0, 0, 0, 0) from xlk (by decide +kernel)) rfl rfl ?_
    refine xw_geti (show xlook 177 10 = some (10, .getfield 215, 3, 12, 21, 0, 245) from xlk (by decide +kernel)) (by decide) (xobf xob_12 (by decide) (by decide)) rfl (n := 13) rfl ?_
    obtain ⟨q0, q1, t⟩ := t
    refine xw_icmp_ne (n := 16) (m := 33) (show xlook 177 13 = some (13, .if_icmp .ne 20, 3, 33, 0, 0, 0) from xlk (by decide +kernel)) rfl rfl q0 q1 ⟨fun c => ?_, fun c => ?_⟩
    · replace t := t.1 c
      refine xw_aload_n (n := 34) (show xlook 177 33 = some (33, .aload_n 0, 1, 0, 0, 0, 0) from xlk (by decide +kernel)) rfl rfl ?_
      refine xw_iload_n (n := 35) (show xlook 177 34 = some (34, .iload_n 1, 1, 0, 0, 0, 0) from xlk (by decide +kernel)) rfl rfl ?_
      refine xw_puti (show xlook 177 35 = some (35, .putfield 215, 3, 12, 21, 0, 245) from xlk (by decide +kernel)) (xobf xob_12 (by decide) (by decide)) rfl (n := 38) rfl ?_
      refine xw_aload_n (n := 39) (show xlook 177 38 = some (38, .aload_n 0, 1, 0, 0, 0, 0) from xlk (by decide +kernel)) rfl rfl ?_
      refine xw_iload_n (n := 40) (show xlook 177 39 = some (39, .iload_n 2, 1, 0, 0, 0, 0) from xlk (by decide +kernel)) rfl rfl ?_
      refine xw_puti (show xlook 177 40 = some (40, .putfield 218, 3, 12, 22, 0, 246) from xlk (by decide +kernel)) (xobf xob_12 (by decide) (by decide)) rfl (n := 43) rfl ?_
      exact xw_return (xPT_fld (k := 22) (xPT_fld (k := 21) hPT xob_12 (by decide) (by decide)) xob_12 (by decide) (by decide)) (show xlook 177 43 = some (43, .return_, 1, 0, 0, 0, 0) from xlk (by decide +kernel)) rfl (t (xPT_fld (k := 22) (xPT_fld (k := 21) hPT xob_12 (by decide) (by decide)) xob_12 (by decide) (by decide)))
    · replace t := t.2 c
      refine xw_aload_n (n := 17) (show xlook 177 16 = some (16, .aload_n 0, 1, 0, 0, 0, 0) from xlk (by decide +kernel)) rfl rfl ?_
      refine xw_geti (show xlook 177 17 = some (17, .getfield 218, 3, 12, 22, 0, 246) from xlk (by decide +kernel)) (by decide) (xobf xob_12 (by decide) (by decide)) rfl (n := 20) rfl ?_
      refine xw_iconst (n := 21) (show xlook 177 20 = some (20, .iconst 3, 1, 0, 0, 0, 0) from xlk (by decide +kernel)) rfl ?_
      obtain ⟨q0, t⟩ := t
      refine xw_icmp_eq (n := 24) (m := 32) (show xlook 177 21 = some (21, .if_icmp .eq 11, 3, 32, 0, 0, 0) from xlk (by decide +kernel)) rfl rfl q0 ⟨by decide, by decide⟩ ⟨fun c => ?_, fun c => ?_⟩
      · replace t := t.1 c
        exact xw_return hPT (show xlook 177 32 = some (32, .return_, 1, 0, 0, 0, 0) from xlk (by decide +kernel)) rfl (t hPT)
      · replace t := t.2 c
        refine xw_aload_n (n := 25) (show xlook 177 24 = some (24, .aload_n 0, 1, 0, 0, 0, 0) from xlk (by decide +kernel)) rfl rfl ?_
        refine xw_geti (show xlook 177 25 = some (25, .getfield 218, 3, 12, 22, 0, 246) from xlk (by decide +kernel)) (by decide) (xobf xob_12 (by decide) (by decide)) rfl (n := 28) rfl ?_
        refine xw_iload_n (n := 29) (show xlook 177 28 = some (28, .iload_n 2, 1, 0, 0, 0, 0) from xlk (by decide +kernel)) rfl rfl ?_
        obtain ⟨q0, q1, t⟩ := t
        refine xw_icmp_gt (n := 32) (m := 33) (show xlook 177 29 = some (29, .if_icmp .gt 4, 3, 33, 0, 0, 0) from xlk (by decide +kernel)) rfl rfl q0 q1 ⟨fun c => ?_, fun c => ?_⟩
        · replace t := t.1 c
          refine xw_aload_n (n := 34) (show xlook 177 33 = some (33, .aload_n 0, 1, 0, 0, 0, 0) from xlk (by decide +kernel)) rfl rfl ?_
          refine xw_iload_n (n := 35) (show xlook 177 34 = some (34, .iload_n 1, 1, 0, 0, 0, 0) from xlk (by decide +kernel)) rfl rfl ?_
          refine xw_puti (show xlook 177 35 = some (35, .putfield 215, 3, 12, 21, 0, 245) from xlk (by decide +kernel)) (xobf xob_12 (by decide) (by decide)) rfl (n := 38) rfl ?_
          refine xw_aload_n (n := 39) (show xlook 177 38 = some (38, .aload_n 0, 1, 0, 0, 0, 0) from xlk (by decide +kernel)) rfl rfl ?_
          refine xw_iload_n (n := 40) (show xlook 177 39 = some (39, .iload_n 2, 1, 0, 0, 0, 0) from xlk (by decide +kernel)) rfl rfl ?_
          refine xw_puti (show xlook 177 40 = some (40, .putfield 218, 3, 12, 22, 0, 246) from xlk (by decide +kernel)) (xobf xob_12 (by decide) (by decide)) rfl (n := 43) rfl ?_
          exact xw_return (xPT_fld (k := 22) (xPT_fld (k := 21) hPT xob_12 (by decide) (by decide)) xob_12 (by decide) (by decide)) (show xlook 177 43 = some (43, .return_, 1, 0, 0, 0, 0) from xlk (by decide +kernel)) rfl (t (xPT_fld (k := 22) (xPT_fld (k := 21) hPT xob_12 (by decide) (by decide)) xob_12 (by decide) (by decide)))
        · replace t := t.2 c
          exact xw_return hPT (show xlook 177 32 = some (32, .return_, 1, 0, 0, 0, 0) from xlk (by decide +kernel)) rfl (t hPT)
theorem m177 {X : List Int32} {d : Nat} {F : XF} {Q : XF → Prop} {x1 : Int} {x2 : Int} (hPT : xPT F)  (t : inR (x1) ∧ inR ((F) (131) 21) ∧ (((((F) (131) 21) < (x1)) → (xPT (F) → Q (F))) ∧ (¬ (((F) (131) 21) < (x1)) → (inR (x1) ∧ inR ((F) (131) 21) ∧ (((¬ (x1) = ((F) (131) 21)) → (xPT (xup (xup (F) (131) 21 (x1)) (131) 22 (x2)) → Q (xup (xup (F) (131) 21 (x1)) (131) 22 (x2)))) ∧ (¬ (¬ (x1) = ((F) (131) 21)) → (inR ((F) (131) 22) ∧ (((((F) (131) 22) = (3)) → (xPT (F) → Q (F))) ∧ (¬ (((F) (131) 22) = (3)) → (inR ((F) (131) 22) ∧ inR (x2) ∧ ((((x2) < ((F) (131) 22)) → (xPT (xup (xup (F) (131) 21 (x1)) (131) 22 (x2)) → Q (xup (xup (F) (131) 21 (x1)) (131) 22 (x2)))) ∧ (¬ ((x2) < ((F) (131) 22)) → (xPT (F) → Q (F)))))))))))))) : xMV X d 177 [.ref (131), vi (x1), vi (x2)] F Q := by
  show xW X d 177 0 [.ref (131), vi (x1), vi (x2)] [] F (xqv Q)
  exact s177_0 hPT  t

theorem s178_0 {X : List Int32} {d : Nat} {F : XF} {Q : XF → Prop} {x1 : Int} {x2 : Int} {x3 : Int} {x4 : Int} {w5 : Value} {w6 : Value} {w7 : Value} (hPT : xPT F)  (t : (0 ≤ ((x1) + (x2)) ∧ ((x1) + (x2)) < 264) ∧ (inR (x2) ∧ (((¬ (x2) = (0)) → ((0 ≤ (x2) ∧ (x2) < 30) ∧ (xPT (xup (xup (F) (131) 21 ((F) (132) 1)) (131) 22 (3)) → xW X d 178 101 [.ref (131), vi (x1), vi (x2), vi (x3), vi (x4), vi ((F) (140) ((x1) + (x2))), vi ((F) (136) (x2)), vi (0)] [] (xup (xup (F) (131) 21 ((F) (132) 1)) (131) 22 (3)) (xqv Q)))) ∧ (¬ (¬ (x2) = (0)) → (inR (x4) ∧ (((¬ (x4) = (0)) → ((0 ≤ (x2) ∧ (x2) < 30) ∧ (xPT (xup (xup (F) (131) 21 ((F) (132) 1)) (131) 22 (3)) → xW X d 178 101 [.ref (131), vi (x1), vi (x2), vi (x3), vi (x4), vi ((F) (140) ((x1) + (x2))), vi ((F) (136) (x2)), vi (0)] [] (xup (xup (F) (131) 21 ((F) (132) 1)) (131) 22 (3)) (xqv Q)))) ∧ (¬ (¬ (x4) = (0)) → (xPT (xup (xup (F) (131) 21 ((F) (132) 1)) (131) 22 (3)) → xW X d 178 37 [.ref (131), vi (x1), vi (x2), vi (x3), vi (x4), vi ((F) (140) ((x1) + (x2))), vi (0), w7] [] (xup (xup (F) (131) 21 ((F) (132) 1)) (131) 22 (3)) (xqv Q))))))))) : xW X d 178 0 [.ref (131), vi (x1), vi (x2), vi (x3), vi (x4), w5, w6, w7] [] F (xqv Q) := by
  refine xw_aload_n (n := 1) (show xlook 178 0 = some (0, .aload_n 0, 1, 0, 0, 0, 0) from xlk (by decide +kernel)) rfl rfl ?_
  refine xw_getr (q := 140) (show xlook 178 1 = some (1, .getfield 42, 3, 12, 18, 0, 229) from xlk (by decide +kernel)) (by decide) (xobf xob_12 (by decide) (by decide)) rfl (xPT_get (k := 18) (f := 9) hPT xob_12 (by decide)) (by have := (xtg_12_18 _ xob_12.1 xob_12.2).1.1; omega) (n := 4) rfl ?_
  refine xw_iload_n (n := 5) (show xlook 178 4 = some (4, .iload_n 1, 1, 0, 0, 0, 0) from xlk (by decide +kernel)) rfl rfl ?_
  refine xw_iload_n (n := 6) (show xlook 178 5 = some (5, .iload_n 2, 1, 0, 0, 0, 0) from xlk (by decide +kernel)) rfl rfl ?_
  refine xw_iadd (n := 7) (show xlook 178 6 = some (6, .iadd, 1, 0, 0, 0, 0) from xlk (by decide +kernel)) rfl ?_
  obtain ⟨q1, t⟩ := t
  refine xw_iald (show xlook 178 7 = some (7, .iaload, 1, 0, 0, 0, 0) from xlk (by decide +kernel)) (xtg_12_18 _ xob_12.1 xob_12.2).1 (by rw [(xtg_12_18 _ xob_12.1 xob_12.2).2]; exact q1) (n := 8) rfl ?_
  refine xw_istore (n := 10) (show xlook 178 8 = some (8, .istore 5, 2, 0, 0, 0, 0) from xlk (by decide +kernel)) rfl (ls' := [.ref (131), vi (x1), vi (x2), vi (x3), vi (x4), vi ((F) (140) ((x1) + (x2))), w6, w7]) (Nat.le_of_ble_eq_true rfl) rfl ?_
  refine xw_aload_n (n := 11) (show xlook 178 10 = some (10, .aload_n 0, 1, 0, 0, 0, 0) from xlk (by decide +kernel)) rfl rfl ?_
  refine xw_aload_n (n := 12) (show xlook 178 11 = some (11, .aload_n 0, 1, 0, 0, 0, 0) from xlk (by decide +kernel)) rfl rfl ?_
  refine xw_getr (q := 132) (show xlook 178 12 = some (12, .getfield 13, 3, 12, 1, 0, 220) from xlk (by decide +kernel)) (by decide) (xobf xob_12 (by decide) (by decide)) rfl (xPT_get (k := 1) (f := 1) hPT xob_12 (by decide)) (by have := (xtg_12_1 _ xob_12.1 xob_12.2).1.1; omega) (n := 15) rfl ?_
  refine xw_iconst (n := 16) (show xlook 178 15 = some (15, .iconst 1, 1, 0, 0, 0, 0) from xlk (by decide +kernel)) rfl ?_
  refine xw_iald (show xlook 178 16 = some (16, .iaload, 1, 0, 0, 0, 0) from xlk (by decide +kernel)) (xtg_12_1 _ xob_12.1 xob_12.2).1 (by rw [(xtg_12_1 _ xob_12.1 xob_12.2).2]; decide) (n := 17) rfl ?_
  refine xw_puti (show xlook 178 17 = some (17, .putfield 215, 3, 12, 21, 0, 245) from xlk (by decide +kernel)) (xobf xob_12 (by decide) (by decide)) rfl (n := 20) rfl ?_
  refine xw_aload_n (n := 21) (show xlook 178 20 = some (20, .aload_n 0, 1, 0, 0, 0, 0) from xlk (by decide +kernel)) rfl rfl ?_
  refine xw_iconst (n := 22) (show xlook 178 21 = some (21, .iconst 3, 1, 0, 0, 0, 0) from xlk (by decide +kernel)) rfl ?_
  refine xw_puti (show xlook 178 22 = some (22, .putfield 218, 3, 12, 22, 0, 246) from xlk (by decide +kernel)) (xobf xob_12 (by decide) (by decide)) rfl (n := 25) rfl ?_
  refine xw_iload_n (n := 26) (show xlook 178 25 = some (25, .iload_n 2, 1, 0, 0, 0, 0) from xlk (by decide +kernel)) rfl rfl ?_
  obtain ⟨q0, t⟩ := t
  refine xw_if_ne (n := 29) (m := 90) (show xlook 178 26 = some (26, .ifCond .ne 64, 3, 90, 0, 0, 0) from xlk (by decide +kernel)) rfl rfl q0 ⟨fun c => ?_, fun c => ?_⟩
  · replace t := t.1 c
    refine xw_aload_n (n := 91) (show xlook 178 90 = some (90, .aload_n 0, 1, 0, 0, 0, 0) from xlk (by decide +kernel)) rfl rfl ?_
    refine xw_getr (q := 136) (show xlook 178 91 = some (91, .getfield 30, 3, 12, 13, 0, 225) from xlk (by decide +kernel)) (by decide) (xobf xob_12 (by decide) (by decide)) rfl (xPT_get (k := 13) (f := 5) (xPT_fld (k := 22) (xPT_fld (k := 21) hPT xob_12 (by decide) (by decide)) xob_12 (by decide) (by decide)) xob_12 (by decide)) (by have := (xtg_12_13 _ xob_12.1 xob_12.2).1.1; omega) (n := 94) rfl ?_
    refine xw_iload_n (n := 95) (show xlook 178 94 = some (94, .iload_n 2, 1, 0, 0, 0, 0) from xlk (by decide +kernel)) rfl rfl ?_
    obtain ⟨q1, t⟩ := t
    refine xw_iald2 (u := (F) (136) (x2)) (show xlook 178 95 = some (95, .iaload, 1, 0, 0, 0, 0) from xlk (by decide +kernel)) (xtg_12_13 _ xob_12.1 xob_12.2).1 (by rw [(xtg_12_13 _ xob_12.1 xob_12.2).2]; exact q1) ((xup_o (by decide)).trans (xup_o (by decide))) (n := 96) rfl ?_
    refine xw_istore (n := 98) (show xlook 178 96 = some (96, .istore 6, 2, 0, 0, 0, 0) from xlk (by decide +kernel)) rfl (ls' := [.ref (131), vi (x1), vi (x2), vi (x3), vi (x4), vi ((F) (140) ((x1) + (x2))), vi ((F) (136) (x2)), w7]) (Nat.le_of_ble_eq_true rfl) rfl ?_
    refine xw_iconst (n := 99) (show xlook 178 98 = some (98, .iconst 0, 1, 0, 0, 0, 0) from xlk (by decide +kernel)) rfl ?_
    refine xw_istore (n := 101) (show xlook 178 99 = some (99, .istore 7, 2, 0, 0, 0, 0) from xlk (by decide +kernel)) rfl (ls' := [.ref (131), vi (x1), vi (x2), vi (x3), vi (x4), vi ((F) (140) ((x1) + (x2))), vi ((F) (136) (x2)), vi (0)]) (Nat.le_of_ble_eq_true rfl) rfl ?_
    exact t (xPT_fld (k := 22) (xPT_fld (k := 21) hPT xob_12 (by decide) (by decide)) xob_12 (by decide) (by decide))
  · replace t := t.2 c
    refine xw_iload (n := 31) (show xlook 178 29 = some (29, .iload 4, 2, 0, 0, 0, 0) from xlk (by decide +kernel)) rfl rfl ?_
    obtain ⟨q0, t⟩ := t
    refine xw_if_ne (n := 34) (m := 90) (show xlook 178 31 = some (31, .ifCond .ne 59, 3, 90, 0, 0, 0) from xlk (by decide +kernel)) rfl rfl q0 ⟨fun c => ?_, fun c => ?_⟩
    · replace t := t.1 c
      refine xw_aload_n (n := 91) (show xlook 178 90 = some (90, .aload_n 0, 1, 0, 0, 0, 0) from xlk (by decide +kernel)) rfl rfl ?_
      refine xw_getr (q := 136) (show xlook 178 91 = some (91, .getfield 30, 3, 12, 13, 0, 225) from xlk (by decide +kernel)) (by decide) (xobf xob_12 (by decide) (by decide)) rfl (xPT_get (k := 13) (f := 5) (xPT_fld (k := 22) (xPT_fld (k := 21) hPT xob_12 (by decide) (by decide)) xob_12 (by decide) (by decide)) xob_12 (by decide)) (by have := (xtg_12_13 _ xob_12.1 xob_12.2).1.1; omega) (n := 94) rfl ?_
      refine xw_iload_n (n := 95) (show xlook 178 94 = some (94, .iload_n 2, 1, 0, 0, 0, 0) from xlk (by decide +kernel)) rfl rfl ?_
      obtain ⟨q1, t⟩ := t
      refine xw_iald2 (u := (F) (136) (x2)) (show xlook 178 95 = some (95, .iaload, 1, 0, 0, 0, 0) from xlk (by decide +kernel)) (xtg_12_13 _ xob_12.1 xob_12.2).1 (by rw [(xtg_12_13 _ xob_12.1 xob_12.2).2]; exact q1) ((xup_o (by decide)).trans (xup_o (by decide))) (n := 96) rfl ?_
      refine xw_istore (n := 98) (show xlook 178 96 = some (96, .istore 6, 2, 0, 0, 0, 0) from xlk (by decide +kernel)) rfl (ls' := [.ref (131), vi (x1), vi (x2), vi (x3), vi (x4), vi ((F) (140) ((x1) + (x2))), vi ((F) (136) (x2)), w7]) (Nat.le_of_ble_eq_true rfl) rfl ?_
      refine xw_iconst (n := 99) (show xlook 178 98 = some (98, .iconst 0, 1, 0, 0, 0, 0) from xlk (by decide +kernel)) rfl ?_
      refine xw_istore (n := 101) (show xlook 178 99 = some (99, .istore 7, 2, 0, 0, 0, 0) from xlk (by decide +kernel)) rfl (ls' := [.ref (131), vi (x1), vi (x2), vi (x3), vi (x4), vi ((F) (140) ((x1) + (x2))), vi ((F) (136) (x2)), vi (0)]) (Nat.le_of_ble_eq_true rfl) rfl ?_
      exact t (xPT_fld (k := 22) (xPT_fld (k := 21) hPT xob_12 (by decide) (by decide)) xob_12 (by decide) (by decide))
    · replace t := t.2 c
      refine xw_iconst (n := 35) (show xlook 178 34 = some (34, .iconst 0, 1, 0, 0, 0, 0) from xlk (by decide +kernel)) rfl ?_
      refine xw_istore (n := 37) (show xlook 178 35 = some (35, .istore 6, 2, 0, 0, 0, 0) from xlk (by decide +kernel)) rfl (ls' := [.ref (131), vi (x1), vi (x2), vi (x3), vi (x4), vi ((F) (140) ((x1) + (x2))), vi (0), w7]) (Nat.le_of_ble_eq_true rfl) rfl ?_
      exact t (xPT_fld (k := 22) (xPT_fld (k := 21) hPT xob_12 (by decide) (by decide)) xob_12 (by decide) (by decide))
theorem m178 {X : List Int32} {d : Nat} {F : XF} {Q : XF → Prop} {x1 : Int} {x2 : Int} {x3 : Int} {x4 : Int} (hPT : xPT F)  (t : (0 ≤ ((x1) + (x2)) ∧ ((x1) + (x2)) < 264) ∧ (inR (x2) ∧ (((¬ (x2) = (0)) → ((0 ≤ (x2) ∧ (x2) < 30) ∧ (xPT (xup (xup (F) (131) 21 ((F) (132) 1)) (131) 22 (3)) → xW X d 178 101 [.ref (131), vi (x1), vi (x2), vi (x3), vi (x4), vi ((F) (140) ((x1) + (x2))), vi ((F) (136) (x2)), vi (0)] [] (xup (xup (F) (131) 21 ((F) (132) 1)) (131) 22 (3)) (xqv Q)))) ∧ (¬ (¬ (x2) = (0)) → (inR (x4) ∧ (((¬ (x4) = (0)) → ((0 ≤ (x2) ∧ (x2) < 30) ∧ (xPT (xup (xup (F) (131) 21 ((F) (132) 1)) (131) 22 (3)) → xW X d 178 101 [.ref (131), vi (x1), vi (x2), vi (x3), vi (x4), vi ((F) (140) ((x1) + (x2))), vi ((F) (136) (x2)), vi (0)] [] (xup (xup (F) (131) 21 ((F) (132) 1)) (131) 22 (3)) (xqv Q)))) ∧ (¬ (¬ (x4) = (0)) → (xPT (xup (xup (F) (131) 21 ((F) (132) 1)) (131) 22 (3)) → xW X d 178 37 [.ref (131), vi (x1), vi (x2), vi (x3), vi (x4), vi ((F) (140) ((x1) + (x2))), vi (0), xU0] [] (xup (xup (F) (131) 21 ((F) (132) 1)) (131) 22 (3)) (xqv Q))))))))) : xMV X d 178 [.ref (131), vi (x1), vi (x2), vi (x3), vi (x4)] F Q := by
  show xW X d 178 0 [.ref (131), vi (x1), vi (x2), vi (x3), vi (x4), xU0, xU0, xU0] [] F (xqv Q)
  exact s178_0 hPT  t

theorem s178_37 {X : List Int32} {d : Nat} {F : XF} {Q : XF → Prop} {x1 : Int} {x2 : Int} {x3 : Int} {x4 : Int} {x5 : Int} {x6 : Int} {w7 : Value} (hPT : xPT F)  (t : inR (x6) ∧ inR ((F) (132) 6) ∧ (((((F) (132) 6) ≤ (x6)) → ((0 ≤ (x2) ∧ (x2) < 30) ∧ (xPT (F) → xW X d 178 101 [.ref (131), vi (x1), vi (x2), vi (x3), vi (x4), vi (x5), vi ((F) (136) (x2)), vi (0)] [] (F) (xqv Q)))) ∧ (¬ (((F) (132) 6) ≤ (x6)) → ((0 ≤ ((138) + (x6)) ∧ ((138) + (x6)) < 163) ∧ (inR (x5) ∧ inR ((F) (132) ((138) + (x6))) ∧ (((((F) (132) ((138) + (x6))) < (x5)) → (xPT (F) → xW X d 178 37 [.ref (131), vi (x1), vi (x2), vi (x3), vi (x4), vi (x5), vi (x6 + 1), w7] [] (F) (xqv Q))) ∧ (¬ (((F) (132) ((138) + (x6))) < (x5)) → ((0 ≤ ((138) + (x6)) ∧ ((138) + (x6)) < 163) ∧ (∃ (j1 : Nat), j1 < d ∧ xMV X j1 177 [.ref (131), vi (((F) (132) ((138) + (x6))) - (x5)), vi (4)] (F) (fun (G1 : XF) => (xPT (G1) → xW X d 178 37 [.ref (131), vi (x1), vi (x2), vi (x3), vi (x4), vi (x5), vi (x6 + 1), w7] [] (G1) (xqv Q)))))))))))) : xW X d 178 37 [.ref (131), vi (x1), vi (x2), vi (x3), vi (x4), vi (x5), vi (x6), w7] [] F (xqv Q) := by
  refine xw_iload (n := 39) (show xlook 178 37 = some (37, .iload 6, 2, 0, 0, 0, 0) from xlk (by decide +kernel)) rfl rfl ?_
  refine xw_aload_n (n := 40) (show xlook 178 39 = some (39, .aload_n 0, 1, 0, 0, 0, 0) from xlk (by decide +kernel)) rfl rfl ?_
  refine xw_getr (q := 132) (show xlook 178 40 = some (40, .getfield 13, 3, 12, 1, 0, 220) from xlk (by decide +kernel)) (by decide) (xobf xob_12 (by decide) (by decide)) rfl (xPT_get (k := 1) (f := 1) hPT xob_12 (by decide)) (by have := (xtg_12_1 _ xob_12.1 xob_12.2).1.1; omega) (n := 43) rfl ?_
  refine xw_bipush (n := 45) (show xlook 178 43 = some (43, .bipush 6, 2, 0, 0, 0, 0) from xlk (by decide +kernel)) rfl (by decide) ?_
  refine xw_iald (show xlook 178 45 = some (45, .iaload, 1, 0, 0, 0, 0) from xlk (by decide +kernel)) (xtg_12_1 _ xob_12.1 xob_12.2).1 (by rw [(xtg_12_1 _ xob_12.1 xob_12.2).2]; decide) (n := 46) rfl ?_
  obtain ⟨q0, q1, t⟩ := t
  refine xw_icmp_ge (n := 49) (m := 90) (show xlook 178 46 = some (46, .if_icmp .ge 44, 3, 90, 0, 0, 0) from xlk (by decide +kernel)) rfl rfl q0 q1 ⟨fun c => ?_, fun c => ?_⟩
  · replace t := t.1 c
    refine xw_aload_n (n := 91) (show xlook 178 90 = some (90, .aload_n 0, 1, 0, 0, 0, 0) from xlk (by decide +kernel)) rfl rfl ?_
    refine xw_getr (q := 136) (show xlook 178 91 = some (91, .getfield 30, 3, 12, 13, 0, 225) from xlk (by decide +kernel)) (by decide) (xobf xob_12 (by decide) (by decide)) rfl (xPT_get (k := 13) (f := 5) hPT xob_12 (by decide)) (by have := (xtg_12_13 _ xob_12.1 xob_12.2).1.1; omega) (n := 94) rfl ?_
    refine xw_iload_n (n := 95) (show xlook 178 94 = some (94, .iload_n 2, 1, 0, 0, 0, 0) from xlk (by decide +kernel)) rfl rfl ?_
    obtain ⟨q1, t⟩ := t
    refine xw_iald (show xlook 178 95 = some (95, .iaload, 1, 0, 0, 0, 0) from xlk (by decide +kernel)) (xtg_12_13 _ xob_12.1 xob_12.2).1 (by rw [(xtg_12_13 _ xob_12.1 xob_12.2).2]; exact q1) (n := 96) rfl ?_
    refine xw_istore (n := 98) (show xlook 178 96 = some (96, .istore 6, 2, 0, 0, 0, 0) from xlk (by decide +kernel)) rfl (ls' := [.ref (131), vi (x1), vi (x2), vi (x3), vi (x4), vi (x5), vi ((F) (136) (x2)), w7]) (Nat.le_of_ble_eq_true rfl) rfl ?_
    refine xw_iconst (n := 99) (show xlook 178 98 = some (98, .iconst 0, 1, 0, 0, 0, 0) from xlk (by decide +kernel)) rfl ?_
    refine xw_istore (n := 101) (show xlook 178 99 = some (99, .istore 7, 2, 0, 0, 0, 0) from xlk (by decide +kernel)) rfl (ls' := [.ref (131), vi (x1), vi (x2), vi (x3), vi (x4), vi (x5), vi ((F) (136) (x2)), vi (0)]) (Nat.le_of_ble_eq_true rfl) rfl ?_
    exact t hPT
  · replace t := t.2 c
    refine xw_iload (n := 51) (show xlook 178 49 = some (49, .iload 5, 2, 0, 0, 0, 0) from xlk (by decide +kernel)) rfl rfl ?_
    refine xw_aload_n (n := 52) (show xlook 178 51 = some (51, .aload_n 0, 1, 0, 0, 0, 0) from xlk (by decide +kernel)) rfl rfl ?_
    refine xw_getr (q := 132) (show xlook 178 52 = some (52, .getfield 13, 3, 12, 1, 0, 220) from xlk (by decide +kernel)) (by decide) (xobf xob_12 (by decide) (by decide)) rfl (xPT_get (k := 1) (f := 1) hPT xob_12 (by decide)) (by have := (xtg_12_1 _ xob_12.1 xob_12.2).1.1; omega) (n := 55) rfl ?_
    refine xw_sipush (n := 58) (show xlook 178 55 = some (55, .sipush 138, 3, 0, 0, 0, 0) from xlk (by decide +kernel)) rfl (by decide) ?_
    refine xw_iload (n := 60) (show xlook 178 58 = some (58, .iload 6, 2, 0, 0, 0, 0) from xlk (by decide +kernel)) rfl rfl ?_
    refine xw_iadd (n := 61) (show xlook 178 60 = some (60, .iadd, 1, 0, 0, 0, 0) from xlk (by decide +kernel)) rfl ?_
    obtain ⟨q1, t⟩ := t
    refine xw_iald (show xlook 178 61 = some (61, .iaload, 1, 0, 0, 0, 0) from xlk (by decide +kernel)) (xtg_12_1 _ xob_12.1 xob_12.2).1 (by rw [(xtg_12_1 _ xob_12.1 xob_12.2).2]; exact q1) (n := 62) rfl ?_
    obtain ⟨q0, q1, t⟩ := t
    refine xw_icmp_gt (n := 65) (m := 84) (show xlook 178 62 = some (62, .if_icmp .gt 22, 3, 84, 0, 0, 0) from xlk (by decide +kernel)) rfl rfl q0 q1 ⟨fun c => ?_, fun c => ?_⟩
    · replace t := t.1 c
      refine xw_iinc (n := 87) (show xlook 178 84 = some (84, .iinc 6 1, 3, 0, 0, 0, 0) from xlk (by decide +kernel)) rfl (ls' := [.ref (131), vi (x1), vi (x2), vi (x3), vi (x4), vi (x5), vi (x6 + 1), w7]) rfl rfl ?_
      refine xw_goto (m := 37) (show xlook 178 87 = some (87, .goto (-50), 3, 37, 0, 0, 0) from xlk (by decide +kernel)) rfl ?_
      exact t hPT
    · replace t := t.2 c
      refine xw_aload_n (n := 66) (show xlook 178 65 = some (65, .aload_n 0, 1, 0, 0, 0, 0) from xlk (by decide +kernel)) rfl rfl ?_
      refine xw_aload_n (n := 67) (show xlook 178 66 = some (66, .aload_n 0, 1, 0, 0, 0, 0) from xlk (by decide +kernel)) rfl rfl ?_
      refine xw_getr (q := 132) (show xlook 178 67 = some (67, .getfield 13, 3, 12, 1, 0, 220) from xlk (by decide +kernel)) (by decide) (xobf xob_12 (by decide) (by decide)) rfl (xPT_get (k := 1) (f := 1) hPT xob_12 (by decide)) (by have := (xtg_12_1 _ xob_12.1 xob_12.2).1.1; omega) (n := 70) rfl ?_
      refine xw_sipush (n := 73) (show xlook 178 70 = some (70, .sipush 138, 3, 0, 0, 0, 0) from xlk (by decide +kernel)) rfl (by decide) ?_
      refine xw_iload (n := 75) (show xlook 178 73 = some (73, .iload 6, 2, 0, 0, 0, 0) from xlk (by decide +kernel)) rfl rfl ?_
      refine xw_iadd (n := 76) (show xlook 178 75 = some (75, .iadd, 1, 0, 0, 0, 0) from xlk (by decide +kernel)) rfl ?_
      obtain ⟨q1, t⟩ := t
      refine xw_iald (show xlook 178 76 = some (76, .iaload, 1, 0, 0, 0, 0) from xlk (by decide +kernel)) (xtg_12_1 _ xob_12.1 xob_12.2).1 (by rw [(xtg_12_1 _ xob_12.1 xob_12.2).2]; exact q1) (n := 77) rfl ?_
      refine xw_iload (n := 79) (show xlook 178 77 = some (77, .iload 5, 2, 0, 0, 0, 0) from xlk (by decide +kernel)) rfl rfl ?_
      refine xw_isub (n := 80) (show xlook 178 79 = some (79, .isub, 1, 0, 0, 0, 0) from xlk (by decide +kernel)) rfl ?_
      refine xw_iconst (n := 81) (show xlook 178 80 = some (80, .iconst 4, 1, 0, 0, 0, 0) from xlk (by decide +kernel)) rfl ?_
      obtain ⟨j1, hj1, rr1, G1, hm1, hG1, t⟩ := t
      obtain ⟨rfl, t⟩ := t
      refine xw_callv (dk := j1) (o := 131) (as := [vi (((F) (132) ((138) + (x6))) - (x5)), vi (4)]) (show xlook 178 81 = some (81, .invokevirtual 221, 3, 177, 3, 0, 182) from xlk (by decide +kernel)) (by decide) hj1 ⟨Nat.le_of_ble_eq_true rfl, Nat.le_of_ble_eq_true rfl, Nat.le_of_ble_eq_true rfl⟩ ⟨xob_12.1, xob_12.2, by decide⟩ rfl hm1 (n := 84) rfl ?_
      show xW X d 178 84 [.ref (131), vi (x1), vi (x2), vi (x3), vi (x4), vi (x5), vi (x6), w7] [] G1 (xqv Q)
      refine xw_iinc (n := 87) (show xlook 178 84 = some (84, .iinc 6 1, 3, 0, 0, 0, 0) from xlk (by decide +kernel)) rfl (ls' := [.ref (131), vi (x1), vi (x2), vi (x3), vi (x4), vi (x5), vi (x6 + 1), w7]) rfl rfl ?_
      refine xw_goto (m := 37) (show xlook 178 87 = some (87, .goto (-50), 3, 37, 0, 0, 0) from xlk (by decide +kernel)) rfl ?_
      exact t hG1

theorem s178_101 {X : List Int32} {d : Nat} {F : XF} {Q : XF → Prop} {x1 : Int} {x2 : Int} {x3 : Int} {x4 : Int} {x5 : Int} {x6 : Int} {x7 : Int} (hPT : xPT F)  (t : (0 ≤ (x6) ∧ (x6) < 30) ∧ (inR ((F) (137) (x6)) ∧ inR (x2) ∧ (((¬ ((F) (137) (x6)) = (x2)) → (xPT (F) → xW X d 178 182 [.ref (131), vi (x1), vi (x2), vi (x3), vi (x4), vi (x5), vi (x6), vi (x7)] [] (F) (xqv Q))) ∧ (¬ (¬ ((F) (137) (x6)) = (x2)) → (inR (x7) ∧ inR ((F) (132) 4) ∧ (((((F) (132) 4) ≤ (x7)) → (xPT (F) → xW X d 178 182 [.ref (131), vi (x1), vi (x2), vi (x3), vi (x4), vi (x5), vi (x6), vi (x7)] [] (F) (xqv Q))) ∧ (¬ (((F) (132) 4) ≤ (x7)) → (∃ (j1 : Nat), j1 < d ∧ xMI X j1 164 [.ref (131), vi (x7)] (F) (fun (y1 : Int) (G1 : XF) => (inR (x5) ∧ inR (y1) ∧ ((((y1) < (x5)) → (xPT (G1) → xW X d 178 101 [.ref (131), vi (x1), vi (x2), vi (x3), vi (x4), vi (x5), vi (x6), vi (x7 + 1)] [] (G1) (xqv Q))) ∧ (¬ ((y1) < (x5)) → (∃ (j2 : Nat), j2 < d ∧ xMI X j2 164 [.ref (131), vi (x7)] (G1) (fun (y2 : Int) (G2 : XF) => (inR ((y2) - (x5)) ∧ inR ((G2) (131) 21) ∧ (((((G2) (131) 21) ≤ ((y2) - (x5))) → (xPT (G2) → xW X d 178 101 [.ref (131), vi (x1), vi (x2), vi (x3), vi (x4), vi (x5), vi (x6), vi (x7 + 1)] [] (G2) (xqv Q))) ∧ (¬ (((G2) (131) 21) ≤ ((y2) - (x5))) → (∃ (j3 : Nat), j3 < d ∧ xMI X j3 169 [.ref (131), vi (x6), vi (x7), vi (x3)] (G2) (fun (y3 : Int) (G3 : XF) => (inR (y3) ∧ (((¬ (y3) = (0)) → (xPT (G3) → xW X d 178 101 [.ref (131), vi (x1), vi (x2), vi (x3), vi (x4), vi (x5), vi (x6), vi (x7 + 1)] [] (G3) (xqv Q))) ∧ (¬ (¬ (y3) = (0)) → (∃ (j4 : Nat), j4 < d ∧ xMI X j4 164 [.ref (131), vi (x7)] (G3) (fun (y4 : Int) (G4 : XF) => (∃ (j5 : Nat), j5 < d ∧ xMV X j5 177 [.ref (131), vi ((y4) - (x5)), vi (5)] (G4) (fun (G5 : XF) => (xPT (G5) → xW X d 178 101 [.ref (131), vi (x1), vi (x2), vi (x3), vi (x4), vi (x5), vi (x6), vi (x7 + 1)] [] (G5) (xqv Q)))))))))))))))))))))))))))) : xW X d 178 101 [.ref (131), vi (x1), vi (x2), vi (x3), vi (x4), vi (x5), vi (x6), vi (x7)] [] F (xqv Q) := by
  refine xw_aload_n (n := 102) (show xlook 178 101 = some (101, .aload_n 0, 1, 0, 0, 0, 0) from xlk (by decide +kernel)) rfl rfl ?_
  refine xw_getr (q := 137) (show xlook 178 102 = some (102, .getfield 33, 3, 12, 14, 0, 226) from xlk (by decide +kernel)) (by decide) (xobf xob_12 (by decide) (by decide)) rfl (xPT_get (k := 14) (f := 6) hPT xob_12 (by decide)) (by have := (xtg_12_14 _ xob_12.1 xob_12.2).1.1; omega) (n := 105) rfl ?_
  refine xw_iload (n := 107) (show xlook 178 105 = some (105, .iload 6, 2, 0, 0, 0, 0) from xlk (by decide +kernel)) rfl rfl ?_
  obtain ⟨q1, t⟩ := t
  refine xw_iald (show xlook 178 107 = some (107, .iaload, 1, 0, 0, 0, 0) from xlk (by decide +kernel)) (xtg_12_14 _ xob_12.1 xob_12.2).1 (by rw [(xtg_12_14 _ xob_12.1 xob_12.2).2]; exact q1) (n := 108) rfl ?_
  refine xw_iload_n (n := 109) (show xlook 178 108 = some (108, .iload_n 2, 1, 0, 0, 0, 0) from xlk (by decide +kernel)) rfl rfl ?_
  obtain ⟨q0, q1, t⟩ := t
  refine xw_icmp_ne (n := 112) (m := 182) (show xlook 178 109 = some (109, .if_icmp .ne 73, 3, 182, 0, 0, 0) from xlk (by decide +kernel)) rfl rfl q0 q1 ⟨fun c => ?_, fun c => ?_⟩
  · replace t := t.1 c
    exact t hPT
  · replace t := t.2 c
    refine xw_iload (n := 114) (show xlook 178 112 = some (112, .iload 7, 2, 0, 0, 0, 0) from xlk (by decide +kernel)) rfl rfl ?_
    refine xw_aload_n (n := 115) (show xlook 178 114 = some (114, .aload_n 0, 1, 0, 0, 0, 0) from xlk (by decide +kernel)) rfl rfl ?_
    refine xw_getr (q := 132) (show xlook 178 115 = some (115, .getfield 13, 3, 12, 1, 0, 220) from xlk (by decide +kernel)) (by decide) (xobf xob_12 (by decide) (by decide)) rfl (xPT_get (k := 1) (f := 1) hPT xob_12 (by decide)) (by have := (xtg_12_1 _ xob_12.1 xob_12.2).1.1; omega) (n := 118) rfl ?_
    refine xw_iconst (n := 119) (show xlook 178 118 = some (118, .iconst 4, 1, 0, 0, 0, 0) from xlk (by decide +kernel)) rfl ?_
    refine xw_iald (show xlook 178 119 = some (119, .iaload, 1, 0, 0, 0, 0) from xlk (by decide +kernel)) (xtg_12_1 _ xob_12.1 xob_12.2).1 (by rw [(xtg_12_1 _ xob_12.1 xob_12.2).2]; decide) (n := 120) rfl ?_
    obtain ⟨q0, q1, t⟩ := t
    refine xw_icmp_ge (n := 123) (m := 182) (show xlook 178 120 = some (120, .if_icmp .ge 62, 3, 182, 0, 0, 0) from xlk (by decide +kernel)) rfl rfl q0 q1 ⟨fun c => ?_, fun c => ?_⟩
    · replace t := t.1 c
      exact t hPT
    · replace t := t.2 c
      refine xw_iload (n := 125) (show xlook 178 123 = some (123, .iload 5, 2, 0, 0, 0, 0) from xlk (by decide +kernel)) rfl rfl ?_
      refine xw_aload_n (n := 126) (show xlook 178 125 = some (125, .aload_n 0, 1, 0, 0, 0, 0) from xlk (by decide +kernel)) rfl rfl ?_
      refine xw_iload (n := 128) (show xlook 178 126 = some (126, .iload 7, 2, 0, 0, 0, 0) from xlk (by decide +kernel)) rfl rfl ?_
      obtain ⟨j1, hj1, rr1, G1, hm1, hG1, t⟩ := t
      obtain ⟨y1, rfl, t⟩ := t
      refine xw_callv (dk := j1) (o := 131) (as := [vi (x7)]) (show xlook 178 128 = some (128, .invokevirtual 209, 3, 164, 2, 0, 180) from xlk (by decide +kernel)) (by decide) hj1 ⟨Nat.le_of_ble_eq_true rfl, Nat.le_of_ble_eq_true rfl, Nat.le_of_ble_eq_true rfl⟩ ⟨xob_12.1, xob_12.2, by decide⟩ rfl hm1 (n := 131) rfl ?_
      show xW X d 178 131 [.ref (131), vi (x1), vi (x2), vi (x3), vi (x4), vi (x5), vi (x6), vi (x7)] [vi (y1), vi (x5)] G1 (xqv Q)
      obtain ⟨q0, q1, t⟩ := t
      refine xw_icmp_gt (n := 134) (m := 176) (show xlook 178 131 = some (131, .if_icmp .gt 45, 3, 176, 0, 0, 0) from xlk (by decide +kernel)) rfl rfl q0 q1 ⟨fun c => ?_, fun c => ?_⟩
      · replace t := t.1 c
        refine xw_iinc (n := 179) (show xlook 178 176 = some (176, .iinc 7 1, 3, 0, 0, 0, 0) from xlk (by decide +kernel)) rfl (ls' := [.ref (131), vi (x1), vi (x2), vi (x3), vi (x4), vi (x5), vi (x6), vi (x7 + 1)]) rfl rfl ?_
        refine xw_goto (m := 101) (show xlook 178 179 = some (179, .goto (-78), 3, 101, 0, 0, 0) from xlk (by decide +kernel)) rfl ?_
        exact t hG1
      · replace t := t.2 c
        refine xw_aload_n (n := 135) (show xlook 178 134 = some (134, .aload_n 0, 1, 0, 0, 0, 0) from xlk (by decide +kernel)) rfl rfl ?_
        refine xw_iload (n := 137) (show xlook 178 135 = some (135, .iload 7, 2, 0, 0, 0, 0) from xlk (by decide +kernel)) rfl rfl ?_
        obtain ⟨j2, hj2, rr2, G2, hm2, hG2, t⟩ := t
        obtain ⟨y2, rfl, t⟩ := t
        refine xw_callv (dk := j2) (o := 131) (as := [vi (x7)]) (show xlook 178 137 = some (137, .invokevirtual 209, 3, 164, 2, 0, 180) from xlk (by decide +kernel)) (by decide) hj2 ⟨Nat.le_of_ble_eq_true rfl, Nat.le_of_ble_eq_true rfl, Nat.le_of_ble_eq_true rfl⟩ ⟨xob_12.1, xob_12.2, by decide⟩ rfl hm2 (n := 140) rfl ?_
        show xW X d 178 140 [.ref (131), vi (x1), vi (x2), vi (x3), vi (x4), vi (x5), vi (x6), vi (x7)] [vi (y2)] G2 (xqv Q)
        refine xw_iload (n := 142) (show xlook 178 140 = some (140, .iload 5, 2, 0, 0, 0, 0) from xlk (by decide +kernel)) rfl rfl ?_
        refine xw_isub (n := 143) (show xlook 178 142 = some (142, .isub, 1, 0, 0, 0, 0) from xlk (by decide +kernel)) rfl ?_
        refine xw_aload_n (n := 144) (show xlook 178 143 = some (143, .aload_n 0, 1, 0, 0, 0, 0) from xlk (by decide +kernel)) rfl rfl ?_
        refine xw_geti (show xlook 178 144 = some (144, .getfield 215, 3, 12, 21, 0, 245) from xlk (by decide +kernel)) (by decide) (xobf xob_12 (by decide) (by decide)) rfl (n := 147) rfl ?_
        obtain ⟨q0, q1, t⟩ := t
        refine xw_icmp_ge (n := 150) (m := 176) (show xlook 178 147 = some (147, .if_icmp .ge 29, 3, 176, 0, 0, 0) from xlk (by decide +kernel)) rfl rfl q0 q1 ⟨fun c => ?_, fun c => ?_⟩
        · replace t := t.1 c
          refine xw_iinc (n := 179) (show xlook 178 176 = some (176, .iinc 7 1, 3, 0, 0, 0, 0) from xlk (by decide +kernel)) rfl (ls' := [.ref (131), vi (x1), vi (x2), vi (x3), vi (x4), vi (x5), vi (x6), vi (x7 + 1)]) rfl rfl ?_
          refine xw_goto (m := 101) (show xlook 178 179 = some (179, .goto (-78), 3, 101, 0, 0, 0) from xlk (by decide +kernel)) rfl ?_
          exact t hG2
        · replace t := t.2 c
          refine xw_aload_n (n := 151) (show xlook 178 150 = some (150, .aload_n 0, 1, 0, 0, 0, 0) from xlk (by decide +kernel)) rfl rfl ?_
          refine xw_iload (n := 153) (show xlook 178 151 = some (151, .iload 6, 2, 0, 0, 0, 0) from xlk (by decide +kernel)) rfl rfl ?_
          refine xw_iload (n := 155) (show xlook 178 153 = some (153, .iload 7, 2, 0, 0, 0, 0) from xlk (by decide +kernel)) rfl rfl ?_
          refine xw_iload_n (n := 156) (show xlook 178 155 = some (155, .iload_n 3, 1, 0, 0, 0, 0) from xlk (by decide +kernel)) rfl rfl ?_
          obtain ⟨j3, hj3, rr3, G3, hm3, hG3, t⟩ := t
          obtain ⟨y3, rfl, t⟩ := t
          refine xw_callv (dk := j3) (o := 131) (as := [vi (x6), vi (x7), vi (x3)]) (show xlook 178 156 = some (156, .invokevirtual 224, 3, 169, 4, 0, 183) from xlk (by decide +kernel)) (by decide) hj3 ⟨Nat.le_of_ble_eq_true rfl, Nat.le_of_ble_eq_true rfl, Nat.le_of_ble_eq_true rfl⟩ ⟨xob_12.1, xob_12.2, by decide⟩ rfl hm3 (n := 159) rfl ?_
          show xW X d 178 159 [.ref (131), vi (x1), vi (x2), vi (x3), vi (x4), vi (x5), vi (x6), vi (x7)] [vi (y3)] G3 (xqv Q)
          obtain ⟨q0, t⟩ := t
          refine xw_if_ne (n := 162) (m := 176) (show xlook 178 159 = some (159, .ifCond .ne 17, 3, 176, 0, 0, 0) from xlk (by decide +kernel)) rfl rfl q0 ⟨fun c => ?_, fun c => ?_⟩
          · replace t := t.1 c
            refine xw_iinc (n := 179) (show xlook 178 176 = some (176, .iinc 7 1, 3, 0, 0, 0, 0) from xlk (by decide +kernel)) rfl (ls' := [.ref (131), vi (x1), vi (x2), vi (x3), vi (x4), vi (x5), vi (x6), vi (x7 + 1)]) rfl rfl ?_
            refine xw_goto (m := 101) (show xlook 178 179 = some (179, .goto (-78), 3, 101, 0, 0, 0) from xlk (by decide +kernel)) rfl ?_
            exact t hG3
          · replace t := t.2 c
            refine xw_aload_n (n := 163) (show xlook 178 162 = some (162, .aload_n 0, 1, 0, 0, 0, 0) from xlk (by decide +kernel)) rfl rfl ?_
            refine xw_aload_n (n := 164) (show xlook 178 163 = some (163, .aload_n 0, 1, 0, 0, 0, 0) from xlk (by decide +kernel)) rfl rfl ?_
            refine xw_iload (n := 166) (show xlook 178 164 = some (164, .iload 7, 2, 0, 0, 0, 0) from xlk (by decide +kernel)) rfl rfl ?_
            obtain ⟨j4, hj4, rr4, G4, hm4, hG4, t⟩ := t
            obtain ⟨y4, rfl, t⟩ := t
            refine xw_callv (dk := j4) (o := 131) (as := [vi (x7)]) (show xlook 178 166 = some (166, .invokevirtual 209, 3, 164, 2, 0, 180) from xlk (by decide +kernel)) (by decide) hj4 ⟨Nat.le_of_ble_eq_true rfl, Nat.le_of_ble_eq_true rfl, Nat.le_of_ble_eq_true rfl⟩ ⟨xob_12.1, xob_12.2, by decide⟩ rfl hm4 (n := 169) rfl ?_
            show xW X d 178 169 [.ref (131), vi (x1), vi (x2), vi (x3), vi (x4), vi (x5), vi (x6), vi (x7)] [vi (y4), .ref (131)] G4 (xqv Q)
            refine xw_iload (n := 171) (show xlook 178 169 = some (169, .iload 5, 2, 0, 0, 0, 0) from xlk (by decide +kernel)) rfl rfl ?_
            refine xw_isub (n := 172) (show xlook 178 171 = some (171, .isub, 1, 0, 0, 0, 0) from xlk (by decide +kernel)) rfl ?_
            refine xw_iconst (n := 173) (show xlook 178 172 = some (172, .iconst 5, 1, 0, 0, 0, 0) from xlk (by decide +kernel)) rfl ?_
            obtain ⟨j5, hj5, rr5, G5, hm5, hG5, t⟩ := t
            obtain ⟨rfl, t⟩ := t
            refine xw_callv (dk := j5) (o := 131) (as := [vi ((y4) - (x5)), vi (5)]) (show xlook 178 173 = some (173, .invokevirtual 221, 3, 177, 3, 0, 182) from xlk (by decide +kernel)) (by decide) hj5 ⟨Nat.le_of_ble_eq_true rfl, Nat.le_of_ble_eq_true rfl, Nat.le_of_ble_eq_true rfl⟩ ⟨xob_12.1, xob_12.2, by decide⟩ rfl hm5 (n := 176) rfl ?_
            show xW X d 178 176 [.ref (131), vi (x1), vi (x2), vi (x3), vi (x4), vi (x5), vi (x6), vi (x7)] [] G5 (xqv Q)
            refine xw_iinc (n := 179) (show xlook 178 176 = some (176, .iinc 7 1, 3, 0, 0, 0, 0) from xlk (by decide +kernel)) rfl (ls' := [.ref (131), vi (x1), vi (x2), vi (x3), vi (x4), vi (x5), vi (x6), vi (x7 + 1)]) rfl rfl ?_
            refine xw_goto (m := 101) (show xlook 178 179 = some (179, .goto (-78), 3, 101, 0, 0, 0) from xlk (by decide +kernel)) rfl ?_
            exact t hG5

theorem s178_182 {X : List Int32} {d : Nat} {F : XF} {Q : XF → Prop} {x1 : Int} {x2 : Int} {x3 : Int} {x4 : Int} {x5 : Int} {x6 : Int} {x7 : Int} (hPT : xPT F)  (t : inR (x2) ∧ ((((x2) ≤ (0)) → (xPT (F) → xW X d 178 221 [.ref (131), vi (x1), vi (x2), vi (x3), vi (x4), vi (x5), vi (x6), vi (x7)] [] (F) (xqv Q))) ∧ (¬ ((x2) ≤ (0)) → (∃ (j1 : Nat), j1 < d ∧ xMI X j1 172 [.ref (131), vi (x1), vi ((x2) - (1))] (F) (fun (y1 : Int) (G1 : XF) => (inR (y1) ∧ (((¬ (y1) = (0)) → (xPT (G1) → xW X d 178 221 [.ref (131), vi (x1), vi (x2), vi (x3), vi (x4), vi (x5), vi (x6), vi (x7)] [] (G1) (xqv Q))) ∧ (¬ (¬ (y1) = (0)) → (∃ (j2 : Nat), j2 < d ∧ xMI X j2 171 [.ref (131), vi (x1), vi ((x2) - (1))] (G1) (fun (y2 : Int) (G2 : XF) => (∃ (j3 : Nat), j3 < d ∧ xMV X j3 177 [.ref (131), vi (((y2) - ((G2) (132) 2)) - (x5)), vi (6)] (G2) (fun (G3 : XF) => (xPT (G3) → xW X d 178 221 [.ref (131), vi (x1), vi (x2), vi (x3), vi (x4), vi (x5), vi (x6), vi (x7)] [] (G3) (xqv Q)))))))))))))) : xW X d 178 182 [.ref (131), vi (x1), vi (x2), vi (x3), vi (x4), vi (x5), vi (x6), vi (x7)] [] F (xqv Q) := by
  refine xw_iload_n (n := 183) (show xlook 178 182 = some (182, .iload_n 2, 1, 0, 0, 0, 0) from xlk (by decide +kernel)) rfl rfl ?_
  obtain ⟨q0, t⟩ := t
  refine xw_if_le (n := 186) (m := 221) (show xlook 178 183 = some (183, .ifCond .le 38, 3, 221, 0, 0, 0) from xlk (by decide +kernel)) rfl rfl q0 ⟨fun c => ?_, fun c => ?_⟩
  · replace t := t.1 c
    exact t hPT
  · replace t := t.2 c
    refine xw_aload_n (n := 187) (show xlook 178 186 = some (186, .aload_n 0, 1, 0, 0, 0, 0) from xlk (by decide +kernel)) rfl rfl ?_
    refine xw_iload_n (n := 188) (show xlook 178 187 = some (187, .iload_n 1, 1, 0, 0, 0, 0) from xlk (by decide +kernel)) rfl rfl ?_
    refine xw_iload_n (n := 189) (show xlook 178 188 = some (188, .iload_n 2, 1, 0, 0, 0, 0) from xlk (by decide +kernel)) rfl rfl ?_
    refine xw_iconst (n := 190) (show xlook 178 189 = some (189, .iconst 1, 1, 0, 0, 0, 0) from xlk (by decide +kernel)) rfl ?_
    refine xw_isub (n := 191) (show xlook 178 190 = some (190, .isub, 1, 0, 0, 0, 0) from xlk (by decide +kernel)) rfl ?_
    obtain ⟨j1, hj1, rr1, G1, hm1, hG1, t⟩ := t
    obtain ⟨y1, rfl, t⟩ := t
    refine xw_callv (dk := j1) (o := 131) (as := [vi (x1), vi ((x2) - (1))]) (show xlook 178 191 = some (191, .invokevirtual 228, 3, 172, 3, 0, 184) from xlk (by decide +kernel)) (by decide) hj1 ⟨Nat.le_of_ble_eq_true rfl, Nat.le_of_ble_eq_true rfl, Nat.le_of_ble_eq_true rfl⟩ ⟨xob_12.1, xob_12.2, by decide⟩ rfl hm1 (n := 194) rfl ?_
    show xW X d 178 194 [.ref (131), vi (x1), vi (x2), vi (x3), vi (x4), vi (x5), vi (x6), vi (x7)] [vi (y1)] G1 (xqv Q)
    obtain ⟨q0, t⟩ := t
    refine xw_if_ne (n := 197) (m := 221) (show xlook 178 194 = some (194, .ifCond .ne 27, 3, 221, 0, 0, 0) from xlk (by decide +kernel)) rfl rfl q0 ⟨fun c => ?_, fun c => ?_⟩
    · replace t := t.1 c
      exact t hG1
    · replace t := t.2 c
      refine xw_aload_n (n := 198) (show xlook 178 197 = some (197, .aload_n 0, 1, 0, 0, 0, 0) from xlk (by decide +kernel)) rfl rfl ?_
      refine xw_aload_n (n := 199) (show xlook 178 198 = some (198, .aload_n 0, 1, 0, 0, 0, 0) from xlk (by decide +kernel)) rfl rfl ?_
      refine xw_iload_n (n := 200) (show xlook 178 199 = some (199, .iload_n 1, 1, 0, 0, 0, 0) from xlk (by decide +kernel)) rfl rfl ?_
      refine xw_iload_n (n := 201) (show xlook 178 200 = some (200, .iload_n 2, 1, 0, 0, 0, 0) from xlk (by decide +kernel)) rfl rfl ?_
      refine xw_iconst (n := 202) (show xlook 178 201 = some (201, .iconst 1, 1, 0, 0, 0, 0) from xlk (by decide +kernel)) rfl ?_
      refine xw_isub (n := 203) (show xlook 178 202 = some (202, .isub, 1, 0, 0, 0, 0) from xlk (by decide +kernel)) rfl ?_
      obtain ⟨j2, hj2, rr2, G2, hm2, hG2, t⟩ := t
      obtain ⟨y2, rfl, t⟩ := t
      refine xw_callv (dk := j2) (o := 131) (as := [vi (x1), vi ((x2) - (1))]) (show xlook 178 203 = some (203, .invokevirtual 203, 3, 171, 3, 0, 179) from xlk (by decide +kernel)) (by decide) hj2 ⟨Nat.le_of_ble_eq_true rfl, Nat.le_of_ble_eq_true rfl, Nat.le_of_ble_eq_true rfl⟩ ⟨xob_12.1, xob_12.2, by decide⟩ rfl hm2 (n := 206) rfl ?_
      show xW X d 178 206 [.ref (131), vi (x1), vi (x2), vi (x3), vi (x4), vi (x5), vi (x6), vi (x7)] [vi (y2), .ref (131)] G2 (xqv Q)
      refine xw_aload_n (n := 207) (show xlook 178 206 = some (206, .aload_n 0, 1, 0, 0, 0, 0) from xlk (by decide +kernel)) rfl rfl ?_
      refine xw_getr (q := 132) (show xlook 178 207 = some (207, .getfield 13, 3, 12, 1, 0, 220) from xlk (by decide +kernel)) (by decide) (xobf xob_12 (by decide) (by decide)) rfl (xPT_get (k := 1) (f := 1) hG2 xob_12 (by decide)) (by have := (xtg_12_1 _ xob_12.1 xob_12.2).1.1; omega) (n := 210) rfl ?_
      refine xw_iconst (n := 211) (show xlook 178 210 = some (210, .iconst 2, 1, 0, 0, 0, 0) from xlk (by decide +kernel)) rfl ?_
      refine xw_iald (show xlook 178 211 = some (211, .iaload, 1, 0, 0, 0, 0) from xlk (by decide +kernel)) (xtg_12_1 _ xob_12.1 xob_12.2).1 (by rw [(xtg_12_1 _ xob_12.1 xob_12.2).2]; decide) (n := 212) rfl ?_
      refine xw_isub (n := 213) (show xlook 178 212 = some (212, .isub, 1, 0, 0, 0, 0) from xlk (by decide +kernel)) rfl ?_
      refine xw_iload (n := 215) (show xlook 178 213 = some (213, .iload 5, 2, 0, 0, 0, 0) from xlk (by decide +kernel)) rfl rfl ?_
      refine xw_isub (n := 216) (show xlook 178 215 = some (215, .isub, 1, 0, 0, 0, 0) from xlk (by decide +kernel)) rfl ?_
      refine xw_bipush (n := 218) (show xlook 178 216 = some (216, .bipush 6, 2, 0, 0, 0, 0) from xlk (by decide +kernel)) rfl (by decide) ?_
      obtain ⟨j3, hj3, rr3, G3, hm3, hG3, t⟩ := t
      obtain ⟨rfl, t⟩ := t
      refine xw_callv (dk := j3) (o := 131) (as := [vi (((y2) - ((G2) (132) 2)) - (x5)), vi (6)]) (show xlook 178 218 = some (218, .invokevirtual 221, 3, 177, 3, 0, 182) from xlk (by decide +kernel)) (by decide) hj3 ⟨Nat.le_of_ble_eq_true rfl, Nat.le_of_ble_eq_true rfl, Nat.le_of_ble_eq_true rfl⟩ ⟨xob_12.1, xob_12.2, by decide⟩ rfl hm3 (n := 221) rfl ?_
      show xW X d 178 221 [.ref (131), vi (x1), vi (x2), vi (x3), vi (x4), vi (x5), vi (x6), vi (x7)] [] G3 (xqv Q)
      exact t hG3

