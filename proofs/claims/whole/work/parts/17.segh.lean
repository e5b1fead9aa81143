set_option maxHeartbeats 4000000
set_option maxRecDepth 100000
theorem s210_55 {X : List Int32} {d : Nat} {F : XF} {Q : Int → XF → Prop} {x1 : Int} {x2 : Int} {x3 : Int} {x4 : Int} {x5 : Int} (hPT : xPT F)  (t : inR (x5) ∧ inR (x1) ∧ ((((x1) < (x5)) → (∃ (j1 : Nat), j1 < d ∧ xMV X j1 207 [.ref (131)] (F) (fun (G1 : XF) => (inR (x3) ∧ (((¬ (x3) = ((-1))) → (inR (x2) ∧ (((¬ (x2) = (0)) → (xPT (G1) → Q (x4) (G1))) ∧ (¬ (¬ (x2) = (0)) → (xPT (G1) → Q (x3) (G1)))))) ∧ (¬ (¬ (x3) = ((-1))) → (xPT (G1) → Q ((-1)) (G1)))))))) ∧ (¬ ((x1) < (x5)) → (∃ (j2 : Nat), j2 < d ∧ xMI X j2 198 [.ref (131)] (xup (F) (132) 3 (x5)) (fun (y2 : Int) (G2 : XF) => (inR (y2) ∧ ((((y2) = ((-1))) → (xPT (G2) → xW X d 210 55 [.ref (131), vi (x1), vi (x2), vi (x3), vi (x4), vi (x5 + 1)] [] (G2) (xqi Q))) ∧ (¬ ((y2) = ((-1))) → (inR (x3) ∧ ((((x3) = ((-1))) → (xPT (G2) → xW X d 210 97 [.ref (131), vi (x1), vi (x2), vi (x3), vi (x4), vi (x5)] [] (G2) (xqi Q))) ∧ (¬ ((x3) = ((-1))) → (∃ (j3 : Nat), j3 < d ∧ xMI X j3 195 [.ref (131), vi (132)] (G2) (fun (y3 : Int) (G3 : XF) => (inR (y3) ∧ inR (x4) ∧ ((((y3) < (x4)) → (xPT (G3) → xW X d 210 97 [.ref (131), vi (x1), vi (x2), vi (x3), vi (x4), vi (x5)] [] (G3) (xqi Q))) ∧ (¬ ((y3) < (x4)) → (xPT (G3) → xW X d 210 55 [.ref (131), vi (x1), vi (x2), vi (x3), vi (x4), vi (x5 + 1)] [] (G3) (xqi Q)))))))))))))))))) : xW X d 210 55 [.ref (131), vi (x1), vi (x2), vi (x3), vi (x4), vi (x5)] [] F (xqi Q) := by
  refine xw_iload (n := 57) (show xlook 210 55 = some (55, .iload 5, 2, 0, 0, 0, 0) from xlk (by decide +kernel)) rfl rfl ?_
  refine xw_iload_n (n := 58) (show xlook 210 57 = some (57, .iload_n 1, 1, 0, 0, 0, 0) from xlk (by decide +kernel)) rfl rfl ?_
  obtain ⟨q0, q1, t⟩ := t
  refine xw_icmp_gt (n := 61) (m := 115) (show xlook 210 58 = some (58, .if_icmp .gt 57, 3, 115, 0, 0, 0) from xlk (by decide +kernel)) rfl rfl q0 q1 ⟨fun c => ?_, fun c => ?_⟩
  · replace t := t.1 c
    refine xw_aload_n (n := 116) (show xlook 210 115 = some (115, .aload_n 0, 1, 0, 0, 0, 0) from xlk (by decide +kernel)) rfl rfl ?_
    obtain ⟨j1, hj1, rr1, G1, hm1, hG1, t⟩ := t
    obtain ⟨rfl, t⟩ := t
    refine xw_callv (dk := j1) (o := 131) (as := []) (show xlook 210 116 = some (116, .invokevirtual 295, 3, 207, 1, 0, 203) from xlk (by decide +kernel)) (by decide) hj1 ⟨Nat.le_of_ble_eq_true rfl, Nat.le_of_ble_eq_true rfl, Nat.le_of_ble_eq_true rfl⟩ ⟨xob_12.1, xob_12.2, by decide⟩ rfl hm1 (n := 119) rfl ?_
    show xW X d 210 119 [.ref (131), vi (x1), vi (x2), vi (x3), vi (x4), vi (x5)] [] G1 (xqi Q)
    refine xw_iload_n (n := 120) (show xlook 210 119 = some (119, .iload_n 3, 1, 0, 0, 0, 0) from xlk (by decide +kernel)) rfl rfl ?_
    refine xw_iconst (n := 121) (show xlook 210 120 = some (120, .iconst (-1), 1, 0, 0, 0, 0) from xlk (by decide +kernel)) rfl ?_
    obtain ⟨q0, t⟩ := t
    refine xw_icmp_ne (n := 124) (m := 128) (show xlook 210 121 = some (121, .if_icmp .ne 7, 3, 128, 0, 0, 0) from xlk (by decide +kernel)) rfl rfl q0 ⟨by decide, by decide⟩ ⟨fun c => ?_, fun c => ?_⟩
    · replace t := t.1 c
      refine xw_iload_n (n := 129) (show xlook 210 128 = some (128, .iload_n 2, 1, 0, 0, 0, 0) from xlk (by decide +kernel)) rfl rfl ?_
      obtain ⟨q0, t⟩ := t
      refine xw_if_ne (n := 132) (m := 136) (show xlook 210 129 = some (129, .ifCond .ne 7, 3, 136, 0, 0, 0) from xlk (by decide +kernel)) rfl rfl q0 ⟨fun c => ?_, fun c => ?_⟩
      · replace t := t.1 c
        refine xw_iload (n := 138) (show xlook 210 136 = some (136, .iload 4, 2, 0, 0, 0, 0) from xlk (by decide +kernel)) rfl rfl ?_
        exact xw_ireturn hG1 (show xlook 210 138 = some (138, .ireturn, 1, 0, 0, 0, 0) from xlk (by decide +kernel)) rfl (t hG1)
      · replace t := t.2 c
        refine xw_iload_n (n := 133) (show xlook 210 132 = some (132, .iload_n 3, 1, 0, 0, 0, 0) from xlk (by decide +kernel)) rfl rfl ?_
        refine xw_goto (m := 138) (show xlook 210 133 = some (133, .goto 5, 3, 138, 0, 0, 0) from xlk (by decide +kernel)) rfl ?_
        exact xw_ireturn hG1 (show xlook 210 138 = some (138, .ireturn, 1, 0, 0, 0, 0) from xlk (by decide +kernel)) rfl (t hG1)
    · replace t := t.2 c
      refine xw_iconst (n := 125) (show xlook 210 124 = some (124, .iconst (-1), 1, 0, 0, 0, 0) from xlk (by decide +kernel)) rfl ?_
      refine xw_goto (m := 138) (show xlook 210 125 = some (125, .goto 13, 3, 138, 0, 0, 0) from xlk (by decide +kernel)) rfl ?_
      exact xw_ireturn hG1 (show xlook 210 138 = some (138, .ireturn, 1, 0, 0, 0, 0) from xlk (by decide +kernel)) rfl (t hG1)
  · replace t := t.2 c
    refine xw_aload_n (n := 62) (show xlook 210 61 = some (61, .aload_n 0, 1, 0, 0, 0, 0) from xlk (by decide +kernel)) rfl rfl ?_
    refine xw_getr (q := 132) (show xlook 210 62 = some (62, .getfield 13, 3, 12, 1, 0, 220) from xlk (by decide +kernel)) (by decide) (xobf xob_12 (by decide) (by decide)) rfl (xPT_get (k := 1) (f := 1) hPT xob_12 (by decide)) (by have := (xtg_12_1 _ xob_12.1 xob_12.2).1.1; omega) (n := 65) rfl ?_
    refine xw_iconst (n := 66) (show xlook 210 65 = some (65, .iconst 3, 1, 0, 0, 0, 0) from xlk (by decide +kernel)) rfl ?_
    refine xw_iload (n := 68) (show xlook 210 66 = some (66, .iload 5, 2, 0, 0, 0, 0) from xlk (by decide +kernel)) rfl rfl ?_
    refine xw_iast (show xlook 210 68 = some (68, .iastore, 1, 0, 0, 0, 0) from xlk (by decide +kernel)) (xtg_12_1 _ xob_12.1 xob_12.2).1 (by rw [(xtg_12_1 _ xob_12.1 xob_12.2).2]; decide) (n := 69) rfl ?_
    refine xw_aload_n (n := 70) (show xlook 210 69 = some (69, .aload_n 0, 1, 0, 0, 0, 0) from xlk (by decide +kernel)) rfl rfl ?_
    obtain ⟨j2, hj2, rr2, G2, hm2, hG2, t⟩ := t
    obtain ⟨y2, rfl, t⟩ := t
    refine xw_callv (dk := j2) (o := 131) (as := []) (show xlook 210 70 = some (70, .invokevirtual 275, 3, 198, 1, 0, 197) from xlk (by decide +kernel)) (by decide) hj2 ⟨Nat.le_of_ble_eq_true rfl, Nat.le_of_ble_eq_true rfl, Nat.le_of_ble_eq_true rfl⟩ ⟨xob_12.1, xob_12.2, by decide⟩ rfl hm2 (n := 73) rfl ?_
    show xW X d 210 73 [.ref (131), vi (x1), vi (x2), vi (x3), vi (x4), vi (x5)] [vi (y2)] G2 (xqi Q)
    refine xw_iconst (n := 74) (show xlook 210 73 = some (73, .iconst (-1), 1, 0, 0, 0, 0) from xlk (by decide +kernel)) rfl ?_
    obtain ⟨q0, t⟩ := t
    refine xw_icmp_eq (n := 77) (m := 109) (show xlook 210 74 = some (74, .if_icmp .eq 35, 3, 109, 0, 0, 0) from xlk (by decide +kernel)) rfl rfl q0 ⟨by decide, by decide⟩ ⟨fun c => ?_, fun c => ?_⟩
    · replace t := t.1 c
      refine xw_iinc (n := 112) (show xlook 210 109 = some (109, .iinc 5 1, 3, 0, 0, 0, 0) from xlk (by decide +kernel)) rfl (ls' := [.ref (131), vi (x1), vi (x2), vi (x3), vi (x4), vi (x5 + 1)]) rfl rfl ?_
      refine xw_goto (m := 55) (show xlook 210 112 = some (112, .goto (-57), 3, 55, 0, 0, 0) from xlk (by decide +kernel)) rfl ?_
      exact t hG2
    · replace t := t.2 c
      refine xw_iload_n (n := 78) (show xlook 210 77 = some (77, .iload_n 3, 1, 0, 0, 0, 0) from xlk (by decide +kernel)) rfl rfl ?_
      refine xw_iconst (n := 79) (show xlook 210 78 = some (78, .iconst (-1), 1, 0, 0, 0, 0) from xlk (by decide +kernel)) rfl ?_
      obtain ⟨q0, t⟩ := t
      refine xw_icmp_eq (n := 82) (m := 97) (show xlook 210 79 = some (79, .if_icmp .eq 18, 3, 97, 0, 0, 0) from xlk (by decide +kernel)) rfl rfl q0 ⟨by decide, by decide⟩ ⟨fun c => ?_, fun c => ?_⟩
      · replace t := t.1 c
        exact t hG2
      · replace t := t.2 c
        refine xw_aload_n (n := 83) (show xlook 210 82 = some (82, .aload_n 0, 1, 0, 0, 0, 0) from xlk (by decide +kernel)) rfl rfl ?_
        refine xw_sipush (n := 86) (show xlook 210 83 = some (83, .sipush 132, 3, 0, 0, 0, 0) from xlk (by decide +kernel)) rfl (by decide) ?_
        obtain ⟨j3, hj3, rr3, G3, hm3, hG3, t⟩ := t
        obtain ⟨y3, rfl, t⟩ := t
        refine xw_callv (dk := j3) (o := 131) (as := [vi (132)]) (show xlook 210 86 = some (86, .invokevirtual 281, 3, 195, 2, 0, 199) from xlk (by decide +kernel)) (by decide) hj3 ⟨Nat.le_of_ble_eq_true rfl, Nat.le_of_ble_eq_true rfl, Nat.le_of_ble_eq_true rfl⟩ ⟨xob_12.1, xob_12.2, by decide⟩ rfl hm3 (n := 89) rfl ?_
        show xW X d 210 89 [.ref (131), vi (x1), vi (x2), vi (x3), vi (x4), vi (x5)] [vi (y3)] G3 (xqi Q)
        refine xw_iload (n := 91) (show xlook 210 89 = some (89, .iload 4, 2, 0, 0, 0, 0) from xlk (by decide +kernel)) rfl rfl ?_
        obtain ⟨q0, q1, t⟩ := t
        refine xw_icmp_lt (n := 94) (m := 97) (show xlook 210 91 = some (91, .if_icmp .lt 6, 3, 97, 0, 0, 0) from xlk (by decide +kernel)) rfl rfl q0 q1 ⟨fun c => ?_, fun c => ?_⟩
        · replace t := t.1 c
          exact t hG3
        · replace t := t.2 c
          refine xw_goto (m := 109) (show xlook 210 94 = some (94, .goto 15, 3, 109, 0, 0, 0) from xlk (by decide +kernel)) rfl ?_
          refine xw_iinc (n := 112) (show xlook 210 109 = some (109, .iinc 5 1, 3, 0, 0, 0, 0) from xlk (by decide +kernel)) rfl (ls' := [.ref (131), vi (x1), vi (x2), vi (x3), vi (x4), vi (x5 + 1)]) rfl rfl ?_
          refine xw_goto (m := 55) (show xlook 210 112 = some (112, .goto (-57), 3, 55, 0, 0, 0) from xlk (by decide +kernel)) rfl ?_
          exact t hG3

theorem s210_97 {X : List Int32} {d : Nat} {F : XF} {Q : Int → XF → Prop} {x1 : Int} {x2 : Int} {x3 : Int} {x4 : Int} {x5 : Int} (hPT : xPT F)  (t : ∃ (j1 : Nat), j1 < d ∧ xMI X j1 195 [.ref (131), vi (132)] (F) (fun (y1 : Int) (G1 : XF) => (xPT (G1) → xW X d 210 55 [.ref (131), vi (x1), vi (x2), vi (x5), vi (y1), vi (x5 + 1)] [] (G1) (xqi Q)))) : xW X d 210 97 [.ref (131), vi (x1), vi (x2), vi (x3), vi (x4), vi (x5)] [] F (xqi Q) := by
  refine xw_iload (n := 99) (show xlook 210 97 = some (97, .iload 5, 2, 0, 0, 0, 0) from xlk (by decide +kernel)) rfl rfl ?_
  refine xw_istore_n (n := 100) (show xlook 210 99 = some (99, .istore_n 3, 1, 0, 0, 0, 0) from xlk (by decide +kernel)) rfl (ls' := [.ref (131), vi (x1), vi (x2), vi (x5), vi (x4), vi (x5)]) (Nat.le_of_ble_eq_true rfl) rfl ?_
  refine xw_aload_n (n := 101) (show xlook 210 100 = some (100, .aload_n 0, 1, 0, 0, 0, 0) from xlk (by decide +kernel)) rfl rfl ?_
  refine xw_sipush (n := 104) (show xlook 210 101 = some (101, .sipush 132, 3, 0, 0, 0, 0) from xlk (by decide +kernel)) rfl (by decide) ?_
  obtain ⟨j1, hj1, rr1, G1, hm1, hG1, t⟩ := t
  obtain ⟨y1, rfl, t⟩ := t
  refine xw_callv (dk := j1) (o := 131) (as := [vi (132)]) (show xlook 210 104 = some (104, .invokevirtual 281, 3, 195, 2, 0, 199) from xlk (by decide +kernel)) (by decide) hj1 ⟨Nat.le_of_ble_eq_true rfl, Nat.le_of_ble_eq_true rfl, Nat.le_of_ble_eq_true rfl⟩ ⟨xob_12.1, xob_12.2, by decide⟩ rfl hm1 (n := 107) rfl ?_
  show xW X d 210 107 [.ref (131), vi (x1), vi (x2), vi (x5), vi (x4), vi (x5)] [vi (y1)] G1 (xqi Q)
  refine xw_istore (n := 109) (show xlook 210 107 = some (107, .istore 4, 2, 0, 0, 0, 0) from xlk (by decide +kernel)) rfl (ls' := [.ref (131), vi (x1), vi (x2), vi (x5), vi (y1), vi (x5)]) (Nat.le_of_ble_eq_true rfl) rfl ?_
  refine xw_iinc (n := 112) (show xlook 210 109 = some (109, .iinc 5 1, 3, 0, 0, 0, 0) from xlk (by decide +kernel)) rfl (ls' := [.ref (131), vi (x1), vi (x2), vi (x5), vi (y1), vi (x5 + 1)]) rfl rfl ?_
  refine xw_goto (m := 55) (show xlook 210 112 = some (112, .goto (-57), 3, 55, 0, 0, 0) from xlk (by decide +kernel)) rfl ?_
  exact t hG1

theorem s211_0 {X : List Int32} {d : Nat} {F : XF} {Q : Int → XF → Prop} {w1 : Value} (hPT : xPT F)  (t : xPT (F) → xW X d 211 2 [.ref (131), vi (0)] [] (F) (xqi Q)) : xW X d 211 0 [.ref (131), w1] [] F (xqi Q) := by
  refine xw_iconst (n := 1) (show xlook 211 0 = some (0, .iconst 0, 1, 0, 0, 0, 0) from xlk (by decide +kernel)) rfl ?_
  refine xw_istore_n (n := 2) (show xlook 211 1 = some (1, .istore_n 1, 1, 0, 0, 0, 0) from xlk (by decide +kernel)) rfl (ls' := [.ref (131), vi (0)]) (Nat.le_of_ble_eq_true rfl) rfl ?_
  exact t hPT
theorem m211 {X : List Int32} {d : Nat} {F : XF} {Q : Int → XF → Prop}  (hPT : xPT F)  (t : xPT (F) → xW X d 211 2 [.ref (131), vi (0)] [] (F) (xqi Q)) : xMI X d 211 [.ref (131)] F Q := by
  show xW X d 211 0 [.ref (131), xU0] [] F (xqi Q)
  exact s211_0 hPT  t

theorem s211_2 {X : List Int32} {d : Nat} {F : XF} {Q : Int → XF → Prop} {x1 : Int} (hPT : xPT F)  (t : ∃ (j1 : Nat), j1 < d ∧ xMI X j1 154 [.ref (131)] (F) (fun (y1 : Int) (G1 : XF) => (inR (x1) ∧ inR (y1) ∧ ((((y1) ≤ (x1)) → (xPT (G1) → Q (0) (G1))) ∧ (¬ ((y1) ≤ (x1)) → ((0 ≤ ((162) + (x1)) ∧ ((162) + (x1)) < 264) ∧ (inR ((G1) (140) ((162) + (x1))) ∧ (((¬ ((G1) (140) ((162) + (x1))) = (5)) → (xPT (G1) → xW X d 211 2 [.ref (131), vi (x1 + 1)] [] (G1) (xqi Q))) ∧ (¬ (¬ ((G1) (140) ((162) + (x1))) = (5)) → (xPT (G1) → Q (1) (G1))))))))))) : xW X d 211 2 [.ref (131), vi (x1)] [] F (xqi Q) := by
  refine xw_iload_n (n := 3) (show xlook 211 2 = some (2, .iload_n 1, 1, 0, 0, 0, 0) from xlk (by decide +kernel)) rfl rfl ?_
  refine xw_aload_n (n := 4) (show xlook 211 3 = some (3, .aload_n 0, 1, 0, 0, 0, 0) from xlk (by decide +kernel)) rfl rfl ?_
  obtain ⟨j1, hj1, rr1, G1, hm1, hG1, t⟩ := t
  obtain ⟨y1, rfl, t⟩ := t
  refine xw_callv (dk := j1) (o := 131) (as := []) (show xlook 211 4 = some (4, .invokevirtual 161, 3, 154, 1, 0, 169) from xlk (by decide +kernel)) (by decide) hj1 ⟨Nat.le_of_ble_eq_true rfl, Nat.le_of_ble_eq_true rfl, Nat.le_of_ble_eq_true rfl⟩ ⟨xob_12.1, xob_12.2, by decide⟩ rfl hm1 (n := 7) rfl ?_
  show xW X d 211 7 [.ref (131), vi (x1)] [vi (y1), vi (x1)] G1 (xqi Q)
  obtain ⟨q0, q1, t⟩ := t
  refine xw_icmp_ge (n := 10) (m := 32) (show xlook 211 7 = some (7, .if_icmp .ge 25, 3, 32, 0, 0, 0) from xlk (by decide +kernel)) rfl rfl q0 q1 ⟨fun c => ?_, fun c => ?_⟩
  · replace t := t.1 c
    refine xw_iconst (n := 33) (show xlook 211 32 = some (32, .iconst 0, 1, 0, 0, 0, 0) from xlk (by decide +kernel)) rfl ?_
    exact xw_zreturn hG1 (show xlook 211 33 = some (33, .ireturn, 1, 0, 0, 0, 0) from xlk (by decide +kernel)) rfl (by decide) (t hG1)
  · replace t := t.2 c
    refine xw_aload_n (n := 11) (show xlook 211 10 = some (10, .aload_n 0, 1, 0, 0, 0, 0) from xlk (by decide +kernel)) rfl rfl ?_
    refine xw_getr (q := 140) (show xlook 211 11 = some (11, .getfield 42, 3, 12, 18, 0, 229) from xlk (by decide +kernel)) (by decide) (xobf xob_12 (by decide) (by decide)) rfl (xPT_get (k := 18) (f := 9) hG1 xob_12 (by decide)) (by have := (xtg_12_18 _ xob_12.1 xob_12.2).1.1; omega) (n := 14) rfl ?_
    refine xw_sipush (n := 17) (show xlook 211 14 = some (14, .sipush 162, 3, 0, 0, 0, 0) from xlk (by decide +kernel)) rfl (by decide) ?_
    refine xw_iload_n (n := 18) (show xlook 211 17 = some (17, .iload_n 1, 1, 0, 0, 0, 0) from xlk (by decide +kernel)) rfl rfl ?_
    refine xw_iadd (n := 19) (show xlook 211 18 = some (18, .iadd, 1, 0, 0, 0, 0) from xlk (by decide +kernel)) rfl ?_
    obtain ⟨q1, t⟩ := t
    refine xw_iald (show xlook 211 19 = some (19, .iaload, 1, 0, 0, 0, 0) from xlk (by decide +kernel)) (xtg_12_18 _ xob_12.1 xob_12.2).1 (by rw [(xtg_12_18 _ xob_12.1 xob_12.2).2]; exact q1) (n := 20) rfl ?_
    refine xw_iconst (n := 21) (show xlook 211 20 = some (20, .iconst 5, 1, 0, 0, 0, 0) from xlk (by decide +kernel)) rfl ?_
    obtain ⟨q0, t⟩ := t
    refine xw_icmp_ne (n := 24) (m := 26) (show xlook 211 21 = some (21, .if_icmp .ne 5, 3, 26, 0, 0, 0) from xlk (by decide +kernel)) rfl rfl q0 ⟨by decide, by decide⟩ ⟨fun c => ?_, fun c => ?_⟩
    · replace t := t.1 c
      refine xw_iinc (n := 29) (show xlook 211 26 = some (26, .iinc 1 1, 3, 0, 0, 0, 0) from xlk (by decide +kernel)) rfl (ls' := [.ref (131), vi (x1 + 1)]) rfl rfl ?_
      refine xw_goto (m := 2) (show xlook 211 29 = some (29, .goto (-27), 3, 2, 0, 0, 0) from xlk (by decide +kernel)) rfl ?_
      exact t hG1
    · replace t := t.2 c
      refine xw_iconst (n := 25) (show xlook 211 24 = some (24, .iconst 1, 1, 0, 0, 0, 0) from xlk (by decide +kernel)) rfl ?_
      exact xw_zreturn hG1 (show xlook 211 25 = some (25, .ireturn, 1, 0, 0, 0, 0) from xlk (by decide +kernel)) rfl (by decide) (t hG1)

theorem s212_0 {X : List Int32} {d : Nat} {F : XF} {Q : Int → XF → Prop} {x1 : Int} {w2 : Value} {w3 : Value} {w4 : Value} (hPT : xPT F)  (t : ∃ (j1 : Nat), j1 < d ∧ xMI X j1 154 [.ref (131)] (xup (F) (131) 0 (0)) (fun (y1 : Int) (G1 : XF) => (inR (y1) ∧ (((¬ (y1) = (0)) → ((inR (x1)) ∧ (∃ (j2 : Nat), j2 < d ∧ xMI X j2 132 [vl (x1), vl (0), vl (60)] (G1) (fun (y2 : Int) (G2 : XF) => (inR (y2) ∧ (((¬ (y2) = (0)) → (∃ (j3 : Nat), j3 < d ∧ xMV X j3 206 [.ref (131)] (G2) (fun (G3 : XF) => (xPT (G3) → xW X d 212 38 [.ref (131), vi (x1), vi ((-1)), vi (0), w4] [] (G3) (xqi Q))))) ∧ (¬ (¬ (y2) = (0)) → (xPT (G2) → Q ((-3)) (G2))))))))) ∧ (¬ (¬ (y1) = (0)) → (xPT (G1) → Q ((-5)) (G1))))))) : xW X d 212 0 [.ref (131), vi (x1), w2, w3, w4] [] F (xqi Q) := by
  refine xw_aload_n (n := 1) (show xlook 212 0 = some (0, .aload_n 0, 1, 0, 0, 0, 0) from xlk (by decide +kernel)) rfl rfl ?_
  refine xw_iconst (n := 2) (show xlook 212 1 = some (1, .iconst 0, 1, 0, 0, 0, 0) from xlk (by decide +kernel)) rfl ?_
  refine xw_puti (show xlook 212 2 = some (2, .putfield 1, 3, 12, 0, 0, 235) from xlk (by decide +kernel)) (xobf xob_12 (by decide) (by decide)) rfl (n := 5) rfl ?_
  refine xw_aload_n (n := 6) (show xlook 212 5 = some (5, .aload_n 0, 1, 0, 0, 0, 0) from xlk (by decide +kernel)) rfl rfl ?_
  obtain ⟨j1, hj1, rr1, G1, hm1, hG1, t⟩ := t
  obtain ⟨y1, rfl, t⟩ := t
  refine xw_callv (dk := j1) (o := 131) (as := []) (show xlook 212 6 = some (6, .invokevirtual 161, 3, 154, 1, 0, 169) from xlk (by decide +kernel)) (by decide) hj1 ⟨Nat.le_of_ble_eq_true rfl, Nat.le_of_ble_eq_true rfl, Nat.le_of_ble_eq_true rfl⟩ ⟨xob_12.1, xob_12.2, by decide⟩ rfl hm1 (n := 9) rfl ?_
  show xW X d 212 9 [.ref (131), vi (x1), w2, w3, w4] [vi (y1)] G1 (xqi Q)
  obtain ⟨q0, t⟩ := t
  refine xw_if_ne (n := 12) (m := 15) (show xlook 212 9 = some (9, .ifCond .ne 6, 3, 15, 0, 0, 0) from xlk (by decide +kernel)) rfl rfl q0 ⟨fun c => ?_, fun c => ?_⟩
  · replace t := t.1 c
    refine xw_iload_n (n := 16) (show xlook 212 15 = some (15, .iload_n 1, 1, 0, 0, 0, 0) from xlk (by decide +kernel)) rfl rfl ?_
    obtain ⟨q1, t⟩ := t
    refine xw_i2l (n := 17) (show xlook 212 16 = some (16, .i2l, 1, 0, 0, 0, 0) from xlk (by decide +kernel)) rfl q1 ?_
    refine xw_lconst (n := 18) (show xlook 212 17 = some (17, .lconst 0, 1, 0, 0, 0, 0) from xlk (by decide +kernel)) rfl (k := 0) (by decide) ?_
    refine xw_ldc2 (n := 21) (show xlook 212 18 = some (18, .ldc2_w 298, 3, 0, 0, 60, 14) from xlk (by decide +kernel)) rfl ?_
    obtain ⟨j2, hj2, rr2, G2, hm2, hG2, t⟩ := t
    obtain ⟨y2, rfl, t⟩ := t
    refine xw_calls (dk := j2) (as := [vl (x1), vl (0), vl (60)]) (show xlook 212 21 = some (21, .invokestatic 83, 3, 132, 3, 0, 151) from xlk (by decide +kernel)) (by decide) hj2 ⟨Nat.le_of_ble_eq_true rfl, Nat.le_of_ble_eq_true rfl, Nat.le_of_ble_eq_true rfl, by decide⟩ rfl hm2 (n := 24) rfl ?_
    show xW X d 212 24 [.ref (131), vi (x1), w2, w3, w4] [vi (y2)] G2 (xqi Q)
    obtain ⟨q0, t⟩ := t
    refine xw_if_ne (n := 27) (m := 30) (show xlook 212 24 = some (24, .ifCond .ne 6, 3, 30, 0, 0, 0) from xlk (by decide +kernel)) rfl rfl q0 ⟨fun c => ?_, fun c => ?_⟩
    · replace t := t.1 c
      refine xw_aload_n (n := 31) (show xlook 212 30 = some (30, .aload_n 0, 1, 0, 0, 0, 0) from xlk (by decide +kernel)) rfl rfl ?_
      obtain ⟨j3, hj3, rr3, G3, hm3, hG3, t⟩ := t
      obtain ⟨rfl, t⟩ := t
      refine xw_callv (dk := j3) (o := 131) (as := []) (show xlook 212 31 = some (31, .invokevirtual 289, 3, 206, 1, 0, 201) from xlk (by decide +kernel)) (by decide) hj3 ⟨Nat.le_of_ble_eq_true rfl, Nat.le_of_ble_eq_true rfl, Nat.le_of_ble_eq_true rfl⟩ ⟨xob_12.1, xob_12.2, by decide⟩ rfl hm3 (n := 34) rfl ?_
      show xW X d 212 34 [.ref (131), vi (x1), w2, w3, w4] [] G3 (xqi Q)
      refine xw_iconst (n := 35) (show xlook 212 34 = some (34, .iconst (-1), 1, 0, 0, 0, 0) from xlk (by decide +kernel)) rfl ?_
      refine xw_istore_n (n := 36) (show xlook 212 35 = some (35, .istore_n 2, 1, 0, 0, 0, 0) from xlk (by decide +kernel)) rfl (ls' := [.ref (131), vi (x1), vi ((-1)), w3, w4]) (Nat.le_of_ble_eq_true rfl) rfl ?_
      refine xw_iconst (n := 37) (show xlook 212 36 = some (36, .iconst 0, 1, 0, 0, 0, 0) from xlk (by decide +kernel)) rfl ?_
      refine xw_istore_n (n := 38) (show xlook 212 37 = some (37, .istore_n 3, 1, 0, 0, 0, 0) from xlk (by decide +kernel)) rfl (ls' := [.ref (131), vi (x1), vi ((-1)), vi (0), w4]) (Nat.le_of_ble_eq_true rfl) rfl ?_
      exact t hG3
    · replace t := t.2 c
      refine xw_bipush (n := 29) (show xlook 212 27 = some (27, .bipush (-3), 2, 0, 0, 0, 0) from xlk (by decide +kernel)) rfl (by decide) ?_
      exact xw_ireturn hG2 (show xlook 212 29 = some (29, .ireturn, 1, 0, 0, 0, 0) from xlk (by decide +kernel)) rfl (t hG2)
  · replace t := t.2 c
    refine xw_bipush (n := 14) (show xlook 212 12 = some (12, .bipush (-5), 2, 0, 0, 0, 0) from xlk (by decide +kernel)) rfl (by decide) ?_
    exact xw_ireturn hG1 (show xlook 212 14 = some (14, .ireturn, 1, 0, 0, 0, 0) from xlk (by decide +kernel)) rfl (t hG1)
theorem m212 {X : List Int32} {d : Nat} {F : XF} {Q : Int → XF → Prop} {x1 : Int} (hPT : xPT F)  (t : ∃ (j1 : Nat), j1 < d ∧ xMI X j1 154 [.ref (131)] (xup (F) (131) 0 (0)) (fun (y1 : Int) (G1 : XF) => (inR (y1) ∧ (((¬ (y1) = (0)) → ((inR (x1)) ∧ (∃ (j2 : Nat), j2 < d ∧ xMI X j2 132 [vl (x1), vl (0), vl (60)] (G1) (fun (y2 : Int) (G2 : XF) => (inR (y2) ∧ (((¬ (y2) = (0)) → (∃ (j3 : Nat), j3 < d ∧ xMV X j3 206 [.ref (131)] (G2) (fun (G3 : XF) => (xPT (G3) → xW X d 212 38 [.ref (131), vi (x1), vi ((-1)), vi (0), xU0] [] (G3) (xqi Q))))) ∧ (¬ (¬ (y2) = (0)) → (xPT (G2) → Q ((-3)) (G2))))))))) ∧ (¬ (¬ (y1) = (0)) → (xPT (G1) → Q ((-5)) (G1))))))) : xMI X d 212 [.ref (131), vi (x1)] F Q := by
  show xW X d 212 0 [.ref (131), vi (x1), xU0, xU0, xU0] [] F (xqi Q)
  exact s212_0 hPT  t

theorem s212_38 {X : List Int32} {d : Nat} {F : XF} {Q : Int → XF → Prop} {x1 : Int} {x2 : Int} {x3 : Int} {w4 : Value} (hPT : xPT F)  (t : inR (x3) ∧ inR (x1) ∧ ((((x1) < (x3)) → (∃ (j1 : Nat), j1 < d ∧ xMV X j1 207 [.ref (131)] (F) (fun (G1 : XF) => (xPT (G1) → Q (x2) (G1))))) ∧ (¬ ((x1) < (x3)) → (inR (x2) ∧ (((¬ (x2) = ((-1))) → (∃ (j2 : Nat), j2 < d ∧ xMV X j2 207 [.ref (131)] (F) (fun (G2 : XF) => (xPT (G2) → Q (x2) (G2))))) ∧ (¬ (¬ (x2) = ((-1))) → (∃ (j3 : Nat), j3 < d ∧ xMV X j3 170 [.ref (131), vi (132)] (xup (F) (132) 3 (x3)) (fun (G3 : XF) => (xPT (G3) → xW X d 212 65 [.ref (131), vi (x1), vi (x2), vi (x3), vi (1)] [] (G3) (xqi Q)))))))))) : xW X d 212 38 [.ref (131), vi (x1), vi (x2), vi (x3), w4] [] F (xqi Q) := by
  refine xw_iload_n (n := 39) (show xlook 212 38 = some (38, .iload_n 3, 1, 0, 0, 0, 0) from xlk (by decide +kernel)) rfl rfl ?_
  refine xw_iload_n (n := 40) (show xlook 212 39 = some (39, .iload_n 1, 1, 0, 0, 0, 0) from xlk (by decide +kernel)) rfl rfl ?_
  obtain ⟨q0, q1, t⟩ := t
  refine xw_icmp_gt (n := 43) (m := 115) (show xlook 212 40 = some (40, .if_icmp .gt 75, 3, 115, 0, 0, 0) from xlk (by decide +kernel)) rfl rfl q0 q1 ⟨fun c => ?_, fun c => ?_⟩
  · replace t := t.1 c
    refine xw_aload_n (n := 116) (show xlook 212 115 = some (115, .aload_n 0, 1, 0, 0, 0, 0) from xlk (by decide +kernel)) rfl rfl ?_
    obtain ⟨j1, hj1, rr1, G1, hm1, hG1, t⟩ := t
    obtain ⟨rfl, t⟩ := t
    refine xw_callv (dk := j1) (o := 131) (as := []) (show xlook 212 116 = some (116, .invokevirtual 295, 3, 207, 1, 0, 203) from xlk (by decide +kernel)) (by decide) hj1 ⟨Nat.le_of_ble_eq_true rfl, Nat.le_of_ble_eq_true rfl, Nat.le_of_ble_eq_true rfl⟩ ⟨xob_12.1, xob_12.2, by decide⟩ rfl hm1 (n := 119) rfl ?_
    show xW X d 212 119 [.ref (131), vi (x1), vi (x2), vi (x3), w4] [] G1 (xqi Q)
    refine xw_iload_n (n := 120) (show xlook 212 119 = some (119, .iload_n 2, 1, 0, 0, 0, 0) from xlk (by decide +kernel)) rfl rfl ?_
    exact xw_ireturn hG1 (show xlook 212 120 = some (120, .ireturn, 1, 0, 0, 0, 0) from xlk (by decide +kernel)) rfl (t hG1)
  · replace t := t.2 c
    refine xw_iload_n (n := 44) (show xlook 212 43 = some (43, .iload_n 2, 1, 0, 0, 0, 0) from xlk (by decide +kernel)) rfl rfl ?_
    refine xw_iconst (n := 45) (show xlook 212 44 = some (44, .iconst (-1), 1, 0, 0, 0, 0) from xlk (by decide +kernel)) rfl ?_
    obtain ⟨q0, t⟩ := t
    refine xw_icmp_ne (n := 48) (m := 115) (show xlook 212 45 = some (45, .if_icmp .ne 70, 3, 115, 0, 0, 0) from xlk (by decide +kernel)) rfl rfl q0 ⟨by decide, by decide⟩ ⟨fun c => ?_, fun c => ?_⟩
    · replace t := t.1 c
      refine xw_aload_n (n := 116) (show xlook 212 115 = some (115, .aload_n 0, 1, 0, 0, 0, 0) from xlk (by decide +kernel)) rfl rfl ?_
      obtain ⟨j2, hj2, rr2, G2, hm2, hG2, t⟩ := t
      obtain ⟨rfl, t⟩ := t
      refine xw_callv (dk := j2) (o := 131) (as := []) (show xlook 212 116 = some (116, .invokevirtual 295, 3, 207, 1, 0, 203) from xlk (by decide +kernel)) (by decide) hj2 ⟨Nat.le_of_ble_eq_true rfl, Nat.le_of_ble_eq_true rfl, Nat.le_of_ble_eq_true rfl⟩ ⟨xob_12.1, xob_12.2, by decide⟩ rfl hm2 (n := 119) rfl ?_
      show xW X d 212 119 [.ref (131), vi (x1), vi (x2), vi (x3), w4] [] G2 (xqi Q)
      refine xw_iload_n (n := 120) (show xlook 212 119 = some (119, .iload_n 2, 1, 0, 0, 0, 0) from xlk (by decide +kernel)) rfl rfl ?_
      exact xw_ireturn hG2 (show xlook 212 120 = some (120, .ireturn, 1, 0, 0, 0, 0) from xlk (by decide +kernel)) rfl (t hG2)
    · replace t := t.2 c
      refine xw_aload_n (n := 49) (show xlook 212 48 = some (48, .aload_n 0, 1, 0, 0, 0, 0) from xlk (by decide +kernel)) rfl rfl ?_
      refine xw_getr (q := 132) (show xlook 212 49 = some (49, .getfield 13, 3, 12, 1, 0, 220) from xlk (by decide +kernel)) (by decide) (xobf xob_12 (by decide) (by decide)) rfl (xPT_get (k := 1) (f := 1) hPT xob_12 (by decide)) (by have := (xtg_12_1 _ xob_12.1 xob_12.2).1.1; omega) (n := 52) rfl ?_
      refine xw_iconst (n := 53) (show xlook 212 52 = some (52, .iconst 3, 1, 0, 0, 0, 0) from xlk (by decide +kernel)) rfl ?_
      refine xw_iload_n (n := 54) (show xlook 212 53 = some (53, .iload_n 3, 1, 0, 0, 0, 0) from xlk (by decide +kernel)) rfl rfl ?_
      refine xw_iast (show xlook 212 54 = some (54, .iastore, 1, 0, 0, 0, 0) from xlk (by decide +kernel)) (xtg_12_1 _ xob_12.1 xob_12.2).1 (by rw [(xtg_12_1 _ xob_12.1 xob_12.2).2]; decide) (n := 55) rfl ?_
      refine xw_aload_n (n := 56) (show xlook 212 55 = some (55, .aload_n 0, 1, 0, 0, 0, 0) from xlk (by decide +kernel)) rfl rfl ?_
      refine xw_sipush (n := 59) (show xlook 212 56 = some (56, .sipush 132, 3, 0, 0, 0, 0) from xlk (by decide +kernel)) rfl (by decide) ?_
      obtain ⟨j3, hj3, rr3, G3, hm3, hG3, t⟩ := t
      obtain ⟨rfl, t⟩ := t
      refine xw_callv (dk := j3) (o := 131) (as := [vi (132)]) (show xlook 212 59 = some (59, .invokevirtual 63, 3, 170, 2, 0, 150) from xlk (by decide +kernel)) (by decide) hj3 ⟨Nat.le_of_ble_eq_true rfl, Nat.le_of_ble_eq_true rfl, Nat.le_of_ble_eq_true rfl⟩ ⟨xob_12.1, xob_12.2, by decide⟩ rfl hm3 (n := 62) rfl ?_
      show xW X d 212 62 [.ref (131), vi (x1), vi (x2), vi (x3), w4] [] G3 (xqi Q)
      refine xw_iconst (n := 63) (show xlook 212 62 = some (62, .iconst 1, 1, 0, 0, 0, 0) from xlk (by decide +kernel)) rfl ?_
      refine xw_istore (n := 65) (show xlook 212 63 = some (63, .istore 4, 2, 0, 0, 0, 0) from xlk (by decide +kernel)) rfl (ls' := [.ref (131), vi (x1), vi (x2), vi (x3), vi (1)]) (Nat.le_of_ble_eq_true rfl) rfl ?_
      exact t hG3

theorem s212_65 {X : List Int32} {d : Nat} {F : XF} {Q : Int → XF → Prop} {x1 : Int} {x2 : Int} {x3 : Int} {x4 : Int} (hPT : xPT F)  (t : inR (x4) ∧ ((((x4) = (0)) → (xPT (F) → xW X d 212 94 [.ref (131), vi (x1), vi (x2), vi (x3), vi (x4)] [] (F) (xqi Q))) ∧ (¬ ((x4) = (0)) → (∃ (j1 : Nat), j1 < d ∧ xMI X j1 196 [.ref (131)] (F) (fun (y1 : Int) (G1 : XF) => (inR (y1) ∧ ((((y1) = (0)) → (xPT (G1) → xW X d 212 94 [.ref (131), vi (x1), vi (x2), vi (x3), vi (x4)] [] (G1) (xqi Q))) ∧ (¬ ((y1) = (0)) → (∃ (j2 : Nat), j2 < d ∧ xMI X j2 211 [.ref (131)] (G1) (fun (y2 : Int) (G2 : XF) => (inR (y2) ∧ (((¬ (y2) = (0)) → (xPT (G2) → xW X d 212 65 [.ref (131), vi (x1), vi (x2), vi (x3), vi (0)] [] (G2) (xqi Q))) ∧ (¬ (¬ (y2) = (0)) → (xPT (G2) → xW X d 212 65 [.ref (131), vi (x1), vi (x2), vi (x3), vi (1)] [] (G2) (xqi Q))))))))))))))) : xW X d 212 65 [.ref (131), vi (x1), vi (x2), vi (x3), vi (x4)] [] F (xqi Q) := by
  refine xw_iload (n := 67) (show xlook 212 65 = some (65, .iload 4, 2, 0, 0, 0, 0) from xlk (by decide +kernel)) rfl rfl ?_
  obtain ⟨q0, t⟩ := t
  refine xw_if_eq (n := 70) (m := 94) (show xlook 212 67 = some (67, .ifCond .eq 27, 3, 94, 0, 0, 0) from xlk (by decide +kernel)) rfl rfl q0 ⟨fun c => ?_, fun c => ?_⟩
  · replace t := t.1 c
    exact t hPT
  · replace t := t.2 c
    refine xw_aload_n (n := 71) (show xlook 212 70 = some (70, .aload_n 0, 1, 0, 0, 0, 0) from xlk (by decide +kernel)) rfl rfl ?_
    obtain ⟨j1, hj1, rr1, G1, hm1, hG1, t⟩ := t
    obtain ⟨y1, rfl, t⟩ := t
    refine xw_callv (dk := j1) (o := 131) (as := []) (show xlook 212 71 = some (71, .invokevirtual 268, 3, 196, 1, 0, 195) from xlk (by decide +kernel)) (by decide) hj1 ⟨Nat.le_of_ble_eq_true rfl, Nat.le_of_ble_eq_true rfl, Nat.le_of_ble_eq_true rfl⟩ ⟨xob_12.1, xob_12.2, by decide⟩ rfl hm1 (n := 74) rfl ?_
    show xW X d 212 74 [.ref (131), vi (x1), vi (x2), vi (x3), vi (x4)] [vi (y1)] G1 (xqi Q)
    obtain ⟨q0, t⟩ := t
    refine xw_if_eq (n := 77) (m := 94) (show xlook 212 74 = some (74, .ifCond .eq 20, 3, 94, 0, 0, 0) from xlk (by decide +kernel)) rfl rfl q0 ⟨fun c => ?_, fun c => ?_⟩
    · replace t := t.1 c
      exact t hG1
    · replace t := t.2 c
      refine xw_aload_n (n := 78) (show xlook 212 77 = some (77, .aload_n 0, 1, 0, 0, 0, 0) from xlk (by decide +kernel)) rfl rfl ?_
      obtain ⟨j2, hj2, rr2, G2, hm2, hG2, t⟩ := t
      obtain ⟨y2, rfl, t⟩ := t
      refine xw_callv (dk := j2) (o := 131) (as := []) (show xlook 212 78 = some (78, .invokevirtual 300, 3, 211, 1, 0, 204) from xlk (by decide +kernel)) (by decide) hj2 ⟨Nat.le_of_ble_eq_true rfl, Nat.le_of_ble_eq_true rfl, Nat.le_of_ble_eq_true rfl⟩ ⟨xob_12.1, xob_12.2, by decide⟩ rfl hm2 (n := 81) rfl ?_
      show xW X d 212 81 [.ref (131), vi (x1), vi (x2), vi (x3), vi (x4)] [vi (y2)] G2 (xqi Q)
      obtain ⟨q0, t⟩ := t
      refine xw_if_ne (n := 84) (m := 88) (show xlook 212 81 = some (81, .ifCond .ne 7, 3, 88, 0, 0, 0) from xlk (by decide +kernel)) rfl rfl q0 ⟨fun c => ?_, fun c => ?_⟩
      · replace t := t.1 c
        refine xw_iconst (n := 89) (show xlook 212 88 = some (88, .iconst 0, 1, 0, 0, 0, 0) from xlk (by decide +kernel)) rfl ?_
        refine xw_istore (n := 91) (show xlook 212 89 = some (89, .istore 4, 2, 0, 0, 0, 0) from xlk (by decide +kernel)) rfl (ls' := [.ref (131), vi (x1), vi (x2), vi (x3), vi (0)]) (Nat.le_of_ble_eq_true rfl) rfl ?_
        refine xw_goto (m := 65) (show xlook 212 91 = some (91, .goto (-26), 3, 65, 0, 0, 0) from xlk (by decide +kernel)) rfl ?_
        exact t hG2
      · replace t := t.2 c
        refine xw_iconst (n := 85) (show xlook 212 84 = some (84, .iconst 1, 1, 0, 0, 0, 0) from xlk (by decide +kernel)) rfl ?_
        refine xw_goto (m := 89) (show xlook 212 85 = some (85, .goto 4, 3, 89, 0, 0, 0) from xlk (by decide +kernel)) rfl ?_
        refine xw_istore (n := 91) (show xlook 212 89 = some (89, .istore 4, 2, 0, 0, 0, 0) from xlk (by decide +kernel)) rfl (ls' := [.ref (131), vi (x1), vi (x2), vi (x3), vi (1)]) (Nat.le_of_ble_eq_true rfl) rfl ?_
        refine xw_goto (m := 65) (show xlook 212 91 = some (91, .goto (-26), 3, 65, 0, 0, 0) from xlk (by decide +kernel)) rfl ?_
        exact t hG2

theorem s212_94 {X : List Int32} {d : Nat} {F : XF} {Q : Int → XF → Prop} {x1 : Int} {x2 : Int} {x3 : Int} {x4 : Int} (hPT : xPT F)  (t : inR (x4) ∧ ((((x4) = (0)) → (xPT (F) → xW X d 212 38 [.ref (131), vi (x1), vi (x2), vi (x3 + 1), vi (x4)] [] (F) (xqi Q))) ∧ (¬ ((x4) = (0)) → (∃ (j1 : Nat), j1 < d ∧ xMI X j1 197 [.ref (131)] (F) (fun (y1 : Int) (G1 : XF) => (inR (y1) ∧ ((((y1) = ((-1))) → (xPT (G1) → xW X d 212 38 [.ref (131), vi (x1), vi (x2), vi (x3 + 1), vi (x4)] [] (G1) (xqi Q))) ∧ (¬ ((y1) = ((-1))) → (xPT (G1) → xW X d 212 38 [.ref (131), vi (x1), vi (x3), vi (x3 + 1), vi (x4)] [] (G1) (xqi Q)))))))))) : xW X d 212 94 [.ref (131), vi (x1), vi (x2), vi (x3), vi (x4)] [] F (xqi Q) := by
  refine xw_iload (n := 96) (show xlook 212 94 = some (94, .iload 4, 2, 0, 0, 0, 0) from xlk (by decide +kernel)) rfl rfl ?_
  obtain ⟨q0, t⟩ := t
  refine xw_if_eq (n := 99) (m := 109) (show xlook 212 96 = some (96, .ifCond .eq 13, 3, 109, 0, 0, 0) from xlk (by decide +kernel)) rfl rfl q0 ⟨fun c => ?_, fun c => ?_⟩
  · replace t := t.1 c
    refine xw_iinc (n := 112) (show xlook 212 109 = some (109, .iinc 3 1, 3, 0, 0, 0, 0) from xlk (by decide +kernel)) rfl (ls' := [.ref (131), vi (x1), vi (x2), vi (x3 + 1), vi (x4)]) rfl rfl ?_
    refine xw_goto (m := 38) (show xlook 212 112 = some (112, .goto (-74), 3, 38, 0, 0, 0) from xlk (by decide +kernel)) rfl ?_
    exact t hPT
  · replace t := t.2 c
    refine xw_aload_n (n := 100) (show xlook 212 99 = some (99, .aload_n 0, 1, 0, 0, 0, 0) from xlk (by decide +kernel)) rfl rfl ?_
    obtain ⟨j1, hj1, rr1, G1, hm1, hG1, t⟩ := t
    obtain ⟨y1, rfl, t⟩ := t
    refine xw_callv (dk := j1) (o := 131) (as := []) (show xlook 212 100 = some (100, .invokevirtual 272, 3, 197, 1, 0, 196) from xlk (by decide +kernel)) (by decide) hj1 ⟨Nat.le_of_ble_eq_true rfl, Nat.le_of_ble_eq_true rfl, Nat.le_of_ble_eq_true rfl⟩ ⟨xob_12.1, xob_12.2, by decide⟩ rfl hm1 (n := 103) rfl ?_
    show xW X d 212 103 [.ref (131), vi (x1), vi (x2), vi (x3), vi (x4)] [vi (y1)] G1 (xqi Q)
    refine xw_iconst (n := 104) (show xlook 212 103 = some (103, .iconst (-1), 1, 0, 0, 0, 0) from xlk (by decide +kernel)) rfl ?_
    obtain ⟨q0, t⟩ := t
    refine xw_icmp_eq (n := 107) (m := 109) (show xlook 212 104 = some (104, .if_icmp .eq 5, 3, 109, 0, 0, 0) from xlk (by decide +kernel)) rfl rfl q0 ⟨by decide, by decide⟩ ⟨fun c => ?_, fun c => ?_⟩
    · replace t := t.1 c
      refine xw_iinc (n := 112) (show xlook 212 109 = some (109, .iinc 3 1, 3, 0, 0, 0, 0) from xlk (by decide +kernel)) rfl (ls' := [.ref (131), vi (x1), vi (x2), vi (x3 + 1), vi (x4)]) rfl rfl ?_
      refine xw_goto (m := 38) (show xlook 212 112 = some (112, .goto (-74), 3, 38, 0, 0, 0) from xlk (by decide +kernel)) rfl ?_
      exact t hG1
    · replace t := t.2 c
      refine xw_iload_n (n := 108) (show xlook 212 107 = some (107, .iload_n 3, 1, 0, 0, 0, 0) from xlk (by decide +kernel)) rfl rfl ?_
      refine xw_istore_n (n := 109) (show xlook 212 108 = some (108, .istore_n 2, 1, 0, 0, 0, 0) from xlk (by decide +kernel)) rfl (ls' := [.ref (131), vi (x1), vi (x3), vi (x3), vi (x4)]) (Nat.le_of_ble_eq_true rfl) rfl ?_
      refine xw_iinc (n := 112) (show xlook 212 109 = some (109, .iinc 3 1, 3, 0, 0, 0, 0) from xlk (by decide +kernel)) rfl (ls' := [.ref (131), vi (x1), vi (x3), vi (x3 + 1), vi (x4)]) rfl rfl ?_
      refine xw_goto (m := 38) (show xlook 212 112 = some (112, .goto (-74), 3, 38, 0, 0, 0) from xlk (by decide +kernel)) rfl ?_
      exact t hG1

theorem s213_0 {X : List Int32} {d : Nat} {F : XF} {Q : Int → XF → Prop} {x1 : Int} {x2 : Int} {w3 : Value} (hPT : xPT F)  (t : ∃ (j1 : Nat), j1 < d ∧ xMI X j1 155 [.ref (131), vi (x1)] (xup (F) (131) 0 (0)) (fun (y1 : Int) (G1 : XF) => (inR (y1) ∧ ((((y1) = (0)) → (xPT (G1) → Q ((-2)) (G1))) ∧ (¬ ((y1) = (0)) → ((inR (x2)) ∧ (∃ (j2 : Nat), j2 < d ∧ xMI X j2 132 [vl (x2), vl (0), vl (6)] (G1) (fun (y2 : Int) (G2 : XF) => (inR (y2) ∧ (((¬ (y2) = (0)) → (∃ (j3 : Nat), j3 < d ∧ xMV X j3 170 [.ref (131), vi (132)] (G2) (fun (G3 : XF) => (xPT (G3) → xW X d 213 37 [.ref (131), vi (x1), vi (x2), vi (0)] [] (G3) (xqi Q))))) ∧ (¬ (¬ (y2) = (0)) → (xPT (G2) → Q ((-2)) (G2))))))))))))) : xW X d 213 0 [.ref (131), vi (x1), vi (x2), w3] [] F (xqi Q) := by
  refine xw_aload_n (n := 1) (show xlook 213 0 = some (0, .aload_n 0, 1, 0, 0, 0, 0) from xlk (by decide +kernel)) rfl rfl ?_
  refine xw_iconst (n := 2) (show xlook 213 1 = some (1, .iconst 0, 1, 0, 0, 0, 0) from xlk (by decide +kernel)) rfl ?_
  refine xw_puti (show xlook 213 2 = some (2, .putfield 1, 3, 12, 0, 0, 235) from xlk (by decide +kernel)) (xobf xob_12 (by decide) (by decide)) rfl (n := 5) rfl ?_
  refine xw_aload_n (n := 6) (show xlook 213 5 = some (5, .aload_n 0, 1, 0, 0, 0, 0) from xlk (by decide +kernel)) rfl rfl ?_
  refine xw_iload_n (n := 7) (show xlook 213 6 = some (6, .iload_n 1, 1, 0, 0, 0, 0) from xlk (by decide +kernel)) rfl rfl ?_
  obtain ⟨j1, hj1, rr1, G1, hm1, hG1, t⟩ := t
  obtain ⟨y1, rfl, t⟩ := t
  refine xw_callv (dk := j1) (o := 131) (as := [vi (x1)]) (show xlook 213 7 = some (7, .invokevirtual 176, 3, 155, 2, 0, 171) from xlk (by decide +kernel)) (by decide) hj1 ⟨Nat.le_of_ble_eq_true rfl, Nat.le_of_ble_eq_true rfl, Nat.le_of_ble_eq_true rfl⟩ ⟨xob_12.1, xob_12.2, by decide⟩ rfl hm1 (n := 10) rfl ?_
  show xW X d 213 10 [.ref (131), vi (x1), vi (x2), w3] [vi (y1)] G1 (xqi Q)
  obtain ⟨q0, t⟩ := t
  refine xw_if_eq (n := 13) (m := 25) (show xlook 213 10 = some (10, .ifCond .eq 15, 3, 25, 0, 0, 0) from xlk (by decide +kernel)) rfl rfl q0 ⟨fun c => ?_, fun c => ?_⟩
  · replace t := t.1 c
    refine xw_bipush (n := 27) (show xlook 213 25 = some (25, .bipush (-2), 2, 0, 0, 0, 0) from xlk (by decide +kernel)) rfl (by decide) ?_
    exact xw_ireturn hG1 (show xlook 213 27 = some (27, .ireturn, 1, 0, 0, 0, 0) from xlk (by decide +kernel)) rfl (t hG1)
  · replace t := t.2 c
    refine xw_iload_n (n := 14) (show xlook 213 13 = some (13, .iload_n 2, 1, 0, 0, 0, 0) from xlk (by decide +kernel)) rfl rfl ?_
    obtain ⟨q1, t⟩ := t
    refine xw_i2l (n := 15) (show xlook 213 14 = some (14, .i2l, 1, 0, 0, 0, 0) from xlk (by decide +kernel)) rfl q1 ?_
    refine xw_lconst (n := 16) (show xlook 213 15 = some (15, .lconst 0, 1, 0, 0, 0, 0) from xlk (by decide +kernel)) rfl (k := 0) (by decide) ?_
    refine xw_ldc2 (n := 19) (show xlook 213 16 = some (16, .ldc2_w 303, 3, 0, 0, 6, 15) from xlk (by decide +kernel)) rfl ?_
    obtain ⟨j2, hj2, rr2, G2, hm2, hG2, t⟩ := t
    obtain ⟨y2, rfl, t⟩ := t
    refine xw_calls (dk := j2) (as := [vl (x2), vl (0), vl (6)]) (show xlook 213 19 = some (19, .invokestatic 83, 3, 132, 3, 0, 151) from xlk (by decide +kernel)) (by decide) hj2 ⟨Nat.le_of_ble_eq_true rfl, Nat.le_of_ble_eq_true rfl, Nat.le_of_ble_eq_true rfl, by decide⟩ rfl hm2 (n := 22) rfl ?_
    show xW X d 213 22 [.ref (131), vi (x1), vi (x2), w3] [vi (y2)] G2 (xqi Q)
    obtain ⟨q0, t⟩ := t
    refine xw_if_ne (n := 25) (m := 28) (show xlook 213 22 = some (22, .ifCond .ne 6, 3, 28, 0, 0, 0) from xlk (by decide +kernel)) rfl rfl q0 ⟨fun c => ?_, fun c => ?_⟩
    · replace t := t.1 c
      refine xw_aload_n (n := 29) (show xlook 213 28 = some (28, .aload_n 0, 1, 0, 0, 0, 0) from xlk (by decide +kernel)) rfl rfl ?_
      refine xw_sipush (n := 32) (show xlook 213 29 = some (29, .sipush 132, 3, 0, 0, 0, 0) from xlk (by decide +kernel)) rfl (by decide) ?_
      obtain ⟨j3, hj3, rr3, G3, hm3, hG3, t⟩ := t
      obtain ⟨rfl, t⟩ := t
      refine xw_callv (dk := j3) (o := 131) (as := [vi (132)]) (show xlook 213 32 = some (32, .invokevirtual 63, 3, 170, 2, 0, 150) from xlk (by decide +kernel)) (by decide) hj3 ⟨Nat.le_of_ble_eq_true rfl, Nat.le_of_ble_eq_true rfl, Nat.le_of_ble_eq_true rfl⟩ ⟨xob_12.1, xob_12.2, by decide⟩ rfl hm3 (n := 35) rfl ?_
      show xW X d 213 35 [.ref (131), vi (x1), vi (x2), w3] [] G3 (xqi Q)
      refine xw_iconst (n := 36) (show xlook 213 35 = some (35, .iconst 0, 1, 0, 0, 0, 0) from xlk (by decide +kernel)) rfl ?_
      refine xw_istore_n (n := 37) (show xlook 213 36 = some (36, .istore_n 3, 1, 0, 0, 0, 0) from xlk (by decide +kernel)) rfl (ls' := [.ref (131), vi (x1), vi (x2), vi (0)]) (Nat.le_of_ble_eq_true rfl) rfl ?_
      exact t hG3
    · replace t := t.2 c
      refine xw_bipush (n := 27) (show xlook 213 25 = some (25, .bipush (-2), 2, 0, 0, 0, 0) from xlk (by decide +kernel)) rfl (by decide) ?_
      exact xw_ireturn hG2 (show xlook 213 27 = some (27, .ireturn, 1, 0, 0, 0, 0) from xlk (by decide +kernel)) rfl (t hG2)
theorem m213 {X : List Int32} {d : Nat} {F : XF} {Q : Int → XF → Prop} {x1 : Int} {x2 : Int} (hPT : xPT F)  (t : ∃ (j1 : Nat), j1 < d ∧ xMI X j1 155 [.ref (131), vi (x1)] (xup (F) (131) 0 (0)) (fun (y1 : Int) (G1 : XF) => (inR (y1) ∧ ((((y1) = (0)) → (xPT (G1) → Q ((-2)) (G1))) ∧ (¬ ((y1) = (0)) → ((inR (x2)) ∧ (∃ (j2 : Nat), j2 < d ∧ xMI X j2 132 [vl (x2), vl (0), vl (6)] (G1) (fun (y2 : Int) (G2 : XF) => (inR (y2) ∧ (((¬ (y2) = (0)) → (∃ (j3 : Nat), j3 < d ∧ xMV X j3 170 [.ref (131), vi (132)] (G2) (fun (G3 : XF) => (xPT (G3) → xW X d 213 37 [.ref (131), vi (x1), vi (x2), vi (0)] [] (G3) (xqi Q))))) ∧ (¬ (¬ (y2) = (0)) → (xPT (G2) → Q ((-2)) (G2))))))))))))) : xMI X d 213 [.ref (131), vi (x1), vi (x2)] F Q := by
  show xW X d 213 0 [.ref (131), vi (x1), vi (x2), xU0] [] F (xqi Q)
  exact s213_0 hPT  t

theorem s213_37 {X : List Int32} {d : Nat} {F : XF} {Q : Int → XF → Prop} {x1 : Int} {x2 : Int} {x3 : Int} (hPT : xPT F)  (t : ∃ (j1 : Nat), j1 < d ∧ xMI X j1 196 [.ref (131)] (F) (fun (y1 : Int) (G1 : XF) => (inR (y1) ∧ ((((y1) = (0)) → (xPT (G1) → Q (x3) (G1))) ∧ (¬ ((y1) = (0)) → ((0 ≤ ((162) + (x1)) ∧ ((162) + (x1)) < 264) ∧ (inR ((G1) (140) ((162) + (x1))) ∧ inR (x2) ∧ (((¬ ((G1) (140) ((162) + (x1))) = (x2)) → (xPT (G1) → xW X d 213 37 [.ref (131), vi (x1), vi (x2), vi ((x3) + (0))] [] (G1) (xqi Q))) ∧ (¬ (¬ ((G1) (140) ((162) + (x1))) = (x2)) → (xPT (G1) → xW X d 213 37 [.ref (131), vi (x1), vi (x2), vi ((x3) + (1))] [] (G1) (xqi Q))))))))))) : xW X d 213 37 [.ref (131), vi (x1), vi (x2), vi (x3)] [] F (xqi Q) := by
  refine xw_aload_n (n := 38) (show xlook 213 37 = some (37, .aload_n 0, 1, 0, 0, 0, 0) from xlk (by decide +kernel)) rfl rfl ?_
  obtain ⟨j1, hj1, rr1, G1, hm1, hG1, t⟩ := t
  obtain ⟨y1, rfl, t⟩ := t
  refine xw_callv (dk := j1) (o := 131) (as := []) (show xlook 213 38 = some (38, .invokevirtual 268, 3, 196, 1, 0, 195) from xlk (by decide +kernel)) (by decide) hj1 ⟨Nat.le_of_ble_eq_true rfl, Nat.le_of_ble_eq_true rfl, Nat.le_of_ble_eq_true rfl⟩ ⟨xob_12.1, xob_12.2, by decide⟩ rfl hm1 (n := 41) rfl ?_
  show xW X d 213 41 [.ref (131), vi (x1), vi (x2), vi (x3)] [vi (y1)] G1 (xqi Q)
  obtain ⟨q0, t⟩ := t
  refine xw_if_eq (n := 44) (m := 69) (show xlook 213 41 = some (41, .ifCond .eq 28, 3, 69, 0, 0, 0) from xlk (by decide +kernel)) rfl rfl q0 ⟨fun c => ?_, fun c => ?_⟩
  · replace t := t.1 c
    refine xw_iload_n (n := 70) (show xlook 213 69 = some (69, .iload_n 3, 1, 0, 0, 0, 0) from xlk (by decide +kernel)) rfl rfl ?_
    exact xw_ireturn hG1 (show xlook 213 70 = some (70, .ireturn, 1, 0, 0, 0, 0) from xlk (by decide +kernel)) rfl (t hG1)
  · replace t := t.2 c
    refine xw_iload_n (n := 45) (show xlook 213 44 = some (44, .iload_n 3, 1, 0, 0, 0, 0) from xlk (by decide +kernel)) rfl rfl ?_
    refine xw_aload_n (n := 46) (show xlook 213 45 = some (45, .aload_n 0, 1, 0, 0, 0, 0) from xlk (by decide +kernel)) rfl rfl ?_
    refine xw_getr (q := 140) (show xlook 213 46 = some (46, .getfield 42, 3, 12, 18, 0, 229) from xlk (by decide +kernel)) (by decide) (xobf xob_12 (by decide) (by decide)) rfl (xPT_get (k := 18) (f := 9) hG1 xob_12 (by decide)) (by have := (xtg_12_18 _ xob_12.1 xob_12.2).1.1; omega) (n := 49) rfl ?_
    refine xw_sipush (n := 52) (show xlook 213 49 = some (49, .sipush 162, 3, 0, 0, 0, 0) from xlk (by decide +kernel)) rfl (by decide) ?_
    refine xw_iload_n (n := 53) (show xlook 213 52 = some (52, .iload_n 1, 1, 0, 0, 0, 0) from xlk (by decide +kernel)) rfl rfl ?_
    refine xw_iadd (n := 54) (show xlook 213 53 = some (53, .iadd, 1, 0, 0, 0, 0) from xlk (by decide +kernel)) rfl ?_
    obtain ⟨q1, t⟩ := t
    refine xw_iald (show xlook 213 54 = some (54, .iaload, 1, 0, 0, 0, 0) from xlk (by decide +kernel)) (xtg_12_18 _ xob_12.1 xob_12.2).1 (by rw [(xtg_12_18 _ xob_12.1 xob_12.2).2]; exact q1) (n := 55) rfl ?_
    refine xw_iload_n (n := 56) (show xlook 213 55 = some (55, .iload_n 2, 1, 0, 0, 0, 0) from xlk (by decide +kernel)) rfl rfl ?_
    obtain ⟨q0, q1, t⟩ := t
    refine xw_icmp_ne (n := 59) (m := 63) (show xlook 213 56 = some (56, .if_icmp .ne 7, 3, 63, 0, 0, 0) from xlk (by decide +kernel)) rfl rfl q0 q1 ⟨fun c => ?_, fun c => ?_⟩
    · replace t := t.1 c
      refine xw_iconst (n := 64) (show xlook 213 63 = some (63, .iconst 0, 1, 0, 0, 0, 0) from xlk (by decide +kernel)) rfl ?_
      refine xw_iadd (n := 65) (show xlook 213 64 = some (64, .iadd, 1, 0, 0, 0, 0) from xlk (by decide +kernel)) rfl ?_
      refine xw_istore_n (n := 66) (show xlook 213 65 = some (65, .istore_n 3, 1, 0, 0, 0, 0) from xlk (by decide +kernel)) rfl (ls' := [.ref (131), vi (x1), vi (x2), vi ((x3) + (0))]) (Nat.le_of_ble_eq_true rfl) rfl ?_
      refine xw_goto (m := 37) (show xlook 213 66 = some (66, .goto (-29), 3, 37, 0, 0, 0) from xlk (by decide +kernel)) rfl ?_
      exact t hG1
    · replace t := t.2 c
      refine xw_iconst (n := 60) (show xlook 213 59 = some (59, .iconst 1, 1, 0, 0, 0, 0) from xlk (by decide +kernel)) rfl ?_
      refine xw_goto (m := 64) (show xlook 213 60 = some (60, .goto 4, 3, 64, 0, 0, 0) from xlk (by decide +kernel)) rfl ?_
      refine xw_iadd (n := 65) (show xlook 213 64 = some (64, .iadd, 1, 0, 0, 0, 0) from xlk (by decide +kernel)) rfl ?_
      refine xw_istore_n (n := 66) (show xlook 213 65 = some (65, .istore_n 3, 1, 0, 0, 0, 0) from xlk (by decide +kernel)) rfl (ls' := [.ref (131), vi (x1), vi (x2), vi ((x3) + (1))]) (Nat.le_of_ble_eq_true rfl) rfl ?_
      refine xw_goto (m := 37) (show xlook 213 66 = some (66, .goto (-29), 3, 37, 0, 0, 0) from xlk (by decide +kernel)) rfl ?_
      exact t hG1

theorem s214_0 {X : List Int32} {d : Nat} {F : XF} {Q : Int → XF → Prop} {x1 : Int} {w2 : Value} {w3 : Value} {w4 : Value} (hPT : xPT F)  (t : ∃ (j1 : Nat), j1 < d ∧ xMI X j1 154 [.ref (131)] (xup (F) (131) 0 (0)) (fun (y1 : Int) (G1 : XF) => (inR (y1) ∧ (((¬ (y1) = (0)) → ((inR (x1)) ∧ (∃ (j2 : Nat), j2 < d ∧ xMI X j2 132 [vl (x1), vl (0), vl (2000)] (G1) (fun (y2 : Int) (G2 : XF) => (inR (y2) ∧ (((¬ (y2) = (0)) → (∃ (j3 : Nat), j3 < d ∧ xMV X j3 206 [.ref (131)] (G2) (fun (G3 : XF) => (xPT (G3) → xW X d 214 38 [.ref (131), vi (x1), vi ((-1)), vi (1), w4] [] (G3) (xqi Q))))) ∧ (¬ (¬ (y2) = (0)) → (xPT (G2) → Q ((-3)) (G2))))))))) ∧ (¬ (¬ (y1) = (0)) → (xPT (G1) → Q ((-5)) (G1))))))) : xW X d 214 0 [.ref (131), vi (x1), w2, w3, w4] [] F (xqi Q) := by
  refine xw_aload_n (n := 1) (show xlook 214 0 = some (0, .aload_n 0, 1, 0, 0, 0, 0) from xlk (by decide +kernel)) rfl rfl ?_
  refine xw_iconst (n := 2) (show xlook 214 1 = some (1, .iconst 0, 1, 0, 0, 0, 0) from xlk (by decide +kernel)) rfl ?_
  refine xw_puti (show xlook 214 2 = some (2, .putfield 1, 3, 12, 0, 0, 235) from xlk (by decide +kernel)) (xobf xob_12 (by decide) (by decide)) rfl (n := 5) rfl ?_
  refine xw_aload_n (n := 6) (show xlook 214 5 = some (5, .aload_n 0, 1, 0, 0, 0, 0) from xlk (by decide +kernel)) rfl rfl ?_
  obtain ⟨j1, hj1, rr1, G1, hm1, hG1, t⟩ := t
  obtain ⟨y1, rfl, t⟩ := t
  refine xw_callv (dk := j1) (o := 131) (as := []) (show xlook 214 6 = some (6, .invokevirtual 161, 3, 154, 1, 0, 169) from xlk (by decide +kernel)) (by decide) hj1 ⟨Nat.le_of_ble_eq_true rfl, Nat.le_of_ble_eq_true rfl, Nat.le_of_ble_eq_true rfl⟩ ⟨xob_12.1, xob_12.2, by decide⟩ rfl hm1 (n := 9) rfl ?_
  show xW X d 214 9 [.ref (131), vi (x1), w2, w3, w4] [vi (y1)] G1 (xqi Q)
  obtain ⟨q0, t⟩ := t
  refine xw_if_ne (n := 12) (m := 15) (show xlook 214 9 = some (9, .ifCond .ne 6, 3, 15, 0, 0, 0) from xlk (by decide +kernel)) rfl rfl q0 ⟨fun c => ?_, fun c => ?_⟩
  · replace t := t.1 c
    refine xw_iload_n (n := 16) (show xlook 214 15 = some (15, .iload_n 1, 1, 0, 0, 0, 0) from xlk (by decide +kernel)) rfl rfl ?_
    obtain ⟨q1, t⟩ := t
    refine xw_i2l (n := 17) (show xlook 214 16 = some (16, .i2l, 1, 0, 0, 0, 0) from xlk (by decide +kernel)) rfl q1 ?_
    refine xw_lconst (n := 18) (show xlook 214 17 = some (17, .lconst 0, 1, 0, 0, 0, 0) from xlk (by decide +kernel)) rfl (k := 0) (by decide) ?_
    refine xw_ldc2 (n := 21) (show xlook 214 18 = some (18, .ldc2_w 251, 3, 0, 0, 2000, 11) from xlk (by decide +kernel)) rfl ?_
    obtain ⟨j2, hj2, rr2, G2, hm2, hG2, t⟩ := t
    obtain ⟨y2, rfl, t⟩ := t
    refine xw_calls (dk := j2) (as := [vl (x1), vl (0), vl (2000)]) (show xlook 214 21 = some (21, .invokestatic 83, 3, 132, 3, 0, 151) from xlk (by decide +kernel)) (by decide) hj2 ⟨Nat.le_of_ble_eq_true rfl, Nat.le_of_ble_eq_true rfl, Nat.le_of_ble_eq_true rfl, by decide⟩ rfl hm2 (n := 24) rfl ?_
    show xW X d 214 24 [.ref (131), vi (x1), w2, w3, w4] [vi (y2)] G2 (xqi Q)
    obtain ⟨q0, t⟩ := t
    refine xw_if_ne (n := 27) (m := 30) (show xlook 214 24 = some (24, .ifCond .ne 6, 3, 30, 0, 0, 0) from xlk (by decide +kernel)) rfl rfl q0 ⟨fun c => ?_, fun c => ?_⟩
    · replace t := t.1 c
      refine xw_aload_n (n := 31) (show xlook 214 30 = some (30, .aload_n 0, 1, 0, 0, 0, 0) from xlk (by decide +kernel)) rfl rfl ?_
      obtain ⟨j3, hj3, rr3, G3, hm3, hG3, t⟩ := t
      obtain ⟨rfl, t⟩ := t
      refine xw_callv (dk := j3) (o := 131) (as := []) (show xlook 214 31 = some (31, .invokevirtual 289, 3, 206, 1, 0, 201) from xlk (by decide +kernel)) (by decide) hj3 ⟨Nat.le_of_ble_eq_true rfl, Nat.le_of_ble_eq_true rfl, Nat.le_of_ble_eq_true rfl⟩ ⟨xob_12.1, xob_12.2, by decide⟩ rfl hm3 (n := 34) rfl ?_
      show xW X d 214 34 [.ref (131), vi (x1), w2, w3, w4] [] G3 (xqi Q)
      refine xw_iconst (n := 35) (show xlook 214 34 = some (34, .iconst (-1), 1, 0, 0, 0, 0) from xlk (by decide +kernel)) rfl ?_
      refine xw_istore_n (n := 36) (show xlook 214 35 = some (35, .istore_n 2, 1, 0, 0, 0, 0) from xlk (by decide +kernel)) rfl (ls' := [.ref (131), vi (x1), vi ((-1)), w3, w4]) (Nat.le_of_ble_eq_true rfl) rfl ?_
      refine xw_iconst (n := 37) (show xlook 214 36 = some (36, .iconst 1, 1, 0, 0, 0, 0) from xlk (by decide +kernel)) rfl ?_
      refine xw_istore_n (n := 38) (show xlook 214 37 = some (37, .istore_n 3, 1, 0, 0, 0, 0) from xlk (by decide +kernel)) rfl (ls' := [.ref (131), vi (x1), vi ((-1)), vi (1), w4]) (Nat.le_of_ble_eq_true rfl) rfl ?_
      exact t hG3
    · replace t := t.2 c
      refine xw_bipush (n := 29) (show xlook 214 27 = some (27, .bipush (-3), 2, 0, 0, 0, 0) from xlk (by decide +kernel)) rfl (by decide) ?_
      exact xw_ireturn hG2 (show xlook 214 29 = some (29, .ireturn, 1, 0, 0, 0, 0) from xlk (by decide +kernel)) rfl (t hG2)
  · replace t := t.2 c
    refine xw_bipush (n := 14) (show xlook 214 12 = some (12, .bipush (-5), 2, 0, 0, 0, 0) from xlk (by decide +kernel)) rfl (by decide) ?_
    exact xw_ireturn hG1 (show xlook 214 14 = some (14, .ireturn, 1, 0, 0, 0, 0) from xlk (by decide +kernel)) rfl (t hG1)
theorem m214 {X : List Int32} {d : Nat} {F : XF} {Q : Int → XF → Prop} {x1 : Int} (hPT : xPT F)  (t : ∃ (j1 : Nat), j1 < d ∧ xMI X j1 154 [.ref (131)] (xup (F) (131) 0 (0)) (fun (y1 : Int) (G1 : XF) => (inR (y1) ∧ (((¬ (y1) = (0)) → ((inR (x1)) ∧ (∃ (j2 : Nat), j2 < d ∧ xMI X j2 132 [vl (x1), vl (0), vl (2000)] (G1) (fun (y2 : Int) (G2 : XF) => (inR (y2) ∧ (((¬ (y2) = (0)) → (∃ (j3 : Nat), j3 < d ∧ xMV X j3 206 [.ref (131)] (G2) (fun (G3 : XF) => (xPT (G3) → xW X d 214 38 [.ref (131), vi (x1), vi ((-1)), vi (1), xU0] [] (G3) (xqi Q))))) ∧ (¬ (¬ (y2) = (0)) → (xPT (G2) → Q ((-3)) (G2))))))))) ∧ (¬ (¬ (y1) = (0)) → (xPT (G1) → Q ((-5)) (G1))))))) : xMI X d 214 [.ref (131), vi (x1)] F Q := by
  show xW X d 214 0 [.ref (131), vi (x1), xU0, xU0, xU0] [] F (xqi Q)
  exact s214_0 hPT  t

theorem s214_38 {X : List Int32} {d : Nat} {F : XF} {Q : Int → XF → Prop} {x1 : Int} {x2 : Int} {x3 : Int} {w4 : Value} (hPT : xPT F)  (t : inR (x3) ∧ ((((50) < (x3)) → (∃ (j1 : Nat), j1 < d ∧ xMV X j1 207 [.ref (131)] (F) (fun (G1 : XF) => (xPT (G1) → Q (x2) (G1))))) ∧ (¬ ((50) < (x3)) → (inR (x2) ∧ (((¬ (x2) = ((-1))) → (∃ (j2 : Nat), j2 < d ∧ xMV X j2 207 [.ref (131)] (F) (fun (G2 : XF) => (xPT (G2) → Q (x2) (G2))))) ∧ (¬ (¬ (x2) = ((-1))) → (∃ (j3 : Nat), j3 < d ∧ xMI X j3 198 [.ref (131)] (xup (F) (132) 1 (x3)) (fun (y3 : Int) (G3 : XF) => (inR (y3) ∧ ((((y3) = ((-1))) → (xPT (G3) → xW X d 214 38 [.ref (131), vi (x1), vi (x2), vi (x3 + 1), vi (y3)] [] (G3) (xqi Q))) ∧ (¬ ((y3) = ((-1))) → (inR (y3) ∧ inR (x1) ∧ ((((x1) < (y3)) → (xPT (G3) → xW X d 214 38 [.ref (131), vi (x1), vi (x2), vi (x3 + 1), vi (y3)] [] (G3) (xqi Q))) ∧ (¬ ((x1) < (y3)) → (xPT (G3) → xW X d 214 38 [.ref (131), vi (x1), vi (x3), vi (x3 + 1), vi (y3)] [] (G3) (xqi Q)))))))))))))))) : xW X d 214 38 [.ref (131), vi (x1), vi (x2), vi (x3), w4] [] F (xqi Q) := by
  refine xw_iload_n (n := 39) (show xlook 214 38 = some (38, .iload_n 3, 1, 0, 0, 0, 0) from xlk (by decide +kernel)) rfl rfl ?_
  refine xw_bipush (n := 41) (show xlook 214 39 = some (39, .bipush 50, 2, 0, 0, 0, 0) from xlk (by decide +kernel)) rfl (by decide) ?_
  obtain ⟨q0, t⟩ := t
  refine xw_icmp_gt (n := 44) (m := 82) (show xlook 214 41 = some (41, .if_icmp .gt 41, 3, 82, 0, 0, 0) from xlk (by decide +kernel)) rfl rfl q0 ⟨by decide, by decide⟩ ⟨fun c => ?_, fun c => ?_⟩
  · replace t := t.1 c
    refine xw_aload_n (n := 83) (show xlook 214 82 = some (82, .aload_n 0, 1, 0, 0, 0, 0) from xlk (by decide +kernel)) rfl rfl ?_
    obtain ⟨j1, hj1, rr1, G1, hm1, hG1, t⟩ := t
    obtain ⟨rfl, t⟩ := t
    refine xw_callv (dk := j1) (o := 131) (as := []) (show xlook 214 83 = some (83, .invokevirtual 295, 3, 207, 1, 0, 203) from xlk (by decide +kernel)) (by decide) hj1 ⟨Nat.le_of_ble_eq_true rfl, Nat.le_of_ble_eq_true rfl, Nat.le_of_ble_eq_true rfl⟩ ⟨xob_12.1, xob_12.2, by decide⟩ rfl hm1 (n := 86) rfl ?_
    show xW X d 214 86 [.ref (131), vi (x1), vi (x2), vi (x3), w4] [] G1 (xqi Q)
    refine xw_iload_n (n := 87) (show xlook 214 86 = some (86, .iload_n 2, 1, 0, 0, 0, 0) from xlk (by decide +kernel)) rfl rfl ?_
    exact xw_ireturn hG1 (show xlook 214 87 = some (87, .ireturn, 1, 0, 0, 0, 0) from xlk (by decide +kernel)) rfl (t hG1)
  · replace t := t.2 c
    refine xw_iload_n (n := 45) (show xlook 214 44 = some (44, .iload_n 2, 1, 0, 0, 0, 0) from xlk (by decide +kernel)) rfl rfl ?_
    refine xw_iconst (n := 46) (show xlook 214 45 = some (45, .iconst (-1), 1, 0, 0, 0, 0) from xlk (by decide +kernel)) rfl ?_
    obtain ⟨q0, t⟩ := t
    refine xw_icmp_ne (n := 49) (m := 82) (show xlook 214 46 = some (46, .if_icmp .ne 36, 3, 82, 0, 0, 0) from xlk (by decide +kernel)) rfl rfl q0 ⟨by decide, by decide⟩ ⟨fun c => ?_, fun c => ?_⟩
    · replace t := t.1 c
      refine xw_aload_n (n := 83) (show xlook 214 82 = some (82, .aload_n 0, 1, 0, 0, 0, 0) from xlk (by decide +kernel)) rfl rfl ?_
      obtain ⟨j2, hj2, rr2, G2, hm2, hG2, t⟩ := t
      obtain ⟨rfl, t⟩ := t
      refine xw_callv (dk := j2) (o := 131) (as := []) (show xlook 214 83 = some (83, .invokevirtual 295, 3, 207, 1, 0, 203) from xlk (by decide +kernel)) (by decide) hj2 ⟨Nat.le_of_ble_eq_true rfl, Nat.le_of_ble_eq_true rfl, Nat.le_of_ble_eq_true rfl⟩ ⟨xob_12.1, xob_12.2, by decide⟩ rfl hm2 (n := 86) rfl ?_
      show xW X d 214 86 [.ref (131), vi (x1), vi (x2), vi (x3), w4] [] G2 (xqi Q)
      refine xw_iload_n (n := 87) (show xlook 214 86 = some (86, .iload_n 2, 1, 0, 0, 0, 0) from xlk (by decide +kernel)) rfl rfl ?_
      exact xw_ireturn hG2 (show xlook 214 87 = some (87, .ireturn, 1, 0, 0, 0, 0) from xlk (by decide +kernel)) rfl (t hG2)
    · replace t := t.2 c
      refine xw_aload_n (n := 50) (show xlook 214 49 = some (49, .aload_n 0, 1, 0, 0, 0, 0) from xlk (by decide +kernel)) rfl rfl ?_
      refine xw_getr (q := 132) (show xlook 214 50 = some (50, .getfield 13, 3, 12, 1, 0, 220) from xlk (by decide +kernel)) (by decide) (xobf xob_12 (by decide) (by decide)) rfl (xPT_get (k := 1) (f := 1) hPT xob_12 (by decide)) (by have := (xtg_12_1 _ xob_12.1 xob_12.2).1.1; omega) (n := 53) rfl ?_
      refine xw_iconst (n := 54) (show xlook 214 53 = some (53, .iconst 1, 1, 0, 0, 0, 0) from xlk (by decide +kernel)) rfl ?_
      refine xw_iload_n (n := 55) (show xlook 214 54 = some (54, .iload_n 3, 1, 0, 0, 0, 0) from xlk (by decide +kernel)) rfl rfl ?_
      refine xw_iast (show xlook 214 55 = some (55, .iastore, 1, 0, 0, 0, 0) from xlk (by decide +kernel)) (xtg_12_1 _ xob_12.1 xob_12.2).1 (by rw [(xtg_12_1 _ xob_12.1 xob_12.2).2]; decide) (n := 56) rfl ?_
      refine xw_aload_n (n := 57) (show xlook 214 56 = some (56, .aload_n 0, 1, 0, 0, 0, 0) from xlk (by decide +kernel)) rfl rfl ?_
      obtain ⟨j3, hj3, rr3, G3, hm3, hG3, t⟩ := t
      obtain ⟨y3, rfl, t⟩ := t
      refine xw_callv (dk := j3) (o := 131) (as := []) (show xlook 214 57 = some (57, .invokevirtual 275, 3, 198, 1, 0, 197) from xlk (by decide +kernel)) (by decide) hj3 ⟨Nat.le_of_ble_eq_true rfl, Nat.le_of_ble_eq_true rfl, Nat.le_of_ble_eq_true rfl⟩ ⟨xob_12.1, xob_12.2, by decide⟩ rfl hm3 (n := 60) rfl ?_
      show xW X d 214 60 [.ref (131), vi (x1), vi (x2), vi (x3), w4] [vi (y3)] G3 (xqi Q)
      refine xw_istore (n := 62) (show xlook 214 60 = some (60, .istore 4, 2, 0, 0, 0, 0) from xlk (by decide +kernel)) rfl (ls' := [.ref (131), vi (x1), vi (x2), vi (x3), vi (y3)]) (Nat.le_of_ble_eq_true rfl) rfl ?_
      refine xw_iload (n := 64) (show xlook 214 62 = some (62, .iload 4, 2, 0, 0, 0, 0) from xlk (by decide +kernel)) rfl rfl ?_
      refine xw_iconst (n := 65) (show xlook 214 64 = some (64, .iconst (-1), 1, 0, 0, 0, 0) from xlk (by decide +kernel)) rfl ?_
      obtain ⟨q0, t⟩ := t
      refine xw_icmp_eq (n := 68) (m := 76) (show xlook 214 65 = some (65, .if_icmp .eq 11, 3, 76, 0, 0, 0) from xlk (by decide +kernel)) rfl rfl q0 ⟨by decide, by decide⟩ ⟨fun c => ?_, fun c => ?_⟩
      · replace t := t.1 c
        refine xw_iinc (n := 79) (show xlook 214 76 = some (76, .iinc 3 1, 3, 0, 0, 0, 0) from xlk (by decide +kernel)) rfl (ls' := [.ref (131), vi (x1), vi (x2), vi (x3 + 1), vi (y3)]) rfl rfl ?_
        refine xw_goto (m := 38) (show xlook 214 79 = some (79, .goto (-41), 3, 38, 0, 0, 0) from xlk (by decide +kernel)) rfl ?_
        exact t hG3
      · replace t := t.2 c
        refine xw_iload (n := 70) (show xlook 214 68 = some (68, .iload 4, 2, 0, 0, 0, 0) from xlk (by decide +kernel)) rfl rfl ?_
        refine xw_iload_n (n := 71) (show xlook 214 70 = some (70, .iload_n 1, 1, 0, 0, 0, 0) from xlk (by decide +kernel)) rfl rfl ?_
        obtain ⟨q0, q1, t⟩ := t
        refine xw_icmp_gt (n := 74) (m := 76) (show xlook 214 71 = some (71, .if_icmp .gt 5, 3, 76, 0, 0, 0) from xlk (by decide +kernel)) rfl rfl q0 q1 ⟨fun c => ?_, fun c => ?_⟩
        · replace t := t.1 c
          refine xw_iinc (n := 79) (show xlook 214 76 = some (76, .iinc 3 1, 3, 0, 0, 0, 0) from xlk (by decide +kernel)) rfl (ls' := [.ref (131), vi (x1), vi (x2), vi (x3 + 1), vi (y3)]) rfl rfl ?_
          refine xw_goto (m := 38) (show xlook 214 79 = some (79, .goto (-41), 3, 38, 0, 0, 0) from xlk (by decide +kernel)) rfl ?_
          exact t hG3
        · replace t := t.2 c
          refine xw_iload_n (n := 75) (show xlook 214 74 = some (74, .iload_n 3, 1, 0, 0, 0, 0) from xlk (by decide +kernel)) rfl rfl ?_
          refine xw_istore_n (n := 76) (show xlook 214 75 = some (75, .istore_n 2, 1, 0, 0, 0, 0) from xlk (by decide +kernel)) rfl (ls' := [.ref (131), vi (x1), vi (x3), vi (x3), vi (y3)]) (Nat.le_of_ble_eq_true rfl) rfl ?_
          refine xw_iinc (n := 79) (show xlook 214 76 = some (76, .iinc 3 1, 3, 0, 0, 0, 0) from xlk (by decide +kernel)) rfl (ls' := [.ref (131), vi (x1), vi (x3), vi (x3 + 1), vi (y3)]) rfl rfl ?_
          refine xw_goto (m := 38) (show xlook 214 79 = some (79, .goto (-41), 3, 38, 0, 0, 0) from xlk (by decide +kernel)) rfl ?_
          exact t hG3

theorem s215_0 {X : List Int32} {d : Nat} {F : XF} {Q : Int → XF → Prop} {x1 : Int} {w2 : Value} {w3 : Value} {w4 : Value} (hPT : xPT F)  (t : ∃ (j1 : Nat), j1 < d ∧ xMI X j1 185 [.ref (131), vi (x1)] (xup (F) (131) 0 (0)) (fun (y1 : Int) (G1 : XF) => (inR (y1) ∧ (((¬ (y1) = (0)) → (∃ (j2 : Nat), j2 < d ∧ xMV X j2 170 [.ref (131), vi (132)] (G1) (fun (G2 : XF) => (xPT (G2) → xW X d 215 30 [.ref (131), vi (x1), vi (0), vi (0), vi (1)] [] (G2) (xqi Q))))) ∧ (¬ (¬ (y1) = (0)) → (xPT (G1) → Q ((-2)) (G1))))))) : xW X d 215 0 [.ref (131), vi (x1), w2, w3, w4] [] F (xqi Q) := by
  refine xw_aload_n (n := 1) (show xlook 215 0 = some (0, .aload_n 0, 1, 0, 0, 0, 0) from xlk (by decide +kernel)) rfl rfl ?_
  refine xw_iconst (n := 2) (show xlook 215 1 = some (1, .iconst 0, 1, 0, 0, 0, 0) from xlk (by decide +kernel)) rfl ?_
  refine xw_puti (show xlook 215 2 = some (2, .putfield 1, 3, 12, 0, 0, 235) from xlk (by decide +kernel)) (xobf xob_12 (by decide) (by decide)) rfl (n := 5) rfl ?_
  refine xw_aload_n (n := 6) (show xlook 215 5 = some (5, .aload_n 0, 1, 0, 0, 0, 0) from xlk (by decide +kernel)) rfl rfl ?_
  refine xw_iload_n (n := 7) (show xlook 215 6 = some (6, .iload_n 1, 1, 0, 0, 0, 0) from xlk (by decide +kernel)) rfl rfl ?_
  obtain ⟨j1, hj1, rr1, G1, hm1, hG1, t⟩ := t
  obtain ⟨y1, rfl, t⟩ := t
  refine xw_callv (dk := j1) (o := 131) (as := [vi (x1)]) (show xlook 215 7 = some (7, .invokevirtual 257, 3, 185, 2, 0, 192) from xlk (by decide +kernel)) (by decide) hj1 ⟨Nat.le_of_ble_eq_true rfl, Nat.le_of_ble_eq_true rfl, Nat.le_of_ble_eq_true rfl⟩ ⟨xob_12.1, xob_12.2, by decide⟩ rfl hm1 (n := 10) rfl ?_
  show xW X d 215 10 [.ref (131), vi (x1), w2, w3, w4] [vi (y1)] G1 (xqi Q)
  obtain ⟨q0, t⟩ := t
  refine xw_if_ne (n := 13) (m := 16) (show xlook 215 10 = some (10, .ifCond .ne 6, 3, 16, 0, 0, 0) from xlk (by decide +kernel)) rfl rfl q0 ⟨fun c => ?_, fun c => ?_⟩
  · replace t := t.1 c
    refine xw_aload_n (n := 17) (show xlook 215 16 = some (16, .aload_n 0, 1, 0, 0, 0, 0) from xlk (by decide +kernel)) rfl rfl ?_
    refine xw_sipush (n := 20) (show xlook 215 17 = some (17, .sipush 132, 3, 0, 0, 0, 0) from xlk (by decide +kernel)) rfl (by decide) ?_
    obtain ⟨j2, hj2, rr2, G2, hm2, hG2, t⟩ := t
    obtain ⟨rfl, t⟩ := t
    refine xw_callv (dk := j2) (o := 131) (as := [vi (132)]) (show xlook 215 20 = some (20, .invokevirtual 63, 3, 170, 2, 0, 150) from xlk (by decide +kernel)) (by decide) hj2 ⟨Nat.le_of_ble_eq_true rfl, Nat.le_of_ble_eq_true rfl, Nat.le_of_ble_eq_true rfl⟩ ⟨xob_12.1, xob_12.2, by decide⟩ rfl hm2 (n := 23) rfl ?_
    show xW X d 215 23 [.ref (131), vi (x1), w2, w3, w4] [] G2 (xqi Q)
    refine xw_iconst (n := 24) (show xlook 215 23 = some (23, .iconst 0, 1, 0, 0, 0, 0) from xlk (by decide +kernel)) rfl ?_
    refine xw_istore_n (n := 25) (show xlook 215 24 = some (24, .istore_n 2, 1, 0, 0, 0, 0) from xlk (by decide +kernel)) rfl (ls' := [.ref (131), vi (x1), vi (0), w3, w4]) (Nat.le_of_ble_eq_true rfl) rfl ?_
    refine xw_iconst (n := 26) (show xlook 215 25 = some (25, .iconst 0, 1, 0, 0, 0, 0) from xlk (by decide +kernel)) rfl ?_
    refine xw_istore_n (n := 27) (show xlook 215 26 = some (26, .istore_n 3, 1, 0, 0, 0, 0) from xlk (by decide +kernel)) rfl (ls' := [.ref (131), vi (x1), vi (0), vi (0), w4]) (Nat.le_of_ble_eq_true rfl) rfl ?_
    refine xw_iconst (n := 28) (show xlook 215 27 = some (27, .iconst 1, 1, 0, 0, 0, 0) from xlk (by decide +kernel)) rfl ?_
    refine xw_istore (n := 30) (show xlook 215 28 = some (28, .istore 4, 2, 0, 0, 0, 0) from xlk (by decide +kernel)) rfl (ls' := [.ref (131), vi (x1), vi (0), vi (0), vi (1)]) (Nat.le_of_ble_eq_true rfl) rfl ?_
    exact t hG2
  · replace t := t.2 c
    refine xw_bipush (n := 15) (show xlook 215 13 = some (13, .bipush (-2), 2, 0, 0, 0, 0) from xlk (by decide +kernel)) rfl (by decide) ?_
    exact xw_ireturn hG1 (show xlook 215 15 = some (15, .ireturn, 1, 0, 0, 0, 0) from xlk (by decide +kernel)) rfl (t hG1)
theorem m215 {X : List Int32} {d : Nat} {F : XF} {Q : Int → XF → Prop} {x1 : Int} (hPT : xPT F)  (t : ∃ (j1 : Nat), j1 < d ∧ xMI X j1 185 [.ref (131), vi (x1)] (xup (F) (131) 0 (0)) (fun (y1 : Int) (G1 : XF) => (inR (y1) ∧ (((¬ (y1) = (0)) → (∃ (j2 : Nat), j2 < d ∧ xMV X j2 170 [.ref (131), vi (132)] (G1) (fun (G2 : XF) => (xPT (G2) → xW X d 215 30 [.ref (131), vi (x1), vi (0), vi (0), vi (1)] [] (G2) (xqi Q))))) ∧ (¬ (¬ (y1) = (0)) → (xPT (G1) → Q ((-2)) (G1))))))) : xMI X d 215 [.ref (131), vi (x1)] F Q := by
  show xW X d 215 0 [.ref (131), vi (x1), xU0, xU0, xU0] [] F (xqi Q)
  exact s215_0 hPT  t

theorem s215_30 {X : List Int32} {d : Nat} {F : XF} {Q : Int → XF → Prop} {x1 : Int} {x2 : Int} {x3 : Int} {x4 : Int} (hPT : xPT F)  (t : inR (x4) ∧ ((((x4) = (0)) → (xPT (F) → Q (x2) (F))) ∧ (¬ ((x4) = (0)) → (∃ (j1 : Nat), j1 < d ∧ xMI X j1 173 [.ref (131), vi (132), vi (x1)] (F) (fun (y1 : Int) (G1 : XF) => (inR (y1) ∧ (((¬ (y1) = ((-1))) → (∃ (j2 : Nat), j2 < d ∧ xMI X j2 196 [.ref (131)] (G1) (fun (y2 : Int) (G2 : XF) => (inR (y2) ∧ ((((y2) = (0)) → (xPT (G2) → xW X d 215 30 [.ref (131), vi (x1), vi (x2), vi ((x3) + (1)), vi (y2)] [] (G2) (xqi Q))) ∧ (¬ ((y2) = (0)) → (inR ((x3) + (1)) ∧ inR (x2) ∧ (((((x3) + (1)) ≤ (x2)) → (xPT (G2) → xW X d 215 30 [.ref (131), vi (x1), vi (x2), vi ((x3) + (1)), vi (y2)] [] (G2) (xqi Q))) ∧ (¬ (((x3) + (1)) ≤ (x2)) → (xPT (G2) → xW X d 215 30 [.ref (131), vi (x1), vi ((x3) + (1)), vi ((x3) + (1)), vi (y2)] [] (G2) (xqi Q))))))))))) ∧ (¬ (¬ (y1) = ((-1))) → (∃ (j3 : Nat), j3 < d ∧ xMI X j3 196 [.ref (131)] (G1) (fun (y3 : Int) (G3 : XF) => (inR (y3) ∧ ((((y3) = (0)) → (xPT (G3) → xW X d 215 30 [.ref (131), vi (x1), vi (x2), vi (0), vi (y3)] [] (G3) (xqi Q))) ∧ (¬ ((y3) = (0)) → (inR (x2) ∧ ((((0) ≤ (x2)) → (xPT (G3) → xW X d 215 30 [.ref (131), vi (x1), vi (x2), vi (0), vi (y3)] [] (G3) (xqi Q))) ∧ (¬ ((0) ≤ (x2)) → (xPT (G3) → xW X d 215 30 [.ref (131), vi (x1), vi (0), vi (0), vi (y3)] [] (G3) (xqi Q)))))))))))))))))) : xW X d 215 30 [.ref (131), vi (x1), vi (x2), vi (x3), vi (x4)] [] F (xqi Q) := by
  refine xw_iload (n := 32) (show xlook 215 30 = some (30, .iload 4, 2, 0, 0, 0, 0) from xlk (by decide +kernel)) rfl rfl ?_
  obtain ⟨q0, t⟩ := t
  refine xw_if_eq (n := 35) (m := 80) (show xlook 215 32 = some (32, .ifCond .eq 48, 3, 80, 0, 0, 0) from xlk (by decide +kernel)) rfl rfl q0 ⟨fun c => ?_, fun c => ?_⟩
  · replace t := t.1 c
    refine xw_iload_n (n := 81) (show xlook 215 80 = some (80, .iload_n 2, 1, 0, 0, 0, 0) from xlk (by decide +kernel)) rfl rfl ?_
    exact xw_ireturn hPT (show xlook 215 81 = some (81, .ireturn, 1, 0, 0, 0, 0) from xlk (by decide +kernel)) rfl (t hPT)
  · replace t := t.2 c
    refine xw_aload_n (n := 36) (show xlook 215 35 = some (35, .aload_n 0, 1, 0, 0, 0, 0) from xlk (by decide +kernel)) rfl rfl ?_
    refine xw_sipush (n := 39) (show xlook 215 36 = some (36, .sipush 132, 3, 0, 0, 0, 0) from xlk (by decide +kernel)) rfl (by decide) ?_
    refine xw_iload_n (n := 40) (show xlook 215 39 = some (39, .iload_n 1, 1, 0, 0, 0, 0) from xlk (by decide +kernel)) rfl rfl ?_
    obtain ⟨j1, hj1, rr1, G1, hm1, hG1, t⟩ := t
    obtain ⟨y1, rfl, t⟩ := t
    refine xw_callv (dk := j1) (o := 131) (as := [vi (132), vi (x1)]) (show xlook 215 40 = some (40, .invokevirtual 212, 3, 173, 3, 0, 181) from xlk (by decide +kernel)) (by decide) hj1 ⟨Nat.le_of_ble_eq_true rfl, Nat.le_of_ble_eq_true rfl, Nat.le_of_ble_eq_true rfl⟩ ⟨xob_12.1, xob_12.2, by decide⟩ rfl hm1 (n := 43) rfl ?_
    show xW X d 215 43 [.ref (131), vi (x1), vi (x2), vi (x3), vi (x4)] [vi (y1)] G1 (xqi Q)
    refine xw_iconst (n := 44) (show xlook 215 43 = some (43, .iconst (-1), 1, 0, 0, 0, 0) from xlk (by decide +kernel)) rfl ?_
    obtain ⟨q0, t⟩ := t
    refine xw_icmp_ne (n := 47) (m := 51) (show xlook 215 44 = some (44, .if_icmp .ne 7, 3, 51, 0, 0, 0) from xlk (by decide +kernel)) rfl rfl q0 ⟨by decide, by decide⟩ ⟨fun c => ?_, fun c => ?_⟩
    · replace t := t.1 c
      refine xw_iload_n (n := 52) (show xlook 215 51 = some (51, .iload_n 3, 1, 0, 0, 0, 0) from xlk (by decide +kernel)) rfl rfl ?_
      refine xw_iconst (n := 53) (show xlook 215 52 = some (52, .iconst 1, 1, 0, 0, 0, 0) from xlk (by decide +kernel)) rfl ?_
      refine xw_iadd (n := 54) (show xlook 215 53 = some (53, .iadd, 1, 0, 0, 0, 0) from xlk (by decide +kernel)) rfl ?_
      refine xw_istore_n (n := 55) (show xlook 215 54 = some (54, .istore_n 3, 1, 0, 0, 0, 0) from xlk (by decide +kernel)) rfl (ls' := [.ref (131), vi (x1), vi (x2), vi ((x3) + (1)), vi (x4)]) (Nat.le_of_ble_eq_true rfl) rfl ?_
      refine xw_aload_n (n := 56) (show xlook 215 55 = some (55, .aload_n 0, 1, 0, 0, 0, 0) from xlk (by decide +kernel)) rfl rfl ?_
      obtain ⟨j2, hj2, rr2, G2, hm2, hG2, t⟩ := t
      obtain ⟨y2, rfl, t⟩ := t
      refine xw_callv (dk := j2) (o := 131) (as := []) (show xlook 215 56 = some (56, .invokevirtual 268, 3, 196, 1, 0, 195) from xlk (by decide +kernel)) (by decide) hj2 ⟨Nat.le_of_ble_eq_true rfl, Nat.le_of_ble_eq_true rfl, Nat.le_of_ble_eq_true rfl⟩ ⟨xob_12.1, xob_12.2, by decide⟩ rfl hm2 (n := 59) rfl ?_
      show xW X d 215 59 [.ref (131), vi (x1), vi (x2), vi ((x3) + (1)), vi (x4)] [vi (y2)] G2 (xqi Q)
      refine xw_istore (n := 61) (show xlook 215 59 = some (59, .istore 4, 2, 0, 0, 0, 0) from xlk (by decide +kernel)) rfl (ls' := [.ref (131), vi (x1), vi (x2), vi ((x3) + (1)), vi (y2)]) (Nat.le_of_ble_eq_true rfl) rfl ?_
      refine xw_iload (n := 63) (show xlook 215 61 = some (61, .iload 4, 2, 0, 0, 0, 0) from xlk (by decide +kernel)) rfl rfl ?_
      obtain ⟨q0, t⟩ := t
      refine xw_if_eq (n := 66) (m := 75) (show xlook 215 63 = some (63, .ifCond .eq 12, 3, 75, 0, 0, 0) from xlk (by decide +kernel)) rfl rfl q0 ⟨fun c => ?_, fun c => ?_⟩
      · replace t := t.1 c
        refine xw_iload_n (n := 76) (show xlook 215 75 = some (75, .iload_n 2, 1, 0, 0, 0, 0) from xlk (by decide +kernel)) rfl rfl ?_
        refine xw_istore_n (n := 77) (show xlook 215 76 = some (76, .istore_n 2, 1, 0, 0, 0, 0) from xlk (by decide +kernel)) rfl (ls' := [.ref (131), vi (x1), vi (x2), vi ((x3) + (1)), vi (y2)]) (Nat.le_of_ble_eq_true rfl) rfl ?_
        refine xw_goto (m := 30) (show xlook 215 77 = some (77, .goto (-47), 3, 30, 0, 0, 0) from xlk (by decide +kernel)) rfl ?_
        exact t hG2
      · replace t := t.2 c
        refine xw_iload_n (n := 67) (show xlook 215 66 = some (66, .iload_n 3, 1, 0, 0, 0, 0) from xlk (by decide +kernel)) rfl rfl ?_
        refine xw_iload_n (n := 68) (show xlook 215 67 = some (67, .iload_n 2, 1, 0, 0, 0, 0) from xlk (by decide +kernel)) rfl rfl ?_
        obtain ⟨q0, q1, t⟩ := t
        refine xw_icmp_le (n := 71) (m := 75) (show xlook 215 68 = some (68, .if_icmp .le 7, 3, 75, 0, 0, 0) from xlk (by decide +kernel)) rfl rfl q0 q1 ⟨fun c => ?_, fun c => ?_⟩
        · replace t := t.1 c
          refine xw_iload_n (n := 76) (show xlook 215 75 = some (75, .iload_n 2, 1, 0, 0, 0, 0) from xlk (by decide +kernel)) rfl rfl ?_
          refine xw_istore_n (n := 77) (show xlook 215 76 = some (76, .istore_n 2, 1, 0, 0, 0, 0) from xlk (by decide +kernel)) rfl (ls' := [.ref (131), vi (x1), vi (x2), vi ((x3) + (1)), vi (y2)]) (Nat.le_of_ble_eq_true rfl) rfl ?_
          refine xw_goto (m := 30) (show xlook 215 77 = some (77, .goto (-47), 3, 30, 0, 0, 0) from xlk (by decide +kernel)) rfl ?_
          exact t hG2
        · replace t := t.2 c
          refine xw_iload_n (n := 72) (show xlook 215 71 = some (71, .iload_n 3, 1, 0, 0, 0, 0) from xlk (by decide +kernel)) rfl rfl ?_
          refine xw_goto (m := 76) (show xlook 215 72 = some (72, .goto 4, 3, 76, 0, 0, 0) from xlk (by decide +kernel)) rfl ?_
          refine xw_istore_n (n := 77) (show xlook 215 76 = some (76, .istore_n 2, 1, 0, 0, 0, 0) from xlk (by decide +kernel)) rfl (ls' := [.ref (131), vi (x1), vi ((x3) + (1)), vi ((x3) + (1)), vi (y2)]) (Nat.le_of_ble_eq_true rfl) rfl ?_
          refine xw_goto (m := 30) (show xlook 215 77 = some (77, .goto (-47), 3, 30, 0, 0, 0) from xlk (by decide +kernel)) rfl ?_
          exact t hG2
    · replace t := t.2 c
      refine xw_iconst (n := 48) (show xlook 215 47 = some (47, .iconst 0, 1, 0, 0, 0, 0) from xlk (by decide +kernel)) rfl ?_
      refine xw_goto (m := 54) (show xlook 215 48 = some (48, .goto 6, 3, 54, 0, 0, 0) from xlk (by decide +kernel)) rfl ?_
      refine xw_istore_n (n := 55) (show xlook 215 54 = some (54, .istore_n 3, 1, 0, 0, 0, 0) from xlk (by decide +kernel)) rfl (ls' := [.ref (131), vi (x1), vi (x2), vi (0), vi (x4)]) (Nat.le_of_ble_eq_true rfl) rfl ?_
      refine xw_aload_n (n := 56) (show xlook 215 55 = some (55, .aload_n 0, 1, 0, 0, 0, 0) from xlk (by decide +kernel)) rfl rfl ?_
      obtain ⟨j3, hj3, rr3, G3, hm3, hG3, t⟩ := t
      obtain ⟨y3, rfl, t⟩ := t
      refine xw_callv (dk := j3) (o := 131) (as := []) (show xlook 215 56 = some (56, .invokevirtual 268, 3, 196, 1, 0, 195) from xlk (by decide +kernel)) (by decide) hj3 ⟨Nat.le_of_ble_eq_true rfl, Nat.le_of_ble_eq_true rfl, Nat.le_of_ble_eq_true rfl⟩ ⟨xob_12.1, xob_12.2, by decide⟩ rfl hm3 (n := 59) rfl ?_
      show xW X d 215 59 [.ref (131), vi (x1), vi (x2), vi (0), vi (x4)] [vi (y3)] G3 (xqi Q)
      refine xw_istore (n := 61) (show xlook 215 59 = some (59, .istore 4, 2, 0, 0, 0, 0) from xlk (by decide +kernel)) rfl (ls' := [.ref (131), vi (x1), vi (x2), vi (0), vi (y3)]) (Nat.le_of_ble_eq_true rfl) rfl ?_
      refine xw_iload (n := 63) (show xlook 215 61 = some (61, .iload 4, 2, 0, 0, 0, 0) from xlk (by decide +kernel)) rfl rfl ?_
      obtain ⟨q0, t⟩ := t
      refine xw_if_eq (n := 66) (m := 75) (show xlook 215 63 = some (63, .ifCond .eq 12, 3, 75, 0, 0, 0) from xlk (by decide +kernel)) rfl rfl q0 ⟨fun c => ?_, fun c => ?_⟩
      · replace t := t.1 c
        refine xw_iload_n (n := 76) (show xlook 215 75 = some (75, .iload_n 2, 1, 0, 0, 0, 0) from xlk (by decide +kernel)) rfl rfl ?_
        refine xw_istore_n (n := 77) (show xlook 215 76 = some (76, .istore_n 2, 1, 0, 0, 0, 0) from xlk (by decide +kernel)) rfl (ls' := [.ref (131), vi (x1), vi (x2), vi (0), vi (y3)]) (Nat.le_of_ble_eq_true rfl) rfl ?_
        refine xw_goto (m := 30) (show xlook 215 77 = some (77, .goto (-47), 3, 30, 0, 0, 0) from xlk (by decide +kernel)) rfl ?_
        exact t hG3
      · replace t := t.2 c
        refine xw_iload_n (n := 67) (show xlook 215 66 = some (66, .iload_n 3, 1, 0, 0, 0, 0) from xlk (by decide +kernel)) rfl rfl ?_
        refine xw_iload_n (n := 68) (show xlook 215 67 = some (67, .iload_n 2, 1, 0, 0, 0, 0) from xlk (by decide +kernel)) rfl rfl ?_
        obtain ⟨q1, t⟩ := t
        refine xw_icmp_le (n := 71) (m := 75) (show xlook 215 68 = some (68, .if_icmp .le 7, 3, 75, 0, 0, 0) from xlk (by decide +kernel)) rfl rfl ⟨by decide, by decide⟩ q1 ⟨fun c => ?_, fun c => ?_⟩
        · replace t := t.1 c
          refine xw_iload_n (n := 76) (show xlook 215 75 = some (75, .iload_n 2, 1, 0, 0, 0, 0) from xlk (by decide +kernel)) rfl rfl ?_
          refine xw_istore_n (n := 77) (show xlook 215 76 = some (76, .istore_n 2, 1, 0, 0, 0, 0) from xlk (by decide +kernel)) rfl (ls' := [.ref (131), vi (x1), vi (x2), vi (0), vi (y3)]) (Nat.le_of_ble_eq_true rfl) rfl ?_
          refine xw_goto (m := 30) (show xlook 215 77 = some (77, .goto (-47), 3, 30, 0, 0, 0) from xlk (by decide +kernel)) rfl ?_
          exact t hG3
        · replace t := t.2 c
          refine xw_iload_n (n := 72) (show xlook 215 71 = some (71, .iload_n 3, 1, 0, 0, 0, 0) from xlk (by decide +kernel)) rfl rfl ?_
          refine xw_goto (m := 76) (show xlook 215 72 = some (72, .goto 4, 3, 76, 0, 0, 0) from xlk (by decide +kernel)) rfl ?_
          refine xw_istore_n (n := 77) (show xlook 215 76 = some (76, .istore_n 2, 1, 0, 0, 0, 0) from xlk (by decide +kernel)) rfl (ls' := [.ref (131), vi (x1), vi (0), vi (0), vi (y3)]) (Nat.le_of_ble_eq_true rfl) rfl ?_
          refine xw_goto (m := 30) (show xlook 215 77 = some (77, .goto (-47), 3, 30, 0, 0, 0) from xlk (by decide +kernel)) rfl ?_
          exact t hG3

theorem s216_0 {X : List Int32} {d : Nat} {F : XF} {Q : Int → XF → Prop} {x1 : Int} {x2 : Int} {w3 : Value} {w4 : Value} (hPT : xPT F)  (t : xPT (F) → xW X d 216 2 [.ref (131), vi (x1), vi (x2), vi (0), w4] [] (F) (xqi Q)) : xW X d 216 0 [.ref (131), vi (x1), vi (x2), w3, w4] [] F (xqi Q) := by
  refine xw_iconst (n := 1) (show xlook 216 0 = some (0, .iconst 0, 1, 0, 0, 0, 0) from xlk (by decide +kernel)) rfl ?_
  refine xw_istore_n (n := 2) (show xlook 216 1 = some (1, .istore_n 3, 1, 0, 0, 0, 0) from xlk (by decide +kernel)) rfl (ls' := [.ref (131), vi (x1), vi (x2), vi (0), w4]) (Nat.le_of_ble_eq_true rfl) rfl ?_
  exact t hPT
theorem m216 {X : List Int32} {d : Nat} {F : XF} {Q : Int → XF → Prop} {x1 : Int} {x2 : Int} (hPT : xPT F)  (t : xPT (F) → xW X d 216 2 [.ref (131), vi (x1), vi (x2), vi (0), xU0] [] (F) (xqi Q)) : xMI X d 216 [.ref (131), vi (x1), vi (x2)] F Q := by
  show xW X d 216 0 [.ref (131), vi (x1), vi (x2), xU0, xU0] [] F (xqi Q)
  exact s216_0 hPT  t

theorem s216_2 {X : List Int32} {d : Nat} {F : XF} {Q : Int → XF → Prop} {x1 : Int} {x2 : Int} {x3 : Int} {w4 : Value} (hPT : xPT F)  (t : inR (x3) ∧ inR ((F) (132) 4) ∧ (((((F) (132) 4) ≤ (x3)) → (xPT (F) → Q (0) (F))) ∧ (¬ (((F) (132) 4) ≤ (x3)) → ((0 ≤ (x3) ∧ (x3) < 10) ∧ (inR ((F) (143) (x3)) ∧ (((((F) (143) (x3)) = ((-1))) → (xPT (F) → xW X d 216 2 [.ref (131), vi (x1), vi (x2), vi (x3 + 1), w4] [] (F) (xqi Q))) ∧ (¬ (((F) (143) (x3)) = ((-1))) → (inR (xand (xshr ((F) (131) 27) (x3)) (1)) ∧ (((¬ (xand (xshr ((F) (131) 27) (x3)) (1)) = (1)) → (∃ (j1 : Nat), j1 < d ∧ xMI X j1 164 [.ref (131), vi (x1)] (F) (fun (y1 : Int) (G1 : XF) => (∃ (j2 : Nat), j2 < d ∧ xMI X j2 164 [.ref (131), vi (x3)] (G1) (fun (y2 : Int) (G2 : XF) => (inR (y1) ∧ inR (y2) ∧ ((((y1) ≤ (y2)) → (∃ (j3 : Nat), j3 < d ∧ xMI X j3 164 [.ref (131), vi (x3)] (G2) (fun (y3 : Int) (G3 : XF) => (∃ (j4 : Nat), j4 < d ∧ xMI X j4 164 [.ref (131), vi (x1)] (G3) (fun (y4 : Int) (G4 : XF) => ((0 ≤ (x3) ∧ (x3) < 10) ∧ ((0 ≤ (x1) ∧ (x1) < 10) ∧ (inR ((y3) - (y4)) ∧ inR (((((G4) (143) (x3)) - ((G4) (144) (x1))) - (1)) * (x2)) ∧ (((((y3) - (y4)) ≤ (((((G4) (143) (x3)) - ((G4) (144) (x1))) - (1)) * (x2))) → ((0 ≤ (x3) ∧ (x3) < 10) ∧ (inR ((G4) (145) (x3)) ∧ (((((G4) (145) (x3)) = ((-1))) → ((0 ≤ (x3) ∧ (x3) < 10) ∧ (xPT (xup (xup (G4) (131) 27 (xior ((G4) (131) 27) (xshl (1) (x3)))) (145) (x3) (x1)) → Q (1) (xup (xup (G4) (131) 27 (xior ((G4) (131) 27) (xshl (1) (x3)))) (145) (x3) (x1))))) ∧ (¬ (((G4) (145) (x3)) = ((-1))) → ((0 ≤ (x3) ∧ (x3) < 10) ∧ (∃ (j5 : Nat), j5 < d ∧ xMI X j5 216 [.ref (131), vi ((G4) (145) (x3)), vi (x2)] (xup (G4) (131) 27 (xior ((G4) (131) 27) (xshl (1) (x3)))) (fun (y5 : Int) (G5 : XF) => (inR (y5) ∧ ((((y5) = (0)) → (xPT (G5) → xW X d 216 2 [.ref (131), vi (x1), vi (x2), vi (x3 + 1), vi ((y3) - (y4))] [] (G5) (xqi Q))) ∧ (¬ ((y5) = (0)) → ((0 ≤ (x3) ∧ (x3) < 10) ∧ (xPT (xup (G5) (145) (x3) (x1)) → Q (1) (xup (G5) (145) (x3) (x1))))))))))))))) ∧ (¬ (((y3) - (y4)) ≤ (((((G4) (143) (x3)) - ((G4) (144) (x1))) - (1)) * (x2))) → (xPT (G4) → xW X d 216 2 [.ref (131), vi (x1), vi (x2), vi (x3 + 1), vi ((y3) - (y4))] [] (G4) (xqi Q)))))))))))) ∧ (¬ ((y1) ≤ (y2)) → (∃ (j6 : Nat), j6 < d ∧ xMI X j6 164 [.ref (131), vi (x1)] (G2) (fun (y6 : Int) (G6 : XF) => (∃ (j7 : Nat), j7 < d ∧ xMI X j7 164 [.ref (131), vi (x3)] (G6) (fun (y7 : Int) (G7 : XF) => ((0 ≤ (x3) ∧ (x3) < 10) ∧ ((0 ≤ (x1) ∧ (x1) < 10) ∧ (inR ((y6) - (y7)) ∧ inR (((((G7) (143) (x3)) - ((G7) (144) (x1))) - (1)) * (x2)) ∧ (((((y6) - (y7)) ≤ (((((G7) (143) (x3)) - ((G7) (144) (x1))) - (1)) * (x2))) → ((0 ≤ (x3) ∧ (x3) < 10) ∧ (inR ((G7) (145) (x3)) ∧ (((((G7) (145) (x3)) = ((-1))) → ((0 ≤ (x3) ∧ (x3) < 10) ∧ (xPT (xup (xup (G7) (131) 27 (xior ((G7) (131) 27) (xshl (1) (x3)))) (145) (x3) (x1)) → Q (1) (xup (xup (G7) (131) 27 (xior ((G7) (131) 27) (xshl (1) (x3)))) (145) (x3) (x1))))) ∧ (¬ (((G7) (145) (x3)) = ((-1))) → ((0 ≤ (x3) ∧ (x3) < 10) ∧ (∃ (j8 : Nat), j8 < d ∧ xMI X j8 216 [.ref (131), vi ((G7) (145) (x3)), vi (x2)] (xup (G7) (131) 27 (xior ((G7) (131) 27) (xshl (1) (x3)))) (fun (y8 : Int) (G8 : XF) => (inR (y8) ∧ ((((y8) = (0)) → (xPT (G8) → xW X d 216 2 [.ref (131), vi (x1), vi (x2), vi (x3 + 1), vi ((y6) - (y7))] [] (G8) (xqi Q))) ∧ (¬ ((y8) = (0)) → ((0 ≤ (x3) ∧ (x3) < 10) ∧ (xPT (xup (G8) (145) (x3) (x1)) → Q (1) (xup (G8) (145) (x3) (x1))))))))))))))) ∧ (¬ (((y6) - (y7)) ≤ (((((G7) (143) (x3)) - ((G7) (144) (x1))) - (1)) * (x2))) → (xPT (G7) → xW X d 216 2 [.ref (131), vi (x1), vi (x2), vi (x3 + 1), vi ((y6) - (y7))] [] (G7) (xqi Q))))))))))))))))))) ∧ (¬ (¬ (xand (xshr ((F) (131) 27) (x3)) (1)) = (1)) → (xPT (F) → xW X d 216 2 [.ref (131), vi (x1), vi (x2), vi (x3 + 1), w4] [] (F) (xqi Q)))))))))))) : xW X d 216 2 [.ref (131), vi (x1), vi (x2), vi (x3), w4] [] F (xqi Q) := by
  refine xw_iload_n (n := 3) (show xlook 216 2 = some (2, .iload_n 3, 1, 0, 0, 0, 0) from xlk (by decide +kernel)) rfl rfl ?_
  refine xw_aload_n (n := 4) (show xlook 216 3 = some (3, .aload_n 0, 1, 0, 0, 0, 0) from xlk (by decide +kernel)) rfl rfl ?_
  refine xw_getr (q := 132) (show xlook 216 4 = some (4, .getfield 13, 3, 12, 1, 0, 220) from xlk (by decide +kernel)) (by decide) (xobf xob_12 (by decide) (by decide)) rfl (xPT_get (k := 1) (f := 1) hPT xob_12 (by decide)) (by have := (xtg_12_1 _ xob_12.1 xob_12.2).1.1; omega) (n := 7) rfl ?_
  refine xw_iconst (n := 8) (show xlook 216 7 = some (7, .iconst 4, 1, 0, 0, 0, 0) from xlk (by decide +kernel)) rfl ?_
  refine xw_iald (show xlook 216 8 = some (8, .iaload, 1, 0, 0, 0, 0) from xlk (by decide +kernel)) (xtg_12_1 _ xob_12.1 xob_12.2).1 (by rw [(xtg_12_1 _ xob_12.1 xob_12.2).2]; decide) (n := 9) rfl ?_
  obtain ⟨q0, q1, t⟩ := t
  refine xw_icmp_ge (n := 12) (m := 153) (show xlook 216 9 = some (9, .if_icmp .ge 144, 3, 153, 0, 0, 0) from xlk (by decide +kernel)) rfl rfl q0 q1 ⟨fun c => ?_, fun c => ?_⟩
  · replace t := t.1 c
    refine xw_iconst (n := 154) (show xlook 216 153 = some (153, .iconst 0, 1, 0, 0, 0, 0) from xlk (by decide +kernel)) rfl ?_
    exact xw_zreturn hPT (show xlook 216 154 = some (154, .ireturn, 1, 0, 0, 0, 0) from xlk (by decide +kernel)) rfl (by decide) (t hPT)
  · replace t := t.2 c
    refine xw_aload_n (n := 13) (show xlook 216 12 = some (12, .aload_n 0, 1, 0, 0, 0, 0) from xlk (by decide +kernel)) rfl rfl ?_
    refine xw_getr (q := 143) (show xlook 216 13 = some (13, .getfield 51, 3, 12, 24, 0, 232) from xlk (by decide +kernel)) (by decide) (xobf xob_12 (by decide) (by decide)) rfl (xPT_get (k := 24) (f := 12) hPT xob_12 (by decide)) (by have := (xtg_12_24 _ xob_12.1 xob_12.2).1.1; omega) (n := 16) rfl ?_
    refine xw_iload_n (n := 17) (show xlook 216 16 = some (16, .iload_n 3, 1, 0, 0, 0, 0) from xlk (by decide +kernel)) rfl rfl ?_
    obtain ⟨q1, t⟩ := t
    refine xw_iald (show xlook 216 17 = some (17, .iaload, 1, 0, 0, 0, 0) from xlk (by decide +kernel)) (xtg_12_24 _ xob_12.1 xob_12.2).1 (by rw [(xtg_12_24 _ xob_12.1 xob_12.2).2]; exact q1) (n := 18) rfl ?_
    refine xw_iconst (n := 19) (show xlook 216 18 = some (18, .iconst (-1), 1, 0, 0, 0, 0) from xlk (by decide +kernel)) rfl ?_
    obtain ⟨q0, t⟩ := t
    refine xw_icmp_eq (n := 22) (m := 147) (show xlook 216 19 = some (19, .if_icmp .eq 128, 3, 147, 0, 0, 0) from xlk (by decide +kernel)) rfl rfl q0 ⟨by decide, by decide⟩ ⟨fun c => ?_, fun c => ?_⟩
    · replace t := t.1 c
      refine xw_iinc (n := 150) (show xlook 216 147 = some (147, .iinc 3 1, 3, 0, 0, 0, 0) from xlk (by decide +kernel)) rfl (ls' := [.ref (131), vi (x1), vi (x2), vi (x3 + 1), w4]) rfl rfl ?_
      refine xw_goto (m := 2) (show xlook 216 150 = some (150, .goto (-148), 3, 2, 0, 0, 0) from xlk (by decide +kernel)) rfl ?_
      exact t hPT
    · replace t := t.2 c
      refine xw_aload_n (n := 23) (show xlook 216 22 = some (22, .aload_n 0, 1, 0, 0, 0, 0) from xlk (by decide +kernel)) rfl rfl ?_
      refine xw_geti (show xlook 216 23 = some (23, .getfield 305, 3, 12, 27, 0, 247) from xlk (by decide +kernel)) (by decide) (xobf xob_12 (by decide) (by decide)) rfl (n := 26) rfl ?_
      refine xw_iload_n (n := 27) (show xlook 216 26 = some (26, .iload_n 3, 1, 0, 0, 0, 0) from xlk (by decide +kernel)) rfl rfl ?_
      refine xw_ishr (n := 28) (show xlook 216 27 = some (27, .ishr, 1, 0, 0, 0, 0) from xlk (by decide +kernel)) rfl ?_
      refine xw_iconst (n := 29) (show xlook 216 28 = some (28, .iconst 1, 1, 0, 0, 0, 0) from xlk (by decide +kernel)) rfl ?_
      refine xw_iand (n := 30) (show xlook 216 29 = some (29, .iand, 1, 0, 0, 0, 0) from xlk (by decide +kernel)) rfl ?_
      refine xw_iconst (n := 31) (show xlook 216 30 = some (30, .iconst 1, 1, 0, 0, 0, 0) from xlk (by decide +kernel)) rfl ?_
      obtain ⟨q0, t⟩ := t
      refine xw_icmp_ne (n := 34) (m := 37) (show xlook 216 31 = some (31, .if_icmp .ne 6, 3, 37, 0, 0, 0) from xlk (by decide +kernel)) rfl rfl q0 ⟨by decide, by decide⟩ ⟨fun c => ?_, fun c => ?_⟩
      · replace t := t.1 c
        refine xw_aload_n (n := 38) (show xlook 216 37 = some (37, .aload_n 0, 1, 0, 0, 0, 0) from xlk (by decide +kernel)) rfl rfl ?_
        refine xw_iload_n (n := 39) (show xlook 216 38 = some (38, .iload_n 1, 1, 0, 0, 0, 0) from xlk (by decide +kernel)) rfl rfl ?_
        obtain ⟨j1, hj1, rr1, G1, hm1, hG1, t⟩ := t
        obtain ⟨y1, rfl, t⟩ := t
        refine xw_callv (dk := j1) (o := 131) (as := [vi (x1)]) (show xlook 216 39 = some (39, .invokevirtual 209, 3, 164, 2, 0, 180) from xlk (by decide +kernel)) (by decide) hj1 ⟨Nat.le_of_ble_eq_true rfl, Nat.le_of_ble_eq_true rfl, Nat.le_of_ble_eq_true rfl⟩ ⟨xob_12.1, xob_12.2, by decide⟩ rfl hm1 (n := 42) rfl ?_
        show xW X d 216 42 [.ref (131), vi (x1), vi (x2), vi (x3), w4] [vi (y1)] G1 (xqi Q)
        refine xw_aload_n (n := 43) (show xlook 216 42 = some (42, .aload_n 0, 1, 0, 0, 0, 0) from xlk (by decide +kernel)) rfl rfl ?_
        refine xw_iload_n (n := 44) (show xlook 216 43 = some (43, .iload_n 3, 1, 0, 0, 0, 0) from xlk (by decide +kernel)) rfl rfl ?_
        obtain ⟨j2, hj2, rr2, G2, hm2, hG2, t⟩ := t
        obtain ⟨y2, rfl, t⟩ := t
        refine xw_callv (dk := j2) (o := 131) (as := [vi (x3)]) (show xlook 216 44 = some (44, .invokevirtual 209, 3, 164, 2, 0, 180) from xlk (by decide +kernel)) (by decide) hj2 ⟨Nat.le_of_ble_eq_true rfl, Nat.le_of_ble_eq_true rfl, Nat.le_of_ble_eq_true rfl⟩ ⟨xob_12.1, xob_12.2, by decide⟩ rfl hm2 (n := 47) rfl ?_
        show xW X d 216 47 [.ref (131), vi (x1), vi (x2), vi (x3), w4] [vi (y2), vi (y1)] G2 (xqi Q)
        obtain ⟨q0, q1, t⟩ := t
        refine xw_icmp_le (n := 50) (m := 64) (show xlook 216 47 = some (47, .if_icmp .le 17, 3, 64, 0, 0, 0) from xlk (by decide +kernel)) rfl rfl q0 q1 ⟨fun c => ?_, fun c => ?_⟩
        · replace t := t.1 c
          refine xw_aload_n (n := 65) (show xlook 216 64 = some (64, .aload_n 0, 1, 0, 0, 0, 0) from xlk (by decide +kernel)) rfl rfl ?_
          refine xw_iload_n (n := 66) (show xlook 216 65 = some (65, .iload_n 3, 1, 0, 0, 0, 0) from xlk (by decide +kernel)) rfl rfl ?_
          obtain ⟨j3, hj3, rr3, G3, hm3, hG3, t⟩ := t
          obtain ⟨y3, rfl, t⟩ := t
          refine xw_callv (dk := j3) (o := 131) (as := [vi (x3)]) (show xlook 216 66 = some (66, .invokevirtual 209, 3, 164, 2, 0, 180) from xlk (by decide +kernel)) (by decide) hj3 ⟨Nat.le_of_ble_eq_true rfl, Nat.le_of_ble_eq_true rfl, Nat.le_of_ble_eq_true rfl⟩ ⟨xob_12.1, xob_12.2, by decide⟩ rfl hm3 (n := 69) rfl ?_
          show xW X d 216 69 [.ref (131), vi (x1), vi (x2), vi (x3), w4] [vi (y3)] G3 (xqi Q)
          refine xw_aload_n (n := 70) (show xlook 216 69 = some (69, .aload_n 0, 1, 0, 0, 0, 0) from xlk (by decide +kernel)) rfl rfl ?_
          refine xw_iload_n (n := 71) (show xlook 216 70 = some (70, .iload_n 1, 1, 0, 0, 0, 0) from xlk (by decide +kernel)) rfl rfl ?_
          obtain ⟨j4, hj4, rr4, G4, hm4, hG4, t⟩ := t
          obtain ⟨y4, rfl, t⟩ := t
          refine xw_callv (dk := j4) (o := 131) (as := [vi (x1)]) (show xlook 216 71 = some (71, .invokevirtual 209, 3, 164, 2, 0, 180) from xlk (by decide +kernel)) (by decide) hj4 ⟨Nat.le_of_ble_eq_true rfl, Nat.le_of_ble_eq_true rfl, Nat.le_of_ble_eq_true rfl⟩ ⟨xob_12.1, xob_12.2, by decide⟩ rfl hm4 (n := 74) rfl ?_
          show xW X d 216 74 [.ref (131), vi (x1), vi (x2), vi (x3), w4] [vi (y4), vi (y3)] G4 (xqi Q)
          refine xw_isub (n := 75) (show xlook 216 74 = some (74, .isub, 1, 0, 0, 0, 0) from xlk (by decide +kernel)) rfl ?_
          refine xw_istore (n := 77) (show xlook 216 75 = some (75, .istore 4, 2, 0, 0, 0, 0) from xlk (by decide +kernel)) rfl (ls' := [.ref (131), vi (x1), vi (x2), vi (x3), vi ((y3) - (y4))]) (Nat.le_of_ble_eq_true rfl) rfl ?_
          refine xw_iload (n := 79) (show xlook 216 77 = some (77, .iload 4, 2, 0, 0, 0, 0) from xlk (by decide +kernel)) rfl rfl ?_
          refine xw_aload_n (n := 80) (show xlook 216 79 = some (79, .aload_n 0, 1, 0, 0, 0, 0) from xlk (by decide +kernel)) rfl rfl ?_
          refine xw_getr (q := 143) (show xlook 216 80 = some (80, .getfield 51, 3, 12, 24, 0, 232) from xlk (by decide +kernel)) (by decide) (xobf xob_12 (by decide) (by decide)) rfl (xPT_get (k := 24) (f := 12) hG4 xob_12 (by decide)) (by have := (xtg_12_24 _ xob_12.1 xob_12.2).1.1; omega) (n := 83) rfl ?_
          refine xw_iload_n (n := 84) (show xlook 216 83 = some (83, .iload_n 3, 1, 0, 0, 0, 0) from xlk (by decide +kernel)) rfl rfl ?_
          obtain ⟨q1, t⟩ := t
          refine xw_iald (show xlook 216 84 = some (84, .iaload, 1, 0, 0, 0, 0) from xlk (by decide +kernel)) (xtg_12_24 _ xob_12.1 xob_12.2).1 (by rw [(xtg_12_24 _ xob_12.1 xob_12.2).2]; exact q1) (n := 85) rfl ?_
          refine xw_aload_n (n := 86) (show xlook 216 85 = some (85, .aload_n 0, 1, 0, 0, 0, 0) from xlk (by decide +kernel)) rfl rfl ?_
          refine xw_getr (q := 144) (show xlook 216 86 = some (86, .getfield 54, 3, 12, 25, 0, 233) from xlk (by decide +kernel)) (by decide) (xobf xob_12 (by decide) (by decide)) rfl (xPT_get (k := 25) (f := 13) hG4 xob_12 (by decide)) (by have := (xtg_12_25 _ xob_12.1 xob_12.2).1.1; omega) (n := 89) rfl ?_
          refine xw_iload_n (n := 90) (show xlook 216 89 = some (89, .iload_n 1, 1, 0, 0, 0, 0) from xlk (by decide +kernel)) rfl rfl ?_
          obtain ⟨q1, t⟩ := t
          refine xw_iald (show xlook 216 90 = some (90, .iaload, 1, 0, 0, 0, 0) from xlk (by decide +kernel)) (xtg_12_25 _ xob_12.1 xob_12.2).1 (by rw [(xtg_12_25 _ xob_12.1 xob_12.2).2]; exact q1) (n := 91) rfl ?_
          refine xw_isub (n := 92) (show xlook 216 91 = some (91, .isub, 1, 0, 0, 0, 0) from xlk (by decide +kernel)) rfl ?_
          refine xw_iconst (n := 93) (show xlook 216 92 = some (92, .iconst 1, 1, 0, 0, 0, 0) from xlk (by decide +kernel)) rfl ?_
          refine xw_isub (n := 94) (show xlook 216 93 = some (93, .isub, 1, 0, 0, 0, 0) from xlk (by decide +kernel)) rfl ?_
          refine xw_iload_n (n := 95) (show xlook 216 94 = some (94, .iload_n 2, 1, 0, 0, 0, 0) from xlk (by decide +kernel)) rfl rfl ?_
          refine xw_imul (n := 96) (show xlook 216 95 = some (95, .imul, 1, 0, 0, 0, 0) from xlk (by decide +kernel)) rfl ?_
          obtain ⟨q0, q1, t⟩ := t
          refine xw_icmp_le (n := 99) (m := 102) (show xlook 216 96 = some (96, .if_icmp .le 6, 3, 102, 0, 0, 0) from xlk (by decide +kernel)) rfl rfl q0 q1 ⟨fun c => ?_, fun c => ?_⟩
          · replace t := t.1 c
            refine xw_aload_n (n := 103) (show xlook 216 102 = some (102, .aload_n 0, 1, 0, 0, 0, 0) from xlk (by decide +kernel)) rfl rfl ?_
            refine xw_dupr (n := 104) (show xlook 216 103 = some (103, .dup, 1, 0, 0, 0, 0) from xlk (by decide +kernel)) rfl ?_
            refine xw_geti (show xlook 216 104 = some (104, .getfield 305, 3, 12, 27, 0, 247) from xlk (by decide +kernel)) (by decide) (xobf xob_12 (by decide) (by decide)) rfl (n := 107) rfl ?_
            refine xw_iconst (n := 108) (show xlook 216 107 = some (107, .iconst 1, 1, 0, 0, 0, 0) from xlk (by decide +kernel)) rfl ?_
            refine xw_iload_n (n := 109) (show xlook 216 108 = some (108, .iload_n 3, 1, 0, 0, 0, 0) from xlk (by decide +kernel)) rfl rfl ?_
            refine xw_ishl (n := 110) (show xlook 216 109 = some (109, .ishl, 1, 0, 0, 0, 0) from xlk (by decide +kernel)) rfl ?_
            refine xw_ior (n := 111) (show xlook 216 110 = some (110, .ior, 1, 0, 0, 0, 0) from xlk (by decide +kernel)) rfl ?_
            refine xw_puti (show xlook 216 111 = some (111, .putfield 305, 3, 12, 27, 0, 247) from xlk (by decide +kernel)) (xobf xob_12 (by decide) (by decide)) rfl (n := 114) rfl ?_
            refine xw_aload_n (n := 115) (show xlook 216 114 = some (114, .aload_n 0, 1, 0, 0, 0, 0) from xlk (by decide +kernel)) rfl rfl ?_
            refine xw_getr (q := 145) (show xlook 216 115 = some (115, .getfield 57, 3, 12, 26, 0, 234) from xlk (by decide +kernel)) (by decide) (xobf xob_12 (by decide) (by decide)) rfl (xPT_get (k := 26) (f := 14) (xPT_fld (k := 27) hG4 xob_12 (by decide) (by decide)) xob_12 (by decide)) (by have := (xtg_12_26 _ xob_12.1 xob_12.2).1.1; omega) (n := 118) rfl ?_
            refine xw_iload_n (n := 119) (show xlook 216 118 = some (118, .iload_n 3, 1, 0, 0, 0, 0) from xlk (by decide +kernel)) rfl rfl ?_
            obtain ⟨q1, t⟩ := t
            refine xw_iald2 (u := (G4) (145) (x3)) (show xlook 216 119 = some (119, .iaload, 1, 0, 0, 0, 0) from xlk (by decide +kernel)) (xtg_12_26 _ xob_12.1 xob_12.2).1 (by rw [(xtg_12_26 _ xob_12.1 xob_12.2).2]; exact q1) (xup_o (by decide)) (n := 120) rfl ?_
            refine xw_iconst (n := 121) (show xlook 216 120 = some (120, .iconst (-1), 1, 0, 0, 0, 0) from xlk (by decide +kernel)) rfl ?_
            obtain ⟨q0, t⟩ := t
            refine xw_icmp_eq (n := 124) (m := 138) (show xlook 216 121 = some (121, .if_icmp .eq 17, 3, 138, 0, 0, 0) from xlk (by decide +kernel)) rfl rfl q0 ⟨by decide, by decide⟩ ⟨fun c => ?_, fun c => ?_⟩
            · replace t := t.1 c
              refine xw_aload_n (n := 139) (show xlook 216 138 = some (138, .aload_n 0, 1, 0, 0, 0, 0) from xlk (by decide +kernel)) rfl rfl ?_
              refine xw_getr (q := 145) (show xlook 216 139 = some (139, .getfield 57, 3, 12, 26, 0, 234) from xlk (by decide +kernel)) (by decide) (xobf xob_12 (by decide) (by decide)) rfl (xPT_get (k := 26) (f := 14) (xPT_fld (k := 27) hG4 xob_12 (by decide) (by decide)) xob_12 (by decide)) (by have := (xtg_12_26 _ xob_12.1 xob_12.2).1.1; omega) (n := 142) rfl ?_
              refine xw_iload_n (n := 143) (show xlook 216 142 = some (142, .iload_n 3, 1, 0, 0, 0, 0) from xlk (by decide +kernel)) rfl rfl ?_
              refine xw_iload_n (n := 144) (show xlook 216 143 = some (143, .iload_n 1, 1, 0, 0, 0, 0) from xlk (by decide +kernel)) rfl rfl ?_
              obtain ⟨q1, t⟩ := t
              refine xw_iast (show xlook 216 144 = some (144, .iastore, 1, 0, 0, 0, 0) from xlk (by decide +kernel)) (xtg_12_26 _ xob_12.1 xob_12.2).1 (by rw [(xtg_12_26 _ xob_12.1 xob_12.2).2]; exact q1) (n := 145) rfl ?_
              refine xw_iconst (n := 146) (show xlook 216 145 = some (145, .iconst 1, 1, 0, 0, 0, 0) from xlk (by decide +kernel)) rfl ?_
              exact xw_zreturn (xPT_arr (xPT_fld (k := 27) hG4 xob_12 (by decide) (by decide)) (Or.inl (xtg_12_26 _ xob_12.1 xob_12.2).1.2)) (show xlook 216 146 = some (146, .ireturn, 1, 0, 0, 0, 0) from xlk (by decide +kernel)) rfl (by decide) (t (xPT_arr (xPT_fld (k := 27) hG4 xob_12 (by decide) (by decide)) (Or.inl (xtg_12_26 _ xob_12.1 xob_12.2).1.2)))
            · replace t := t.2 c
              refine xw_aload_n (n := 125) (show xlook 216 124 = some (124, .aload_n 0, 1, 0, 0, 0, 0) from xlk (by decide +kernel)) rfl rfl ?_
              refine xw_aload_n (n := 126) (show xlook 216 125 = some (125, .aload_n 0, 1, 0, 0, 0, 0) from xlk (by decide +kernel)) rfl rfl ?_
              refine xw_getr (q := 145) (show xlook 216 126 = some (126, .getfield 57, 3, 12, 26, 0, 234) from xlk (by decide +kernel)) (by decide) (xobf xob_12 (by decide) (by decide)) rfl (xPT_get (k := 26) (f := 14) (xPT_fld (k := 27) hG4 xob_12 (by decide) (by decide)) xob_12 (by decide)) (by have := (xtg_12_26 _ xob_12.1 xob_12.2).1.1; omega) (n := 129) rfl ?_
              refine xw_iload_n (n := 130) (show xlook 216 129 = some (129, .iload_n 3, 1, 0, 0, 0, 0) from xlk (by decide +kernel)) rfl rfl ?_
              obtain ⟨q1, t⟩ := t
              refine xw_iald2 (u := (G4) (145) (x3)) (show xlook 216 130 = some (130, .iaload, 1, 0, 0, 0, 0) from xlk (by decide +kernel)) (xtg_12_26 _ xob_12.1 xob_12.2).1 (by rw [(xtg_12_26 _ xob_12.1 xob_12.2).2]; exact q1) (xup_o (by decide)) (n := 131) rfl ?_
              refine xw_iload_n (n := 132) (show xlook 216 131 = some (131, .iload_n 2, 1, 0, 0, 0, 0) from xlk (by decide +kernel)) rfl rfl ?_
              obtain ⟨j5, hj5, rr5, G5, hm5, hG5, t⟩ := t
              obtain ⟨y5, rfl, t⟩ := t
              refine xw_callv (dk := j5) (o := 131) (as := [vi ((G4) (145) (x3)), vi (x2)]) (show xlook 216 132 = some (132, .invokevirtual 308, 3, 216, 3, 0, 205) from xlk (by decide +kernel)) (by decide) hj5 ⟨Nat.le_of_ble_eq_true rfl, Nat.le_of_ble_eq_true rfl, Nat.le_of_ble_eq_true rfl⟩ ⟨xob_12.1, xob_12.2, by decide⟩ rfl hm5 (n := 135) rfl ?_
              show xW X d 216 135 [.ref (131), vi (x1), vi (x2), vi (x3), vi ((y3) - (y4))] [vi (y5)] G5 (xqi Q)
              obtain ⟨q0, t⟩ := t
              refine xw_if_eq (n := 138) (m := 147) (show xlook 216 135 = some (135, .ifCond .eq 12, 3, 147, 0, 0, 0) from xlk (by decide +kernel)) rfl rfl q0 ⟨fun c => ?_, fun c => ?_⟩
              · replace t := t.1 c
                refine xw_iinc (n := 150) (show xlook 216 147 = some (147, .iinc 3 1, 3, 0, 0, 0, 0) from xlk (by decide +kernel)) rfl (ls' := [.ref (131), vi (x1), vi (x2), vi (x3 + 1), vi ((y3) - (y4))]) rfl rfl ?_
                refine xw_goto (m := 2) (show xlook 216 150 = some (150, .goto (-148), 3, 2, 0, 0, 0) from xlk (by decide +kernel)) rfl ?_
                exact t hG5
              · replace t := t.2 c
                refine xw_aload_n (n := 139) (show xlook 216 138 = some (138, .aload_n 0, 1, 0, 0, 0, 0) from xlk (by decide +kernel)) rfl rfl ?_
                refine xw_getr (q := 145) (show xlook 216 139 = some (139, .getfield 57, 3, 12, 26, 0, 234) from xlk (by decide +kernel)) (by decide) (xobf xob_12 (by decide) (by decide)) rfl (xPT_get (k := 26) (f := 14) hG5 xob_12 (by decide)) (by have := (xtg_12_26 _ xob_12.1 xob_12.2).1.1; omega) (n := 142) rfl ?_
                refine xw_iload_n (n := 143) (show xlook 216 142 = some (142, .iload_n 3, 1, 0, 0, 0, 0) from xlk (by decide +kernel)) rfl rfl ?_
                refine xw_iload_n (n := 144) (show xlook 216 143 = some (143, .iload_n 1, 1, 0, 0, 0, 0) from xlk (by decide +kernel)) rfl rfl ?_
                obtain ⟨q1, t⟩ := t
                refine xw_iast (show xlook 216 144 = some (144, .iastore, 1, 0, 0, 0, 0) from xlk (by decide +kernel)) (xtg_12_26 _ xob_12.1 xob_12.2).1 (by rw [(xtg_12_26 _ xob_12.1 xob_12.2).2]; exact q1) (n := 145) rfl ?_
                refine xw_iconst (n := 146) (show xlook 216 145 = some (145, .iconst 1, 1, 0, 0, 0, 0) from xlk (by decide +kernel)) rfl ?_
                exact xw_zreturn (xPT_arr hG5 (Or.inl (xtg_12_26 _ xob_12.1 xob_12.2).1.2)) (show xlook 216 146 = some (146, .ireturn, 1, 0, 0, 0, 0) from xlk (by decide +kernel)) rfl (by decide) (t (xPT_arr hG5 (Or.inl (xtg_12_26 _ xob_12.1 xob_12.2).1.2)))
          · replace t := t.2 c
            refine xw_goto (m := 147) (show xlook 216 99 = some (99, .goto 48, 3, 147, 0, 0, 0) from xlk (by decide +kernel)) rfl ?_
            refine xw_iinc (n := 150) (show xlook 216 147 = some (147, .iinc 3 1, 3, 0, 0, 0, 0) from xlk (by decide +kernel)) rfl (ls' := [.ref (131), vi (x1), vi (x2), vi (x3 + 1), vi ((y3) - (y4))]) rfl rfl ?_
            refine xw_goto (m := 2) (show xlook 216 150 = some (150, .goto (-148), 3, 2, 0, 0, 0) from xlk (by decide +kernel)) rfl ?_
            exact t hG4
        · replace t := t.2 c
          refine xw_aload_n (n := 51) (show xlook 216 50 = some (50, .aload_n 0, 1, 0, 0, 0, 0) from xlk (by decide +kernel)) rfl rfl ?_
          refine xw_iload_n (n := 52) (show xlook 216 51 = some (51, .iload_n 1, 1, 0, 0, 0, 0) from xlk (by decide +kernel)) rfl rfl ?_
          obtain ⟨j6, hj6, rr6, G6, hm6, hG6, t⟩ := t
          obtain ⟨y6, rfl, t⟩ := t
          refine xw_callv (dk := j6) (o := 131) (as := [vi (x1)]) (show xlook 216 52 = some (52, .invokevirtual 209, 3, 164, 2, 0, 180) from xlk (by decide +kernel)) (by decide) hj6 ⟨Nat.le_of_ble_eq_true rfl, Nat.le_of_ble_eq_true rfl, Nat.le_of_ble_eq_true rfl⟩ ⟨xob_12.1, xob_12.2, by decide⟩ rfl hm6 (n := 55) rfl ?_
          show xW X d 216 55 [.ref (131), vi (x1), vi (x2), vi (x3), w4] [vi (y6)] G6 (xqi Q)
          refine xw_aload_n (n := 56) (show xlook 216 55 = some (55, .aload_n 0, 1, 0, 0, 0, 0) from xlk (by decide +kernel)) rfl rfl ?_
          refine xw_iload_n (n := 57) (show xlook 216 56 = some (56, .iload_n 3, 1, 0, 0, 0, 0) from xlk (by decide +kernel)) rfl rfl ?_
          obtain ⟨j7, hj7, rr7, G7, hm7, hG7, t⟩ := t
          obtain ⟨y7, rfl, t⟩ := t
          refine xw_callv (dk := j7) (o := 131) (as := [vi (x3)]) (show xlook 216 57 = some (57, .invokevirtual 209, 3, 164, 2, 0, 180) from xlk (by decide +kernel)) (by decide) hj7 ⟨Nat.le_of_ble_eq_true rfl, Nat.le_of_ble_eq_true rfl, Nat.le_of_ble_eq_true rfl⟩ ⟨xob_12.1, xob_12.2, by decide⟩ rfl hm7 (n := 60) rfl ?_
          show xW X d 216 60 [.ref (131), vi (x1), vi (x2), vi (x3), w4] [vi (y7), vi (y6)] G7 (xqi Q)
          refine xw_isub (n := 61) (show xlook 216 60 = some (60, .isub, 1, 0, 0, 0, 0) from xlk (by decide +kernel)) rfl ?_
          refine xw_goto (m := 75) (show xlook 216 61 = some (61, .goto 14, 3, 75, 0, 0, 0) from xlk (by decide +kernel)) rfl ?_
          refine xw_istore (n := 77) (show xlook 216 75 = some (75, .istore 4, 2, 0, 0, 0, 0) from xlk (by decide +kernel)) rfl (ls' := [.ref (131), vi (x1), vi (x2), vi (x3), vi ((y6) - (y7))]) (Nat.le_of_ble_eq_true rfl) rfl ?_
          refine xw_iload (n := 79) (show xlook 216 77 = some (77, .iload 4, 2, 0, 0, 0, 0) from xlk (by decide +kernel)) rfl rfl ?_
          refine xw_aload_n (n := 80) (show xlook 216 79 = some (79, .aload_n 0, 1, 0, 0, 0, 0) from xlk (by decide +kernel)) rfl rfl ?_
          refine xw_getr (q := 143) (show xlook 216 80 = some (80, .getfield 51, 3, 12, 24, 0, 232) from xlk (by decide +kernel)) (by decide) (xobf xob_12 (by decide) (by decide)) rfl (xPT_get (k := 24) (f := 12) hG7 xob_12 (by decide)) (by have := (xtg_12_24 _ xob_12.1 xob_12.2).1.1; omega) (n := 83) rfl ?_
          refine xw_iload_n (n := 84) (show xlook 216 83 = some (83, .iload_n 3, 1, 0, 0, 0, 0) from xlk (by decide +kernel)) rfl rfl ?_
          obtain ⟨q1, t⟩ := t
          refine xw_iald (show xlook 216 84 = some (84, .iaload, 1, 0, 0, 0, 0) from xlk (by decide +kernel)) (xtg_12_24 _ xob_12.1 xob_12.2).1 (by rw [(xtg_12_24 _ xob_12.1 xob_12.2).2]; exact q1) (n := 85) rfl ?_
          refine xw_aload_n (n := 86) (show xlook 216 85 = some (85, .aload_n 0, 1, 0, 0, 0, 0) from xlk (by decide +kernel)) rfl rfl ?_
          refine xw_getr (q := 144) (show xlook 216 86 = some (86, .getfield 54, 3, 12, 25, 0, 233) from xlk (by decide +kernel)) (by decide) (xobf xob_12 (by decide) (by decide)) rfl (xPT_get (k := 25) (f := 13) hG7 xob_12 (by decide)) (by have := (xtg_12_25 _ xob_12.1 xob_12.2).1.1; omega) (n := 89) rfl ?_
          refine xw_iload_n (n := 90) (show xlook 216 89 = some (89, .iload_n 1, 1, 0, 0, 0, 0) from xlk (by decide +kernel)) rfl rfl ?_
          obtain ⟨q1, t⟩ := t
          refine xw_iald (show xlook 216 90 = some (90, .iaload, 1, 0, 0, 0, 0) from xlk (by decide +kernel)) (xtg_12_25 _ xob_12.1 xob_12.2).1 (by rw [(xtg_12_25 _ xob_12.1 xob_12.2).2]; exact q1) (n := 91) rfl ?_
          refine xw_isub (n := 92) (show xlook 216 91 = some (91, .isub, 1, 0, 0, 0, 0) from xlk (by decide +kernel)) rfl ?_
          refine xw_iconst (n := 93) (show xlook 216 92 = some (92, .iconst 1, 1, 0, 0, 0, 0) from xlk (by decide +kernel)) rfl ?_
          refine xw_isub (n := 94) (show xlook 216 93 = some (93, .isub, 1, 0, 0, 0, 0) from xlk (by decide +kernel)) rfl ?_
          refine xw_iload_n (n := 95) (show xlook 216 94 = some (94, .iload_n 2, 1, 0, 0, 0, 0) from xlk (by decide +kernel)) rfl rfl ?_
          refine xw_imul (n := 96) (show xlook 216 95 = some (95, .imul, 1, 0, 0, 0, 0) from xlk (by decide +kernel)) rfl ?_
          obtain ⟨q0, q1, t⟩ := t
          refine xw_icmp_le (n := 99) (m := 102) (show xlook 216 96 = some (96, .if_icmp .le 6, 3, 102, 0, 0, 0) from xlk (by decide +kernel)) rfl rfl q0 q1 ⟨fun c => ?_, fun c => ?_⟩
          · replace t := t.1 c
            refine xw_aload_n (n := 103) (show xlook 216 102 = some (102, .aload_n 0, 1, 0, 0, 0, 0) from xlk (by decide +kernel)) rfl rfl ?_
            refine xw_dupr (n := 104) (show xlook 216 103 = some (103, .dup, 1, 0, 0, 0, 0) from xlk (by decide +kernel)) rfl ?_
            refine xw_geti (show xlook 216 104 = some (104, .getfield 305, 3, 12, 27, 0, 247) from xlk (by decide +kernel)) (by decide) (xobf xob_12 (by decide) (by decide)) rfl (n := 107) rfl ?_
            refine xw_iconst (n := 108) (show xlook 216 107 = some (107, .iconst 1, 1, 0, 0, 0, 0) from xlk (by decide +kernel)) rfl ?_
            refine xw_iload_n (n := 109) (show xlook 216 108 = some (108, .iload_n 3, 1, 0, 0, 0, 0) from xlk (by decide +kernel)) rfl rfl ?_
            refine xw_ishl (n := 110) (show xlook 216 109 = some (109, .ishl, 1, 0, 0, 0, 0) from xlk (by decide +kernel)) rfl ?_
            refine xw_ior (n := 111) (show xlook 216 110 = some (110, .ior, 1, 0, 0, 0, 0) from xlk (by decide +kernel)) rfl ?_
            refine xw_puti (show xlook 216 111 = some (111, .putfield 305, 3, 12, 27, 0, 247) from xlk (by decide +kernel)) (xobf xob_12 (by decide) (by decide)) rfl (n := 114) rfl ?_
            refine xw_aload_n (n := 115) (show xlook 216 114 = some (114, .aload_n 0, 1, 0, 0, 0, 0) from xlk (by decide +kernel)) rfl rfl ?_
            refine xw_getr (q := 145) (show xlook 216 115 = some (115, .getfield 57, 3, 12, 26, 0, 234) from xlk (by decide +kernel)) (by decide) (xobf xob_12 (by decide) (by decide)) rfl (xPT_get (k := 26) (f := 14) (xPT_fld (k := 27) hG7 xob_12 (by decide) (by decide)) xob_12 (by decide)) (by have := (xtg_12_26 _ xob_12.1 xob_12.2).1.1; omega) (n := 118) rfl ?_
            refine xw_iload_n (n := 119) (show xlook 216 118 = some (118, .iload_n 3, 1, 0, 0, 0, 0) from xlk (by decide +kernel)) rfl rfl ?_
            obtain ⟨q1, t⟩ := t
            refine xw_iald2 (u := (G7) (145) (x3)) (show xlook 216 119 = some (119, .iaload, 1, 0, 0, 0, 0) from xlk (by decide +kernel)) (xtg_12_26 _ xob_12.1 xob_12.2).1 (by rw [(xtg_12_26 _ xob_12.1 xob_12.2).2]; exact q1) (xup_o (by decide)) (n := 120) rfl ?_
            refine xw_iconst (n := 121) (show xlook 216 120 = some (120, .iconst (-1), 1, 0, 0, 0, 0) from xlk (by decide +kernel)) rfl ?_
            obtain ⟨q0, t⟩ := t
            refine xw_icmp_eq (n := 124) (m := 138) (show xlook 216 121 = some (121, .if_icmp .eq 17, 3, 138, 0, 0, 0) from xlk (by decide +kernel)) rfl rfl q0 ⟨by decide, by decide⟩ ⟨fun c => ?_, fun c => ?_⟩
            · replace t := t.1 c
              refine xw_aload_n (n := 139) (show xlook 216 138 = some (138, .aload_n 0, 1, 0, 0, 0, 0) from xlk (by decide +kernel)) rfl rfl ?_
              refine xw_getr (q := 145) (show xlook 216 139 = some (139, .getfield 57, 3, 12, 26, 0, 234) from xlk (by decide +kernel)) (by decide) (xobf xob_12 (by decide) (by decide)) rfl (xPT_get (k := 26) (f := 14) (xPT_fld (k := 27) hG7 xob_12 (by decide) (by decide)) xob_12 (by decide)) (by have := (xtg_12_26 _ xob_12.1 xob_12.2).1.1; omega) (n := 142) rfl ?_
              refine xw_iload_n (n := 143) (show xlook 216 142 = some (142, .iload_n 3, 1, 0, 0, 0, 0) from xlk (by decide +kernel)) rfl rfl ?_
              refine xw_iload_n (n := 144) (show xlook 216 143 = some (143, .iload_n 1, 1, 0, 0, 0, 0) from xlk (by decide +kernel)) rfl rfl ?_
              obtain ⟨q1, t⟩ := t
              refine xw_iast (show xlook 216 144 = some (144, .iastore, 1, 0, 0, 0, 0) from xlk (by decide +kernel)) (xtg_12_26 _ xob_12.1 xob_12.2).1 (by rw [(xtg_12_26 _ xob_12.1 xob_12.2).2]; exact q1) (n := 145) rfl ?_
              refine xw_iconst (n := 146) (show xlook 216 145 = some (145, .iconst 1, 1, 0, 0, 0, 0) from xlk (by decide +kernel)) rfl ?_
              exact xw_zreturn (xPT_arr (xPT_fld (k := 27) hG7 xob_12 (by decide) (by decide)) (Or.inl (xtg_12_26 _ xob_12.1 xob_12.2).1.2)) (show xlook 216 146 = some (146, .ireturn, 1, 0, 0, 0, 0) from xlk (by decide +kernel)) rfl (by decide) (t (xPT_arr (xPT_fld (k := 27) hG7 xob_12 (by decide) (by decide)) (Or.inl (xtg_12_26 _ xob_12.1 xob_12.2).1.2)))
            · replace t := t.2 c
              refine xw_aload_n (n := 125) (show xlook 216 124 = some (124, .aload_n 0, 1, 0, 0, 0, 0) from xlk (by decide +kernel)) rfl rfl ?_
              refine xw_aload_n (n := 126) (show xlook 216 125 = some (125, .aload_n 0, 1, 0, 0, 0, 0) from xlk (by decide +kernel)) rfl rfl ?_
              refine xw_getr (q := 145) (show xlook 216 126 = some (126, .getfield 57, 3, 12, 26, 0, 234) from xlk (by decide +kernel)) (by decide) (xobf xob_12 (by decide) (by decide)) rfl (xPT_get (k := 26) (f := 14) (xPT_fld (k := 27) hG7 xob_12 (by decide) (by decide)) xob_12 (by decide)) (by have := (xtg_12_26 _ xob_12.1 xob_12.2).1.1; omega) (n := 129) rfl ?_
              refine xw_iload_n (n := 130) (show xlook 216 129 = some (129, .iload_n 3, 1, 0, 0, 0, 0) from xlk (by decide +kernel)) rfl rfl ?_
              obtain ⟨q1, t⟩ := t
              refine xw_iald2 (u := (G7) (145) (x3)) (show xlook 216 130 = some (130, .iaload, 1, 0, 0, 0, 0) from xlk (by decide +kernel)) (xtg_12_26 _ xob_12.1 xob_12.2).1 (by rw [(xtg_12_26 _ xob_12.1 xob_12.2).2]; exact q1) (xup_o (by decide)) (n := 131) rfl ?_
              refine xw_iload_n (n := 132) (show xlook 216 131 = some (131, .iload_n 2, 1, 0, 0, 0, 0) from xlk (by decide +kernel)) rfl rfl ?_
              obtain ⟨j8, hj8, rr8, G8, hm8, hG8, t⟩ := t
              obtain ⟨y8, rfl, t⟩ := t
              refine xw_callv (dk := j8) (o := 131) (as := [vi ((G7) (145) (x3)), vi (x2)]) (show xlook 216 132 = some (132, .invokevirtual 308, 3, 216, 3, 0, 205) from xlk (by decide +kernel)) (by decide) hj8 ⟨Nat.le_of_ble_eq_true rfl, Nat.le_of_ble_eq_true rfl, Nat.le_of_ble_eq_true rfl⟩ ⟨xob_12.1, xob_12.2, by decide⟩ rfl hm8 (n := 135) rfl ?_
              show xW X d 216 135 [.ref (131), vi (x1), vi (x2), vi (x3), vi ((y6) - (y7))] [vi (y8)] G8 (xqi Q)
              obtain ⟨q0, t⟩ := t
              refine xw_if_eq (n := 138) (m := 147) (show xlook 216 135 = some (135, .ifCond .eq 12, 3, 147, 0, 0, 0) from xlk (by decide +kernel)) rfl rfl q0 ⟨fun c => ?_, fun c => ?_⟩
              · replace t := t.1 c
                refine xw_iinc (n := 150) (show xlook 216 147 = some (147, .iinc 3 1, 3, 0, 0, 0, 0) from xlk (by decide +kernel)) rfl (ls' := [.ref (131), vi (x1), vi (x2), vi (x3 + 1), vi ((y6) - (y7))]) rfl rfl ?_
                refine xw_goto (m := 2) (show xlook 216 150 = some (150, .goto (-148), 3, 2, 0, 0, 0) from xlk (by decide +kernel)) rfl ?_
                exact t hG8
              · replace t := t.2 c
                refine xw_aload_n (n := 139) (show xlook 216 138 = some (138, .aload_n 0, 1, 0, 0, 0, 0) from xlk (by decide +kernel)) rfl rfl ?_
                refine xw_getr (q := 145) (show xlook 216 139 = some (139, .getfield 57, 3, 12, 26, 0, 234) from xlk (by decide +kernel)) (by decide) (xobf xob_12 (by decide) (by decide)) rfl (xPT_get (k := 26) (f := 14) hG8 xob_12 (by decide)) (by have := (xtg_12_26 _ xob_12.1 xob_12.2).1.1; omega) (n := 142) rfl ?_
                refine xw_iload_n (n := 143) (show xlook 216 142 = some (142, .iload_n 3, 1, 0, 0, 0, 0) from xlk (by decide +kernel)) rfl rfl ?_
                refine xw_iload_n (n := 144) (show xlook 216 143 = some (143, .iload_n 1, 1, 0, 0, 0, 0) from xlk (by decide +kernel)) rfl rfl ?_
                obtain ⟨q1, t⟩ := t
                refine xw_iast (show xlook 216 144 = some (144, .iastore, 1, 0, 0, 0, 0) from xlk (by decide +kernel)) (xtg_12_26 _ xob_12.1 xob_12.2).1 (by rw [(xtg_12_26 _ xob_12.1 xob_12.2).2]; exact q1) (n := 145) rfl ?_
                refine xw_iconst (n := 146) (show xlook 216 145 = some (145, .iconst 1, 1, 0, 0, 0, 0) from xlk (by decide +kernel)) rfl ?_
                exact xw_zreturn (xPT_arr hG8 (Or.inl (xtg_12_26 _ xob_12.1 xob_12.2).1.2)) (show xlook 216 146 = some (146, .ireturn, 1, 0, 0, 0, 0) from xlk (by decide +kernel)) rfl (by decide) (t (xPT_arr hG8 (Or.inl (xtg_12_26 _ xob_12.1 xob_12.2).1.2)))
          · replace t := t.2 c
            refine xw_goto (m := 147) (show xlook 216 99 = some (99, .goto 48, 3, 147, 0, 0, 0) from xlk (by decide +kernel)) rfl ?_
            refine xw_iinc (n := 150) (show xlook 216 147 = some (147, .iinc 3 1, 3, 0, 0, 0, 0) from xlk (by decide +kernel)) rfl (ls' := [.ref (131), vi (x1), vi (x2), vi (x3 + 1), vi ((y6) - (y7))]) rfl rfl ?_
            refine xw_goto (m := 2) (show xlook 216 150 = some (150, .goto (-148), 3, 2, 0, 0, 0) from xlk (by decide +kernel)) rfl ?_
            exact t hG7
      · replace t := t.2 c
        refine xw_goto (m := 147) (show xlook 216 34 = some (34, .goto 113, 3, 147, 0, 0, 0) from xlk (by decide +kernel)) rfl ?_
        refine xw_iinc (n := 150) (show xlook 216 147 = some (147, .iinc 3 1, 3, 0, 0, 0, 0) from xlk (by decide +kernel)) rfl (ls' := [.ref (131), vi (x1), vi (x2), vi (x3 + 1), w4]) rfl rfl ?_
        refine xw_goto (m := 2) (show xlook 216 150 = some (150, .goto (-148), 3, 2, 0, 0, 0) from xlk (by decide +kernel)) rfl ?_
        exact t hPT

theorem s217_0 {X : List Int32} {d : Nat} {F : XF} {Q : Int → XF → Prop} {x1 : Int} {w2 : Value} {w3 : Value} {w4 : Value} {w5 : Value} (hPT : xPT F)  (t : (inR (x1)) ∧ (∃ (j1 : Nat), j1 < d ∧ xMI X j1 132 [vl (x1), vl (1), vl (50)] (xup (F) (131) 0 (0)) (fun (y1 : Int) (G1 : XF) => (inR (y1) ∧ (((¬ (y1) = (0)) → (∃ (j2 : Nat), j2 < d ∧ xMV X j2 170 [.ref (131), vi (132)] (G1) (fun (G2 : XF) => (xPT (G2) → xW X d 217 29 [.ref (131), vi (x1), vi (0), w3, w4, w5] [] (G2) (xqi Q))))) ∧ (¬ (¬ (y1) = (0)) → (xPT (G1) → Q ((-3)) (G1)))))))) : xW X d 217 0 [.ref (131), vi (x1), w2, w3, w4, w5] [] F (xqi Q) := by
  refine xw_aload_n (n := 1) (show xlook 217 0 = some (0, .aload_n 0, 1, 0, 0, 0, 0) from xlk (by decide +kernel)) rfl rfl ?_
  refine xw_iconst (n := 2) (show xlook 217 1 = some (1, .iconst 0, 1, 0, 0, 0, 0) from xlk (by decide +kernel)) rfl ?_
  refine xw_puti (show xlook 217 2 = some (2, .putfield 1, 3, 12, 0, 0, 235) from xlk (by decide +kernel)) (xobf xob_12 (by decide) (by decide)) rfl (n := 5) rfl ?_
  refine xw_iload_n (n := 6) (show xlook 217 5 = some (5, .iload_n 1, 1, 0, 0, 0, 0) from xlk (by decide +kernel)) rfl rfl ?_
  obtain ⟨q1, t⟩ := t
  refine xw_i2l (n := 7) (show xlook 217 6 = some (6, .i2l, 1, 0, 0, 0, 0) from xlk (by decide +kernel)) rfl q1 ?_
  refine xw_lconst (n := 8) (show xlook 217 7 = some (7, .lconst 1, 1, 0, 0, 0, 0) from xlk (by decide +kernel)) rfl (k := 1) (by decide) ?_
  refine xw_ldc2 (n := 11) (show xlook 217 8 = some (8, .ldc2_w 311, 3, 0, 0, 50, 16) from xlk (by decide +kernel)) rfl ?_
  obtain ⟨j1, hj1, rr1, G1, hm1, hG1, t⟩ := t
  obtain ⟨y1, rfl, t⟩ := t
  refine xw_calls (dk := j1) (as := [vl (x1), vl (1), vl (50)]) (show xlook 217 11 = some (11, .invokestatic 83, 3, 132, 3, 0, 151) from xlk (by decide +kernel)) (by decide) hj1 ⟨Nat.le_of_ble_eq_true rfl, Nat.le_of_ble_eq_true rfl, Nat.le_of_ble_eq_true rfl, by decide⟩ rfl hm1 (n := 14) rfl ?_
  show xW X d 217 14 [.ref (131), vi (x1), w2, w3, w4, w5] [vi (y1)] G1 (xqi Q)
  obtain ⟨q0, t⟩ := t
  refine xw_if_ne (n := 17) (m := 20) (show xlook 217 14 = some (14, .ifCond .ne 6, 3, 20, 0, 0, 0) from xlk (by decide +kernel)) rfl rfl q0 ⟨fun c => ?_, fun c => ?_⟩
  · replace t := t.1 c
    refine xw_aload_n (n := 21) (show xlook 217 20 = some (20, .aload_n 0, 1, 0, 0, 0, 0) from xlk (by decide +kernel)) rfl rfl ?_
    refine xw_sipush (n := 24) (show xlook 217 21 = some (21, .sipush 132, 3, 0, 0, 0, 0) from xlk (by decide +kernel)) rfl (by decide) ?_
    obtain ⟨j2, hj2, rr2, G2, hm2, hG2, t⟩ := t
    obtain ⟨rfl, t⟩ := t
    refine xw_callv (dk := j2) (o := 131) (as := [vi (132)]) (show xlook 217 24 = some (24, .invokevirtual 63, 3, 170, 2, 0, 150) from xlk (by decide +kernel)) (by decide) hj2 ⟨Nat.le_of_ble_eq_true rfl, Nat.le_of_ble_eq_true rfl, Nat.le_of_ble_eq_true rfl⟩ ⟨xob_12.1, xob_12.2, by decide⟩ rfl hm2 (n := 27) rfl ?_
    show xW X d 217 27 [.ref (131), vi (x1), w2, w3, w4, w5] [] G2 (xqi Q)
    refine xw_iconst (n := 28) (show xlook 217 27 = some (27, .iconst 0, 1, 0, 0, 0, 0) from xlk (by decide +kernel)) rfl ?_
    refine xw_istore_n (n := 29) (show xlook 217 28 = some (28, .istore_n 2, 1, 0, 0, 0, 0) from xlk (by decide +kernel)) rfl (ls' := [.ref (131), vi (x1), vi (0), w3, w4, w5]) (Nat.le_of_ble_eq_true rfl) rfl ?_
    exact t hG2
  · replace t := t.2 c
    refine xw_bipush (n := 19) (show xlook 217 17 = some (17, .bipush (-3), 2, 0, 0, 0, 0) from xlk (by decide +kernel)) rfl (by decide) ?_
    exact xw_ireturn hG1 (show xlook 217 19 = some (19, .ireturn, 1, 0, 0, 0, 0) from xlk (by decide +kernel)) rfl (t hG1)
theorem m217 {X : List Int32} {d : Nat} {F : XF} {Q : Int → XF → Prop} {x1 : Int} (hPT : xPT F)  (t : (inR (x1)) ∧ (∃ (j1 : Nat), j1 < d ∧ xMI X j1 132 [vl (x1), vl (1), vl (50)] (xup (F) (131) 0 (0)) (fun (y1 : Int) (G1 : XF) => (inR (y1) ∧ (((¬ (y1) = (0)) → (∃ (j2 : Nat), j2 < d ∧ xMV X j2 170 [.ref (131), vi (132)] (G1) (fun (G2 : XF) => (xPT (G2) → xW X d 217 29 [.ref (131), vi (x1), vi (0), xU0, xU0, xU0] [] (G2) (xqi Q))))) ∧ (¬ (¬ (y1) = (0)) → (xPT (G1) → Q ((-3)) (G1)))))))) : xMI X d 217 [.ref (131), vi (x1)] F Q := by
  show xW X d 217 0 [.ref (131), vi (x1), xU0, xU0, xU0, xU0] [] F (xqi Q)
  exact s217_0 hPT  t

theorem s217_29 {X : List Int32} {d : Nat} {F : XF} {Q : Int → XF → Prop} {x1 : Int} {x2 : Int} {w3 : Value} {w4 : Value} {w5 : Value} (hPT : xPT F)  (t : inR (x2) ∧ ((((10) ≤ (x2)) → (xPT (F) → xW X d 217 57 [.ref (131), vi (x1), vi (1), w3, w4, w5] [] (F) (xqi Q))) ∧ (¬ ((10) ≤ (x2)) → ((0 ≤ (x2) ∧ (x2) < 10) ∧ ((0 ≤ (x2) ∧ (x2) < 10) ∧ (xPT (xup (xup (F) (143) (x2) ((-1))) (145) (x2) ((-1))) → xW X d 217 29 [.ref (131), vi (x1), vi (x2 + 1), w3, w4, w5] [] (xup (xup (F) (143) (x2) ((-1))) (145) (x2) ((-1))) (xqi Q))))))) : xW X d 217 29 [.ref (131), vi (x1), vi (x2), w3, w4, w5] [] F (xqi Q) := by
  refine xw_iload_n (n := 30) (show xlook 217 29 = some (29, .iload_n 2, 1, 0, 0, 0, 0) from xlk (by decide +kernel)) rfl rfl ?_
  refine xw_bipush (n := 32) (show xlook 217 30 = some (30, .bipush 10, 2, 0, 0, 0, 0) from xlk (by decide +kernel)) rfl (by decide) ?_
  obtain ⟨q0, t⟩ := t
  refine xw_icmp_ge (n := 35) (m := 55) (show xlook 217 32 = some (32, .if_icmp .ge 23, 3, 55, 0, 0, 0) from xlk (by decide +kernel)) rfl rfl q0 ⟨by decide, by decide⟩ ⟨fun c => ?_, fun c => ?_⟩
  · replace t := t.1 c
    refine xw_iconst (n := 56) (show xlook 217 55 = some (55, .iconst 1, 1, 0, 0, 0, 0) from xlk (by decide +kernel)) rfl ?_
    refine xw_istore_n (n := 57) (show xlook 217 56 = some (56, .istore_n 2, 1, 0, 0, 0, 0) from xlk (by decide +kernel)) rfl (ls' := [.ref (131), vi (x1), vi (1), w3, w4, w5]) (Nat.le_of_ble_eq_true rfl) rfl ?_
    exact t hPT
  · replace t := t.2 c
    refine xw_aload_n (n := 36) (show xlook 217 35 = some (35, .aload_n 0, 1, 0, 0, 0, 0) from xlk (by decide +kernel)) rfl rfl ?_
    refine xw_getr (q := 143) (show xlook 217 36 = some (36, .getfield 51, 3, 12, 24, 0, 232) from xlk (by decide +kernel)) (by decide) (xobf xob_12 (by decide) (by decide)) rfl (xPT_get (k := 24) (f := 12) hPT xob_12 (by decide)) (by have := (xtg_12_24 _ xob_12.1 xob_12.2).1.1; omega) (n := 39) rfl ?_
    refine xw_iload_n (n := 40) (show xlook 217 39 = some (39, .iload_n 2, 1, 0, 0, 0, 0) from xlk (by decide +kernel)) rfl rfl ?_
    refine xw_iconst (n := 41) (show xlook 217 40 = some (40, .iconst (-1), 1, 0, 0, 0, 0) from xlk (by decide +kernel)) rfl ?_
    obtain ⟨q1, t⟩ := t
    refine xw_iast (show xlook 217 41 = some (41, .iastore, 1, 0, 0, 0, 0) from xlk (by decide +kernel)) (xtg_12_24 _ xob_12.1 xob_12.2).1 (by rw [(xtg_12_24 _ xob_12.1 xob_12.2).2]; exact q1) (n := 42) rfl ?_
    refine xw_aload_n (n := 43) (show xlook 217 42 = some (42, .aload_n 0, 1, 0, 0, 0, 0) from xlk (by decide +kernel)) rfl rfl ?_
    refine xw_getr (q := 145) (show xlook 217 43 = some (43, .getfield 57, 3, 12, 26, 0, 234) from xlk (by decide +kernel)) (by decide) (xobf xob_12 (by decide) (by decide)) rfl (xPT_get (k := 26) (f := 14) (xPT_arr hPT (Or.inl (xtg_12_24 _ xob_12.1 xob_12.2).1.2)) xob_12 (by decide)) (by have := (xtg_12_26 _ xob_12.1 xob_12.2).1.1; omega) (n := 46) rfl ?_
    refine xw_iload_n (n := 47) (show xlook 217 46 = some (46, .iload_n 2, 1, 0, 0, 0, 0) from xlk (by decide +kernel)) rfl rfl ?_
    refine xw_iconst (n := 48) (show xlook 217 47 = some (47, .iconst (-1), 1, 0, 0, 0, 0) from xlk (by decide +kernel)) rfl ?_
    obtain ⟨q1, t⟩ := t
    refine xw_iast (show xlook 217 48 = some (48, .iastore, 1, 0, 0, 0, 0) from xlk (by decide +kernel)) (xtg_12_26 _ xob_12.1 xob_12.2).1 (by rw [(xtg_12_26 _ xob_12.1 xob_12.2).2]; exact q1) (n := 49) rfl ?_
    refine xw_iinc (n := 52) (show xlook 217 49 = some (49, .iinc 2 1, 3, 0, 0, 0, 0) from xlk (by decide +kernel)) rfl (ls' := [.ref (131), vi (x1), vi (x2 + 1), w3, w4, w5]) rfl rfl ?_
    refine xw_goto (m := 29) (show xlook 217 52 = some (52, .goto (-23), 3, 29, 0, 0, 0) from xlk (by decide +kernel)) rfl ?_
    exact t (xPT_arr (xPT_arr hPT (Or.inl (xtg_12_24 _ xob_12.1 xob_12.2).1.2)) (Or.inl (xtg_12_26 _ xob_12.1 xob_12.2).1.2))

theorem s217_57 {X : List Int32} {d : Nat} {F : XF} {Q : Int → XF → Prop} {x1 : Int} {x2 : Int} {w3 : Value} {w4 : Value} {w5 : Value} (hPT : xPT F)  (t : inR (x2) ∧ ((((x2) = (0)) → (xPT (F) → xW X d 217 205 [.ref (131), vi (x1), vi (x2), vi (0), vi (0), w5] [] (F) (xqi Q))) ∧ (¬ ((x2) = (0)) → (xPT (F) → xW X d 217 66 [.ref (131), vi (x1), vi (x2), vi (0), vi (0), w5] [] (F) (xqi Q))))) : xW X d 217 57 [.ref (131), vi (x1), vi (x2), w3, w4, w5] [] F (xqi Q) := by
  refine xw_iload_n (n := 58) (show xlook 217 57 = some (57, .iload_n 2, 1, 0, 0, 0, 0) from xlk (by decide +kernel)) rfl rfl ?_
  obtain ⟨q0, t⟩ := t
  refine xw_if_eq (n := 61) (m := 200) (show xlook 217 58 = some (58, .ifCond .eq 142, 3, 200, 0, 0, 0) from xlk (by decide +kernel)) rfl rfl q0 ⟨fun c => ?_, fun c => ?_⟩
  · replace t := t.1 c
    refine xw_iconst (n := 201) (show xlook 217 200 = some (200, .iconst 0, 1, 0, 0, 0, 0) from xlk (by decide +kernel)) rfl ?_
    refine xw_istore_n (n := 202) (show xlook 217 201 = some (201, .istore_n 3, 1, 0, 0, 0, 0) from xlk (by decide +kernel)) rfl (ls' := [.ref (131), vi (x1), vi (x2), vi (0), w4, w5]) (Nat.le_of_ble_eq_true rfl) rfl ?_
    refine xw_iconst (n := 203) (show xlook 217 202 = some (202, .iconst 0, 1, 0, 0, 0, 0) from xlk (by decide +kernel)) rfl ?_
    refine xw_istore (n := 205) (show xlook 217 203 = some (203, .istore 4, 2, 0, 0, 0, 0) from xlk (by decide +kernel)) rfl (ls' := [.ref (131), vi (x1), vi (x2), vi (0), vi (0), w5]) (Nat.le_of_ble_eq_true rfl) rfl ?_
    exact t hPT
  · replace t := t.2 c
    refine xw_iconst (n := 62) (show xlook 217 61 = some (61, .iconst 0, 1, 0, 0, 0, 0) from xlk (by decide +kernel)) rfl ?_
    refine xw_istore_n (n := 63) (show xlook 217 62 = some (62, .istore_n 3, 1, 0, 0, 0, 0) from xlk (by decide +kernel)) rfl (ls' := [.ref (131), vi (x1), vi (x2), vi (0), w4, w5]) (Nat.le_of_ble_eq_true rfl) rfl ?_
    refine xw_iconst (n := 64) (show xlook 217 63 = some (63, .iconst 0, 1, 0, 0, 0, 0) from xlk (by decide +kernel)) rfl ?_
    refine xw_istore (n := 66) (show xlook 217 64 = some (64, .istore 4, 2, 0, 0, 0, 0) from xlk (by decide +kernel)) rfl (ls' := [.ref (131), vi (x1), vi (x2), vi (0), vi (0), w5]) (Nat.le_of_ble_eq_true rfl) rfl ?_
    exact t hPT

theorem s217_66 {X : List Int32} {d : Nat} {F : XF} {Q : Int → XF → Prop} {x1 : Int} {x2 : Int} {x3 : Int} {x4 : Int} {w5 : Value} (hPT : xPT F)  (t : inR (x4) ∧ inR ((F) (132) 4) ∧ (((((F) (132) 4) ≤ (x4)) → (∃ (j1 : Nat), j1 < d ∧ xMI X j1 196 [.ref (131)] (F) (fun (y1 : Int) (G1 : XF) => (xPT (G1) → xW X d 217 125 [.ref (131), vi (x1), vi (y1), vi (x3), vi ((F) (140) 262), vi (0)] [] (G1) (xqi Q))))) ∧ (¬ (((F) (132) 4) ≤ (x4)) → (∃ (j2 : Nat), j2 < d ∧ xMI X j2 173 [.ref (131), vi (132), vi (x4)] (F) (fun (y2 : Int) (G2 : XF) => (inR (y2) ∧ (((¬ (y2) = ((-1))) → (xPT (G2) → xW X d 217 66 [.ref (131), vi (x1), vi (x2), vi (xior (x3) (xshl (1) (x4))), vi (x4 + 1), w5] [] (G2) (xqi Q))) ∧ (¬ (¬ (y2) = ((-1))) → (xPT (G2) → xW X d 217 66 [.ref (131), vi (x1), vi (x2), vi (xior (x3) (0)), vi (x4 + 1), w5] [] (G2) (xqi Q)))))))))) : xW X d 217 66 [.ref (131), vi (x1), vi (x2), vi (x3), vi (x4), w5] [] F (xqi Q) := by
  refine xw_iload (n := 68) (show xlook 217 66 = some (66, .iload 4, 2, 0, 0, 0, 0) from xlk (by decide +kernel)) rfl rfl ?_
  refine xw_aload_n (n := 69) (show xlook 217 68 = some (68, .aload_n 0, 1, 0, 0, 0, 0) from xlk (by decide +kernel)) rfl rfl ?_
  refine xw_getr (q := 132) (show xlook 217 69 = some (69, .getfield 13, 3, 12, 1, 0, 220) from xlk (by decide +kernel)) (by decide) (xobf xob_12 (by decide) (by decide)) rfl (xPT_get (k := 1) (f := 1) hPT xob_12 (by decide)) (by have := (xtg_12_1 _ xob_12.1 xob_12.2).1.1; omega) (n := 72) rfl ?_
  refine xw_iconst (n := 73) (show xlook 217 72 = some (72, .iconst 4, 1, 0, 0, 0, 0) from xlk (by decide +kernel)) rfl ?_
  refine xw_iald (show xlook 217 73 = some (73, .iaload, 1, 0, 0, 0, 0) from xlk (by decide +kernel)) (xtg_12_1 _ xob_12.1 xob_12.2).1 (by rw [(xtg_12_1 _ xob_12.1 xob_12.2).2]; decide) (n := 74) rfl ?_
  obtain ⟨q0, q1, t⟩ := t
  refine xw_icmp_ge (n := 77) (m := 107) (show xlook 217 74 = some (74, .if_icmp .ge 33, 3, 107, 0, 0, 0) from xlk (by decide +kernel)) rfl rfl q0 q1 ⟨fun c => ?_, fun c => ?_⟩
  · replace t := t.1 c
    refine xw_aload_n (n := 108) (show xlook 217 107 = some (107, .aload_n 0, 1, 0, 0, 0, 0) from xlk (by decide +kernel)) rfl rfl ?_
    refine xw_getr (q := 140) (show xlook 217 108 = some (108, .getfield 42, 3, 12, 18, 0, 229) from xlk (by decide +kernel)) (by decide) (xobf xob_12 (by decide) (by decide)) rfl (xPT_get (k := 18) (f := 9) hPT xob_12 (by decide)) (by have := (xtg_12_18 _ xob_12.1 xob_12.2).1.1; omega) (n := 111) rfl ?_
    refine xw_sipush (n := 114) (show xlook 217 111 = some (111, .sipush 262, 3, 0, 0, 0, 0) from xlk (by decide +kernel)) rfl (by decide) ?_
    refine xw_iald (show xlook 217 114 = some (114, .iaload, 1, 0, 0, 0, 0) from xlk (by decide +kernel)) (xtg_12_18 _ xob_12.1 xob_12.2).1 (by rw [(xtg_12_18 _ xob_12.1 xob_12.2).2]; decide) (n := 115) rfl ?_
    refine xw_istore (n := 117) (show xlook 217 115 = some (115, .istore 4, 2, 0, 0, 0, 0) from xlk (by decide +kernel)) rfl (ls' := [.ref (131), vi (x1), vi (x2), vi (x3), vi ((F) (140) 262), w5]) (Nat.le_of_ble_eq_true rfl) rfl ?_
    refine xw_aload_n (n := 118) (show xlook 217 117 = some (117, .aload_n 0, 1, 0, 0, 0, 0) from xlk (by decide +kernel)) rfl rfl ?_
    obtain ⟨j1, hj1, rr1, G1, hm1, hG1, t⟩ := t
    obtain ⟨y1, rfl, t⟩ := t
    refine xw_callv (dk := j1) (o := 131) (as := []) (show xlook 217 118 = some (118, .invokevirtual 268, 3, 196, 1, 0, 195) from xlk (by decide +kernel)) (by decide) hj1 ⟨Nat.le_of_ble_eq_true rfl, Nat.le_of_ble_eq_true rfl, Nat.le_of_ble_eq_true rfl⟩ ⟨xob_12.1, xob_12.2, by decide⟩ rfl hm1 (n := 121) rfl ?_
    show xW X d 217 121 [.ref (131), vi (x1), vi (x2), vi (x3), vi ((F) (140) 262), w5] [vi (y1)] G1 (xqi Q)
    refine xw_istore_n (n := 122) (show xlook 217 121 = some (121, .istore_n 2, 1, 0, 0, 0, 0) from xlk (by decide +kernel)) rfl (ls' := [.ref (131), vi (x1), vi (y1), vi (x3), vi ((F) (140) 262), w5]) (Nat.le_of_ble_eq_true rfl) rfl ?_
    refine xw_iconst (n := 123) (show xlook 217 122 = some (122, .iconst 0, 1, 0, 0, 0, 0) from xlk (by decide +kernel)) rfl ?_
    refine xw_istore (n := 125) (show xlook 217 123 = some (123, .istore 5, 2, 0, 0, 0, 0) from xlk (by decide +kernel)) rfl (ls' := [.ref (131), vi (x1), vi (y1), vi (x3), vi ((F) (140) 262), vi (0)]) (Nat.le_of_ble_eq_true rfl) rfl ?_
    exact t hG1
  · replace t := t.2 c
    refine xw_iload_n (n := 78) (show xlook 217 77 = some (77, .iload_n 3, 1, 0, 0, 0, 0) from xlk (by decide +kernel)) rfl rfl ?_
    refine xw_aload_n (n := 79) (show xlook 217 78 = some (78, .aload_n 0, 1, 0, 0, 0, 0) from xlk (by decide +kernel)) rfl rfl ?_
    refine xw_sipush (n := 82) (show xlook 217 79 = some (79, .sipush 132, 3, 0, 0, 0, 0) from xlk (by decide +kernel)) rfl (by decide) ?_
    refine xw_iload (n := 84) (show xlook 217 82 = some (82, .iload 4, 2, 0, 0, 0, 0) from xlk (by decide +kernel)) rfl rfl ?_
    obtain ⟨j2, hj2, rr2, G2, hm2, hG2, t⟩ := t
    obtain ⟨y2, rfl, t⟩ := t
    refine xw_callv (dk := j2) (o := 131) (as := [vi (132), vi (x4)]) (show xlook 217 84 = some (84, .invokevirtual 212, 3, 173, 3, 0, 181) from xlk (by decide +kernel)) (by decide) hj2 ⟨Nat.le_of_ble_eq_true rfl, Nat.le_of_ble_eq_true rfl, Nat.le_of_ble_eq_true rfl⟩ ⟨xob_12.1, xob_12.2, by decide⟩ rfl hm2 (n := 87) rfl ?_
    show xW X d 217 87 [.ref (131), vi (x1), vi (x2), vi (x3), vi (x4), w5] [vi (y2), vi (x3)] G2 (xqi Q)
    refine xw_iconst (n := 88) (show xlook 217 87 = some (87, .iconst (-1), 1, 0, 0, 0, 0) from xlk (by decide +kernel)) rfl ?_
    obtain ⟨q0, t⟩ := t
    refine xw_icmp_ne (n := 91) (m := 95) (show xlook 217 88 = some (88, .if_icmp .ne 7, 3, 95, 0, 0, 0) from xlk (by decide +kernel)) rfl rfl q0 ⟨by decide, by decide⟩ ⟨fun c => ?_, fun c => ?_⟩
    · replace t := t.1 c
      refine xw_iconst (n := 96) (show xlook 217 95 = some (95, .iconst 1, 1, 0, 0, 0, 0) from xlk (by decide +kernel)) rfl ?_
      refine xw_iload (n := 98) (show xlook 217 96 = some (96, .iload 4, 2, 0, 0, 0, 0) from xlk (by decide +kernel)) rfl rfl ?_
      refine xw_ishl (n := 99) (show xlook 217 98 = some (98, .ishl, 1, 0, 0, 0, 0) from xlk (by decide +kernel)) rfl ?_
      refine xw_ior (n := 100) (show xlook 217 99 = some (99, .ior, 1, 0, 0, 0, 0) from xlk (by decide +kernel)) rfl ?_
      refine xw_istore_n (n := 101) (show xlook 217 100 = some (100, .istore_n 3, 1, 0, 0, 0, 0) from xlk (by decide +kernel)) rfl (ls' := [.ref (131), vi (x1), vi (x2), vi (xior (x3) (xshl (1) (x4))), vi (x4), w5]) (Nat.le_of_ble_eq_true rfl) rfl ?_
      refine xw_iinc (n := 104) (show xlook 217 101 = some (101, .iinc 4 1, 3, 0, 0, 0, 0) from xlk (by decide +kernel)) rfl (ls' := [.ref (131), vi (x1), vi (x2), vi (xior (x3) (xshl (1) (x4))), vi (x4 + 1), w5]) rfl rfl ?_
      refine xw_goto (m := 66) (show xlook 217 104 = some (104, .goto (-38), 3, 66, 0, 0, 0) from xlk (by decide +kernel)) rfl ?_
      exact t hG2
    · replace t := t.2 c
      refine xw_iconst (n := 92) (show xlook 217 91 = some (91, .iconst 0, 1, 0, 0, 0, 0) from xlk (by decide +kernel)) rfl ?_
      refine xw_goto (m := 99) (show xlook 217 92 = some (92, .goto 7, 3, 99, 0, 0, 0) from xlk (by decide +kernel)) rfl ?_
      refine xw_ior (n := 100) (show xlook 217 99 = some (99, .ior, 1, 0, 0, 0, 0) from xlk (by decide +kernel)) rfl ?_
      refine xw_istore_n (n := 101) (show xlook 217 100 = some (100, .istore_n 3, 1, 0, 0, 0, 0) from xlk (by decide +kernel)) rfl (ls' := [.ref (131), vi (x1), vi (x2), vi (xior (x3) (0)), vi (x4), w5]) (Nat.le_of_ble_eq_true rfl) rfl ?_
      refine xw_iinc (n := 104) (show xlook 217 101 = some (101, .iinc 4 1, 3, 0, 0, 0, 0) from xlk (by decide +kernel)) rfl (ls' := [.ref (131), vi (x1), vi (x2), vi (xior (x3) (0)), vi (x4 + 1), w5]) rfl rfl ?_
      refine xw_goto (m := 66) (show xlook 217 104 = some (104, .goto (-38), 3, 66, 0, 0, 0) from xlk (by decide +kernel)) rfl ?_
      exact t hG2

theorem s217_125 {X : List Int32} {d : Nat} {F : XF} {Q : Int → XF → Prop} {x1 : Int} {x2 : Int} {x3 : Int} {x4 : Int} {x5 : Int} (hPT : xPT F)  (t : inR (x5) ∧ inR ((F) (132) 4) ∧ (((((F) (132) 4) ≤ (x5)) → (xPT (F) → xW X d 217 57 [.ref (131), vi (x1), vi (x2), vi (x3), vi (x4), vi (x5)] [] (F) (xqi Q))) ∧ (¬ (((F) (132) 4) ≤ (x5)) → (inR (x2) ∧ ((((x2) = (0)) → (xPT (F) → xW X d 217 57 [.ref (131), vi (x1), vi (x2), vi (x3), vi (x4), vi (x5)] [] (F) (xqi Q))) ∧ (¬ ((x2) = (0)) → (inR (xand (xshr (x3) (x5)) (1)) ∧ (((¬ (xand (xshr (x3) (x5)) (1)) = (0)) → ((0 ≤ (x5) ∧ (x5) < 10) ∧ (inR ((F) (143) (x5)) ∧ (((¬ ((F) (143) (x5)) = ((-1))) → ((0 ≤ (x5) ∧ (x5) < 10) ∧ ((0 ≤ (x5) ∧ (x5) < 10) ∧ ((0 ≤ (x5) ∧ (x5) < 10) ∧ (xPT (xup (xup (F) (143) (x5) ((F) (143) (x5))) (144) (x5) (x4)) → xW X d 217 125 [.ref (131), vi (x1), vi (x2), vi (x3), vi (x4), vi (x5 + 1)] [] (xup (xup (F) (143) (x5) ((F) (143) (x5))) (144) (x5) (x4)) (xqi Q)))))) ∧ (¬ (¬ ((F) (143) (x5)) = ((-1))) → ((0 ≤ (x5) ∧ (x5) < 10) ∧ ((0 ≤ (x5) ∧ (x5) < 10) ∧ (xPT (xup (xup (F) (143) (x5) (x4)) (144) (x5) (x4)) → xW X d 217 125 [.ref (131), vi (x1), vi (x2), vi (x3), vi (x4), vi (x5 + 1)] [] (xup (xup (F) (143) (x5) (x4)) (144) (x5) (x4)) (xqi Q))))))))) ∧ (¬ (¬ (xand (xshr (x3) (x5)) (1)) = (0)) → (xPT (F) → xW X d 217 125 [.ref (131), vi (x1), vi (x2), vi (x3), vi (x4), vi (x5 + 1)] [] (F) (xqi Q))))))))))) : xW X d 217 125 [.ref (131), vi (x1), vi (x2), vi (x3), vi (x4), vi (x5)] [] F (xqi Q) := by
  refine xw_iload (n := 127) (show xlook 217 125 = some (125, .iload 5, 2, 0, 0, 0, 0) from xlk (by decide +kernel)) rfl rfl ?_
  refine xw_aload_n (n := 128) (show xlook 217 127 = some (127, .aload_n 0, 1, 0, 0, 0, 0) from xlk (by decide +kernel)) rfl rfl ?_
  refine xw_getr (q := 132) (show xlook 217 128 = some (128, .getfield 13, 3, 12, 1, 0, 220) from xlk (by decide +kernel)) (by decide) (xobf xob_12 (by decide) (by decide)) rfl (xPT_get (k := 1) (f := 1) hPT xob_12 (by decide)) (by have := (xtg_12_1 _ xob_12.1 xob_12.2).1.1; omega) (n := 131) rfl ?_
  refine xw_iconst (n := 132) (show xlook 217 131 = some (131, .iconst 4, 1, 0, 0, 0, 0) from xlk (by decide +kernel)) rfl ?_
  refine xw_iald (show xlook 217 132 = some (132, .iaload, 1, 0, 0, 0, 0) from xlk (by decide +kernel)) (xtg_12_1 _ xob_12.1 xob_12.2).1 (by rw [(xtg_12_1 _ xob_12.1 xob_12.2).2]; decide) (n := 133) rfl ?_
  obtain ⟨q0, q1, t⟩ := t
  refine xw_icmp_ge (n := 136) (m := 197) (show xlook 217 133 = some (133, .if_icmp .ge 64, 3, 197, 0, 0, 0) from xlk (by decide +kernel)) rfl rfl q0 q1 ⟨fun c => ?_, fun c => ?_⟩
  · replace t := t.1 c
    refine xw_goto (m := 57) (show xlook 217 197 = some (197, .goto (-140), 3, 57, 0, 0, 0) from xlk (by decide +kernel)) rfl ?_
    exact t hPT
  · replace t := t.2 c
    refine xw_iload_n (n := 137) (show xlook 217 136 = some (136, .iload_n 2, 1, 0, 0, 0, 0) from xlk (by decide +kernel)) rfl rfl ?_
    obtain ⟨q0, t⟩ := t
    refine xw_if_eq (n := 140) (m := 197) (show xlook 217 137 = some (137, .ifCond .eq 60, 3, 197, 0, 0, 0) from xlk (by decide +kernel)) rfl rfl q0 ⟨fun c => ?_, fun c => ?_⟩
    · replace t := t.1 c
      refine xw_goto (m := 57) (show xlook 217 197 = some (197, .goto (-140), 3, 57, 0, 0, 0) from xlk (by decide +kernel)) rfl ?_
      exact t hPT
    · replace t := t.2 c
      refine xw_iload_n (n := 141) (show xlook 217 140 = some (140, .iload_n 3, 1, 0, 0, 0, 0) from xlk (by decide +kernel)) rfl rfl ?_
      refine xw_iload (n := 143) (show xlook 217 141 = some (141, .iload 5, 2, 0, 0, 0, 0) from xlk (by decide +kernel)) rfl rfl ?_
      refine xw_ishr (n := 144) (show xlook 217 143 = some (143, .ishr, 1, 0, 0, 0, 0) from xlk (by decide +kernel)) rfl ?_
      refine xw_iconst (n := 145) (show xlook 217 144 = some (144, .iconst 1, 1, 0, 0, 0, 0) from xlk (by decide +kernel)) rfl ?_
      refine xw_iand (n := 146) (show xlook 217 145 = some (145, .iand, 1, 0, 0, 0, 0) from xlk (by decide +kernel)) rfl ?_
      obtain ⟨q0, t⟩ := t
      refine xw_if_ne (n := 149) (m := 152) (show xlook 217 146 = some (146, .ifCond .ne 6, 3, 152, 0, 0, 0) from xlk (by decide +kernel)) rfl rfl q0 ⟨fun c => ?_, fun c => ?_⟩
      · replace t := t.1 c
        refine xw_aload_n (n := 153) (show xlook 217 152 = some (152, .aload_n 0, 1, 0, 0, 0, 0) from xlk (by decide +kernel)) rfl rfl ?_
        refine xw_getr (q := 143) (show xlook 217 153 = some (153, .getfield 51, 3, 12, 24, 0, 232) from xlk (by decide +kernel)) (by decide) (xobf xob_12 (by decide) (by decide)) rfl (xPT_get (k := 24) (f := 12) hPT xob_12 (by decide)) (by have := (xtg_12_24 _ xob_12.1 xob_12.2).1.1; omega) (n := 156) rfl ?_
        refine xw_iload (n := 158) (show xlook 217 156 = some (156, .iload 5, 2, 0, 0, 0, 0) from xlk (by decide +kernel)) rfl rfl ?_
        refine xw_aload_n (n := 159) (show xlook 217 158 = some (158, .aload_n 0, 1, 0, 0, 0, 0) from xlk (by decide +kernel)) rfl rfl ?_
        refine xw_getr (q := 143) (show xlook 217 159 = some (159, .getfield 51, 3, 12, 24, 0, 232) from xlk (by decide +kernel)) (by decide) (xobf xob_12 (by decide) (by decide)) rfl (xPT_get (k := 24) (f := 12) hPT xob_12 (by decide)) (by have := (xtg_12_24 _ xob_12.1 xob_12.2).1.1; omega) (n := 162) rfl ?_
        refine xw_iload (n := 164) (show xlook 217 162 = some (162, .iload 5, 2, 0, 0, 0, 0) from xlk (by decide +kernel)) rfl rfl ?_
        obtain ⟨q1, t⟩ := t
        refine xw_iald (show xlook 217 164 = some (164, .iaload, 1, 0, 0, 0, 0) from xlk (by decide +kernel)) (xtg_12_24 _ xob_12.1 xob_12.2).1 (by rw [(xtg_12_24 _ xob_12.1 xob_12.2).2]; exact q1) (n := 165) rfl ?_
        refine xw_iconst (n := 166) (show xlook 217 165 = some (165, .iconst (-1), 1, 0, 0, 0, 0) from xlk (by decide +kernel)) rfl ?_
        obtain ⟨q0, t⟩ := t
        refine xw_icmp_ne (n := 169) (m := 174) (show xlook 217 166 = some (166, .if_icmp .ne 8, 3, 174, 0, 0, 0) from xlk (by decide +kernel)) rfl rfl q0 ⟨by decide, by decide⟩ ⟨fun c => ?_, fun c => ?_⟩
        · replace t := t.1 c
          refine xw_aload_n (n := 175) (show xlook 217 174 = some (174, .aload_n 0, 1, 0, 0, 0, 0) from xlk (by decide +kernel)) rfl rfl ?_
          refine xw_getr (q := 143) (show xlook 217 175 = some (175, .getfield 51, 3, 12, 24, 0, 232) from xlk (by decide +kernel)) (by decide) (xobf xob_12 (by decide) (by decide)) rfl (xPT_get (k := 24) (f := 12) hPT xob_12 (by decide)) (by have := (xtg_12_24 _ xob_12.1 xob_12.2).1.1; omega) (n := 178) rfl ?_
          refine xw_iload (n := 180) (show xlook 217 178 = some (178, .iload 5, 2, 0, 0, 0, 0) from xlk (by decide +kernel)) rfl rfl ?_
          obtain ⟨q1, t⟩ := t
          refine xw_iald (show xlook 217 180 = some (180, .iaload, 1, 0, 0, 0, 0) from xlk (by decide +kernel)) (xtg_12_24 _ xob_12.1 xob_12.2).1 (by rw [(xtg_12_24 _ xob_12.1 xob_12.2).2]; exact q1) (n := 181) rfl ?_
          obtain ⟨q1, t⟩ := t
          refine xw_iast (show xlook 217 181 = some (181, .iastore, 1, 0, 0, 0, 0) from xlk (by decide +kernel)) (xtg_12_24 _ xob_12.1 xob_12.2).1 (by rw [(xtg_12_24 _ xob_12.1 xob_12.2).2]; exact q1) (n := 182) rfl ?_
          refine xw_aload_n (n := 183) (show xlook 217 182 = some (182, .aload_n 0, 1, 0, 0, 0, 0) from xlk (by decide +kernel)) rfl rfl ?_
          refine xw_getr (q := 144) (show xlook 217 183 = some (183, .getfield 54, 3, 12, 25, 0, 233) from xlk (by decide +kernel)) (by decide) (xobf xob_12 (by decide) (by decide)) rfl (xPT_get (k := 25) (f := 13) (xPT_arr hPT (Or.inl (xtg_12_24 _ xob_12.1 xob_12.2).1.2)) xob_12 (by decide)) (by have := (xtg_12_25 _ xob_12.1 xob_12.2).1.1; omega) (n := 186) rfl ?_
          refine xw_iload (n := 188) (show xlook 217 186 = some (186, .iload 5, 2, 0, 0, 0, 0) from xlk (by decide +kernel)) rfl rfl ?_
          refine xw_iload (n := 190) (show xlook 217 188 = some (188, .iload 4, 2, 0, 0, 0, 0) from xlk (by decide +kernel)) rfl rfl ?_
          obtain ⟨q1, t⟩ := t
          refine xw_iast (show xlook 217 190 = some (190, .iastore, 1, 0, 0, 0, 0) from xlk (by decide +kernel)) (xtg_12_25 _ xob_12.1 xob_12.2).1 (by rw [(xtg_12_25 _ xob_12.1 xob_12.2).2]; exact q1) (n := 191) rfl ?_
          refine xw_iinc (n := 194) (show xlook 217 191 = some (191, .iinc 5 1, 3, 0, 0, 0, 0) from xlk (by decide +kernel)) rfl (ls' := [.ref (131), vi (x1), vi (x2), vi (x3), vi (x4), vi (x5 + 1)]) rfl rfl ?_
          refine xw_goto (m := 125) (show xlook 217 194 = some (194, .goto (-69), 3, 125, 0, 0, 0) from xlk (by decide +kernel)) rfl ?_
          exact t (xPT_arr (xPT_arr hPT (Or.inl (xtg_12_24 _ xob_12.1 xob_12.2).1.2)) (Or.inl (xtg_12_25 _ xob_12.1 xob_12.2).1.2))
        · replace t := t.2 c
          refine xw_iload (n := 171) (show xlook 217 169 = some (169, .iload 4, 2, 0, 0, 0, 0) from xlk (by decide +kernel)) rfl rfl ?_
          refine xw_goto (m := 181) (show xlook 217 171 = some (171, .goto 10, 3, 181, 0, 0, 0) from xlk (by decide +kernel)) rfl ?_
          obtain ⟨q1, t⟩ := t
          refine xw_iast (show xlook 217 181 = some (181, .iastore, 1, 0, 0, 0, 0) from xlk (by decide +kernel)) (xtg_12_24 _ xob_12.1 xob_12.2).1 (by rw [(xtg_12_24 _ xob_12.1 xob_12.2).2]; exact q1) (n := 182) rfl ?_
          refine xw_aload_n (n := 183) (show xlook 217 182 = some (182, .aload_n 0, 1, 0, 0, 0, 0) from xlk (by decide +kernel)) rfl rfl ?_
          refine xw_getr (q := 144) (show xlook 217 183 = some (183, .getfield 54, 3, 12, 25, 0, 233) from xlk (by decide +kernel)) (by decide) (xobf xob_12 (by decide) (by decide)) rfl (xPT_get (k := 25) (f := 13) (xPT_arr hPT (Or.inl (xtg_12_24 _ xob_12.1 xob_12.2).1.2)) xob_12 (by decide)) (by have := (xtg_12_25 _ xob_12.1 xob_12.2).1.1; omega) (n := 186) rfl ?_
          refine xw_iload (n := 188) (show xlook 217 186 = some (186, .iload 5, 2, 0, 0, 0, 0) from xlk (by decide +kernel)) rfl rfl ?_
          refine xw_iload (n := 190) (show xlook 217 188 = some (188, .iload 4, 2, 0, 0, 0, 0) from xlk (by decide +kernel)) rfl rfl ?_
          obtain ⟨q1, t⟩ := t
          refine xw_iast (show xlook 217 190 = some (190, .iastore, 1, 0, 0, 0, 0) from xlk (by decide +kernel)) (xtg_12_25 _ xob_12.1 xob_12.2).1 (by rw [(xtg_12_25 _ xob_12.1 xob_12.2).2]; exact q1) (n := 191) rfl ?_
          refine xw_iinc (n := 194) (show xlook 217 191 = some (191, .iinc 5 1, 3, 0, 0, 0, 0) from xlk (by decide +kernel)) rfl (ls' := [.ref (131), vi (x1), vi (x2), vi (x3), vi (x4), vi (x5 + 1)]) rfl rfl ?_
          refine xw_goto (m := 125) (show xlook 217 194 = some (194, .goto (-69), 3, 125, 0, 0, 0) from xlk (by decide +kernel)) rfl ?_
          exact t (xPT_arr (xPT_arr hPT (Or.inl (xtg_12_24 _ xob_12.1 xob_12.2).1.2)) (Or.inl (xtg_12_25 _ xob_12.1 xob_12.2).1.2))
      · replace t := t.2 c
        refine xw_goto (m := 191) (show xlook 217 149 = some (149, .goto 42, 3, 191, 0, 0, 0) from xlk (by decide +kernel)) rfl ?_
        refine xw_iinc (n := 194) (show xlook 217 191 = some (191, .iinc 5 1, 3, 0, 0, 0, 0) from xlk (by decide +kernel)) rfl (ls' := [.ref (131), vi (x1), vi (x2), vi (x3), vi (x4), vi (x5 + 1)]) rfl rfl ?_
        refine xw_goto (m := 125) (show xlook 217 194 = some (194, .goto (-69), 3, 125, 0, 0, 0) from xlk (by decide +kernel)) rfl ?_
        exact t hPT

theorem s217_205 {X : List Int32} {d : Nat} {F : XF} {Q : Int → XF → Prop} {x1 : Int} {x2 : Int} {x3 : Int} {x4 : Int} {w5 : Value} (hPT : xPT F)  (t : inR (x4) ∧ inR ((F) (132) 4) ∧ (((((F) (132) 4) ≤ (x4)) → (xPT (F) → Q (x3) (F))) ∧ (¬ (((F) (132) 4) ≤ (x4)) → ((0 ≤ (x4) ∧ (x4) < 10) ∧ (inR ((F) (143) (x4)) ∧ (((((F) (143) (x4)) = ((-1))) → (xPT (xup (F) (131) 27 (0)) → xW X d 217 205 [.ref (131), vi (x1), vi (x2), vi (x3), vi (x4 + 1), w5] [] (xup (F) (131) 27 (0)) (xqi Q))) ∧ (¬ (((F) (143) (x4)) = ((-1))) → (∃ (j1 : Nat), j1 < d ∧ xMI X j1 216 [.ref (131), vi (x4), vi (x1)] (xup (F) (131) 27 (0)) (fun (y1 : Int) (G1 : XF) => (inR (y1) ∧ ((((y1) = (0)) → (xPT (G1) → xW X d 217 205 [.ref (131), vi (x1), vi (x2), vi ((x3) + (1)), vi (x4 + 1), w5] [] (G1) (xqi Q))) ∧ (¬ ((y1) = (0)) → (xPT (G1) → xW X d 217 205 [.ref (131), vi (x1), vi (x2), vi ((x3) + (0)), vi (x4 + 1), w5] [] (G1) (xqi Q)))))))))))))) : xW X d 217 205 [.ref (131), vi (x1), vi (x2), vi (x3), vi (x4), w5] [] F (xqi Q) := by
  refine xw_iload (n := 207) (show xlook 217 205 = some (205, .iload 4, 2, 0, 0, 0, 0) from xlk (by decide +kernel)) rfl rfl ?_
  refine xw_aload_n (n := 208) (show xlook 217 207 = some (207, .aload_n 0, 1, 0, 0, 0, 0) from xlk (by decide +kernel)) rfl rfl ?_
  refine xw_getr (q := 132) (show xlook 217 208 = some (208, .getfield 13, 3, 12, 1, 0, 220) from xlk (by decide +kernel)) (by decide) (xobf xob_12 (by decide) (by decide)) rfl (xPT_get (k := 1) (f := 1) hPT xob_12 (by decide)) (by have := (xtg_12_1 _ xob_12.1 xob_12.2).1.1; omega) (n := 211) rfl ?_
  refine xw_iconst (n := 212) (show xlook 217 211 = some (211, .iconst 4, 1, 0, 0, 0, 0) from xlk (by decide +kernel)) rfl ?_
  refine xw_iald (show xlook 217 212 = some (212, .iaload, 1, 0, 0, 0, 0) from xlk (by decide +kernel)) (xtg_12_1 _ xob_12.1 xob_12.2).1 (by rw [(xtg_12_1 _ xob_12.1 xob_12.2).2]; decide) (n := 213) rfl ?_
  obtain ⟨q0, q1, t⟩ := t
  refine xw_icmp_ge (n := 216) (m := 256) (show xlook 217 213 = some (213, .if_icmp .ge 43, 3, 256, 0, 0, 0) from xlk (by decide +kernel)) rfl rfl q0 q1 ⟨fun c => ?_, fun c => ?_⟩
  · replace t := t.1 c
    refine xw_iload_n (n := 257) (show xlook 217 256 = some (256, .iload_n 3, 1, 0, 0, 0, 0) from xlk (by decide +kernel)) rfl rfl ?_
    exact xw_ireturn hPT (show xlook 217 257 = some (257, .ireturn, 1, 0, 0, 0, 0) from xlk (by decide +kernel)) rfl (t hPT)
  · replace t := t.2 c
    refine xw_aload_n (n := 217) (show xlook 217 216 = some (216, .aload_n 0, 1, 0, 0, 0, 0) from xlk (by decide +kernel)) rfl rfl ?_
    refine xw_iconst (n := 218) (show xlook 217 217 = some (217, .iconst 0, 1, 0, 0, 0, 0) from xlk (by decide +kernel)) rfl ?_
    refine xw_puti (show xlook 217 218 = some (218, .putfield 305, 3, 12, 27, 0, 247) from xlk (by decide +kernel)) (xobf xob_12 (by decide) (by decide)) rfl (n := 221) rfl ?_
    refine xw_aload_n (n := 222) (show xlook 217 221 = some (221, .aload_n 0, 1, 0, 0, 0, 0) from xlk (by decide +kernel)) rfl rfl ?_
    refine xw_getr (q := 143) (show xlook 217 222 = some (222, .getfield 51, 3, 12, 24, 0, 232) from xlk (by decide +kernel)) (by decide) (xobf xob_12 (by decide) (by decide)) rfl (xPT_get (k := 24) (f := 12) (xPT_fld (k := 27) hPT xob_12 (by decide) (by decide)) xob_12 (by decide)) (by have := (xtg_12_24 _ xob_12.1 xob_12.2).1.1; omega) (n := 225) rfl ?_
    refine xw_iload (n := 227) (show xlook 217 225 = some (225, .iload 4, 2, 0, 0, 0, 0) from xlk (by decide +kernel)) rfl rfl ?_
    obtain ⟨q1, t⟩ := t
    refine xw_iald2 (u := (F) (143) (x4)) (show xlook 217 227 = some (227, .iaload, 1, 0, 0, 0, 0) from xlk (by decide +kernel)) (xtg_12_24 _ xob_12.1 xob_12.2).1 (by rw [(xtg_12_24 _ xob_12.1 xob_12.2).2]; exact q1) (xup_o (by decide)) (n := 228) rfl ?_
    refine xw_iconst (n := 229) (show xlook 217 228 = some (228, .iconst (-1), 1, 0, 0, 0, 0) from xlk (by decide +kernel)) rfl ?_
    obtain ⟨q0, t⟩ := t
    refine xw_icmp_eq (n := 232) (m := 250) (show xlook 217 229 = some (229, .if_icmp .eq 21, 3, 250, 0, 0, 0) from xlk (by decide +kernel)) rfl rfl q0 ⟨by decide, by decide⟩ ⟨fun c => ?_, fun c => ?_⟩
    · replace t := t.1 c
      refine xw_iinc (n := 253) (show xlook 217 250 = some (250, .iinc 4 1, 3, 0, 0, 0, 0) from xlk (by decide +kernel)) rfl (ls' := [.ref (131), vi (x1), vi (x2), vi (x3), vi (x4 + 1), w5]) rfl rfl ?_
      refine xw_goto (m := 205) (show xlook 217 253 = some (253, .goto (-48), 3, 205, 0, 0, 0) from xlk (by decide +kernel)) rfl ?_
      exact t (xPT_fld (k := 27) hPT xob_12 (by decide) (by decide))
    · replace t := t.2 c
      refine xw_iload_n (n := 233) (show xlook 217 232 = some (232, .iload_n 3, 1, 0, 0, 0, 0) from xlk (by decide +kernel)) rfl rfl ?_
      refine xw_aload_n (n := 234) (show xlook 217 233 = some (233, .aload_n 0, 1, 0, 0, 0, 0) from xlk (by decide +kernel)) rfl rfl ?_
      refine xw_iload (n := 236) (show xlook 217 234 = some (234, .iload 4, 2, 0, 0, 0, 0) from xlk (by decide +kernel)) rfl rfl ?_
      refine xw_iload_n (n := 237) (show xlook 217 236 = some (236, .iload_n 1, 1, 0, 0, 0, 0) from xlk (by decide +kernel)) rfl rfl ?_
      obtain ⟨j1, hj1, rr1, G1, hm1, hG1, t⟩ := t
      obtain ⟨y1, rfl, t⟩ := t
      refine xw_callv (dk := j1) (o := 131) (as := [vi (x4), vi (x1)]) (show xlook 217 237 = some (237, .invokevirtual 308, 3, 216, 3, 0, 205) from xlk (by decide +kernel)) (by decide) hj1 ⟨Nat.le_of_ble_eq_true rfl, Nat.le_of_ble_eq_true rfl, Nat.le_of_ble_eq_true rfl⟩ ⟨xob_12.1, xob_12.2, by decide⟩ rfl hm1 (n := 240) rfl ?_
      show xW X d 217 240 [.ref (131), vi (x1), vi (x2), vi (x3), vi (x4), w5] [vi (y1), vi (x3)] G1 (xqi Q)
      obtain ⟨q0, t⟩ := t
      refine xw_if_eq (n := 243) (m := 247) (show xlook 217 240 = some (240, .ifCond .eq 7, 3, 247, 0, 0, 0) from xlk (by decide +kernel)) rfl rfl q0 ⟨fun c => ?_, fun c => ?_⟩
      · replace t := t.1 c
        refine xw_iconst (n := 248) (show xlook 217 247 = some (247, .iconst 1, 1, 0, 0, 0, 0) from xlk (by decide +kernel)) rfl ?_
        refine xw_iadd (n := 249) (show xlook 217 248 = some (248, .iadd, 1, 0, 0, 0, 0) from xlk (by decide +kernel)) rfl ?_
        refine xw_istore_n (n := 250) (show xlook 217 249 = some (249, .istore_n 3, 1, 0, 0, 0, 0) from xlk (by decide +kernel)) rfl (ls' := [.ref (131), vi (x1), vi (x2), vi ((x3) + (1)), vi (x4), w5]) (Nat.le_of_ble_eq_true rfl) rfl ?_
        refine xw_iinc (n := 253) (show xlook 217 250 = some (250, .iinc 4 1, 3, 0, 0, 0, 0) from xlk (by decide +kernel)) rfl (ls' := [.ref (131), vi (x1), vi (x2), vi ((x3) + (1)), vi (x4 + 1), w5]) rfl rfl ?_
        refine xw_goto (m := 205) (show xlook 217 253 = some (253, .goto (-48), 3, 205, 0, 0, 0) from xlk (by decide +kernel)) rfl ?_
        exact t hG1
      · replace t := t.2 c
        refine xw_iconst (n := 244) (show xlook 217 243 = some (243, .iconst 0, 1, 0, 0, 0, 0) from xlk (by decide +kernel)) rfl ?_
        refine xw_goto (m := 248) (show xlook 217 244 = some (244, .goto 4, 3, 248, 0, 0, 0) from xlk (by decide +kernel)) rfl ?_
        refine xw_iadd (n := 249) (show xlook 217 248 = some (248, .iadd, 1, 0, 0, 0, 0) from xlk (by decide +kernel)) rfl ?_
        refine xw_istore_n (n := 250) (show xlook 217 249 = some (249, .istore_n 3, 1, 0, 0, 0, 0) from xlk (by decide +kernel)) rfl (ls' := [.ref (131), vi (x1), vi (x2), vi ((x3) + (0)), vi (x4), w5]) (Nat.le_of_ble_eq_true rfl) rfl ?_
        refine xw_iinc (n := 253) (show xlook 217 250 = some (250, .iinc 4 1, 3, 0, 0, 0, 0) from xlk (by decide +kernel)) rfl (ls' := [.ref (131), vi (x1), vi (x2), vi ((x3) + (0)), vi (x4 + 1), w5]) rfl rfl ?_
        refine xw_goto (m := 205) (show xlook 217 253 = some (253, .goto (-48), 3, 205, 0, 0, 0) from xlk (by decide +kernel)) rfl ?_
        exact t hG1

theorem s218_0 {X : List Int32} {d : Nat} {F : XF} {Q : Int → XF → Prop} {x1 : Int} {x2 : Int} {x3 : Int} {w4 : Value} {w5 : Value} (hPT : xPT F)  (t : ∃ (j1 : Nat), j1 < d ∧ xMI X j1 155 [.ref (131), vi (x1)] (xup (F) (131) 0 (0)) (fun (y1 : Int) (G1 : XF) => (inR (y1) ∧ (((¬ (y1) = (0)) → (∃ (j2 : Nat), j2 < d ∧ xMI X j2 159 [vi (x2), vi (x3)] (G1) (fun (y2 : Int) (G2 : XF) => (inR (y2) ∧ (((¬ (y2) = (0)) → (∃ (j3 : Nat), j3 < d ∧ xMI X j3 198 [.ref (131)] (G2) (fun (y3 : Int) (G3 : XF) => (∃ (j4 : Nat), j4 < d ∧ xMV X j4 206 [.ref (131)] (G3) (fun (G4 : XF) => (∃ (j5 : Nat), j5 < d ∧ xMV X j5 158 [.ref (131), vi (x1), vi (x2), vi (x3)] (G4) (fun (G5 : XF) => (∃ (j6 : Nat), j6 < d ∧ xMI X j6 198 [.ref (131)] (G5) (fun (y6 : Int) (G6 : XF) => (∃ (j7 : Nat), j7 < d ∧ xMV X j7 207 [.ref (131)] (G6) (fun (G7 : XF) => (inR (y3) ∧ ((((y3) = ((-1))) → (xPT (G7) → Q ((-1)) (G7))) ∧ (¬ ((y3) = ((-1))) → (inR (y6) ∧ (((¬ (y6) = ((-1))) → (xPT (G7) → Q (((y6) - (y3)) + (100000)) (G7))) ∧ (¬ (¬ (y6) = ((-1))) → (xPT (G7) → Q ((-1)) (G7))))))))))))))))))) ∧ (¬ (¬ (y2) = (0)) → (xPT (G2) → Q ((-3)) (G2)))))))) ∧ (¬ (¬ (y1) = (0)) → (xPT (G1) → Q ((-2)) (G1))))))) : xW X d 218 0 [.ref (131), vi (x1), vi (x2), vi (x3), w4, w5] [] F (xqi Q) := by
  refine xw_aload_n (n := 1) (show xlook 218 0 = some (0, .aload_n 0, 1, 0, 0, 0, 0) from xlk (by decide +kernel)) rfl rfl ?_
  refine xw_iconst (n := 2) (show xlook 218 1 = some (1, .iconst 0, 1, 0, 0, 0, 0) from xlk (by decide +kernel)) rfl ?_
  refine xw_puti (show xlook 218 2 = some (2, .putfield 1, 3, 12, 0, 0, 235) from xlk (by decide +kernel)) (xobf xob_12 (by decide) (by decide)) rfl (n := 5) rfl ?_
  refine xw_aload_n (n := 6) (show xlook 218 5 = some (5, .aload_n 0, 1, 0, 0, 0, 0) from xlk (by decide +kernel)) rfl rfl ?_
  refine xw_iload_n (n := 7) (show xlook 218 6 = some (6, .iload_n 1, 1, 0, 0, 0, 0) from xlk (by decide +kernel)) rfl rfl ?_
  obtain ⟨j1, hj1, rr1, G1, hm1, hG1, t⟩ := t
  obtain ⟨y1, rfl, t⟩ := t
  refine xw_callv (dk := j1) (o := 131) (as := [vi (x1)]) (show xlook 218 7 = some (7, .invokevirtual 176, 3, 155, 2, 0, 171) from xlk (by decide +kernel)) (by decide) hj1 ⟨Nat.le_of_ble_eq_true rfl, Nat.le_of_ble_eq_true rfl, Nat.le_of_ble_eq_true rfl⟩ ⟨xob_12.1, xob_12.2, by decide⟩ rfl hm1 (n := 10) rfl ?_
  show xW X d 218 10 [.ref (131), vi (x1), vi (x2), vi (x3), w4, w5] [vi (y1)] G1 (xqi Q)
  obtain ⟨q0, t⟩ := t
  refine xw_if_ne (n := 13) (m := 16) (show xlook 218 10 = some (10, .ifCond .ne 6, 3, 16, 0, 0, 0) from xlk (by decide +kernel)) rfl rfl q0 ⟨fun c => ?_, fun c => ?_⟩
  · replace t := t.1 c
    refine xw_iload_n (n := 17) (show xlook 218 16 = some (16, .iload_n 2, 1, 0, 0, 0, 0) from xlk (by decide +kernel)) rfl rfl ?_
    refine xw_iload_n (n := 18) (show xlook 218 17 = some (17, .iload_n 3, 1, 0, 0, 0, 0) from xlk (by decide +kernel)) rfl rfl ?_
    obtain ⟨j2, hj2, rr2, G2, hm2, hG2, t⟩ := t
    obtain ⟨y2, rfl, t⟩ := t
    refine xw_calls (dk := j2) (as := [vi (x2), vi (x3)]) (show xlook 218 18 = some (18, .invokestatic 179, 3, 159, 2, 0, 172) from xlk (by decide +kernel)) (by decide) hj2 ⟨Nat.le_of_ble_eq_true rfl, Nat.le_of_ble_eq_true rfl, Nat.le_of_ble_eq_true rfl, by decide⟩ rfl hm2 (n := 21) rfl ?_
    show xW X d 218 21 [.ref (131), vi (x1), vi (x2), vi (x3), w4, w5] [vi (y2)] G2 (xqi Q)
    obtain ⟨q0, t⟩ := t
    refine xw_if_ne (n := 24) (m := 27) (show xlook 218 21 = some (21, .ifCond .ne 6, 3, 27, 0, 0, 0) from xlk (by decide +kernel)) rfl rfl q0 ⟨fun c => ?_, fun c => ?_⟩
    · replace t := t.1 c
      refine xw_aload_n (n := 28) (show xlook 218 27 = some (27, .aload_n 0, 1, 0, 0, 0, 0) from xlk (by decide +kernel)) rfl rfl ?_
      obtain ⟨j3, hj3, rr3, G3, hm3, hG3, t⟩ := t
      obtain ⟨y3, rfl, t⟩ := t
      refine xw_callv (dk := j3) (o := 131) (as := []) (show xlook 218 28 = some (28, .invokevirtual 275, 3, 198, 1, 0, 197) from xlk (by decide +kernel)) (by decide) hj3 ⟨Nat.le_of_ble_eq_true rfl, Nat.le_of_ble_eq_true rfl, Nat.le_of_ble_eq_true rfl⟩ ⟨xob_12.1, xob_12.2, by decide⟩ rfl hm3 (n := 31) rfl ?_
      show xW X d 218 31 [.ref (131), vi (x1), vi (x2), vi (x3), w4, w5] [vi (y3)] G3 (xqi Q)
      refine xw_istore (n := 33) (show xlook 218 31 = some (31, .istore 4, 2, 0, 0, 0, 0) from xlk (by decide +kernel)) rfl (ls' := [.ref (131), vi (x1), vi (x2), vi (x3), vi (y3), w5]) (Nat.le_of_ble_eq_true rfl) rfl ?_
      refine xw_aload_n (n := 34) (show xlook 218 33 = some (33, .aload_n 0, 1, 0, 0, 0, 0) from xlk (by decide +kernel)) rfl rfl ?_
      obtain ⟨j4, hj4, rr4, G4, hm4, hG4, t⟩ := t
      obtain ⟨rfl, t⟩ := t
      refine xw_callv (dk := j4) (o := 131) (as := []) (show xlook 218 34 = some (34, .invokevirtual 289, 3, 206, 1, 0, 201) from xlk (by decide +kernel)) (by decide) hj4 ⟨Nat.le_of_ble_eq_true rfl, Nat.le_of_ble_eq_true rfl, Nat.le_of_ble_eq_true rfl⟩ ⟨xob_12.1, xob_12.2, by decide⟩ rfl hm4 (n := 37) rfl ?_
      show xW X d 218 37 [.ref (131), vi (x1), vi (x2), vi (x3), vi (y3), w5] [] G4 (xqi Q)
      refine xw_aload_n (n := 38) (show xlook 218 37 = some (37, .aload_n 0, 1, 0, 0, 0, 0) from xlk (by decide +kernel)) rfl rfl ?_
      refine xw_iload_n (n := 39) (show xlook 218 38 = some (38, .iload_n 1, 1, 0, 0, 0, 0) from xlk (by decide +kernel)) rfl rfl ?_
      refine xw_iload_n (n := 40) (show xlook 218 39 = some (39, .iload_n 2, 1, 0, 0, 0, 0) from xlk (by decide +kernel)) rfl rfl ?_
      refine xw_iload_n (n := 41) (show xlook 218 40 = some (40, .iload_n 3, 1, 0, 0, 0, 0) from xlk (by decide +kernel)) rfl rfl ?_
      obtain ⟨j5, hj5, rr5, G5, hm5, hG5, t⟩ := t
      obtain ⟨rfl, t⟩ := t
      refine xw_callv (dk := j5) (o := 131) (as := [vi (x1), vi (x2), vi (x3)]) (show xlook 218 41 = some (41, .invokevirtual 183, 3, 158, 4, 0, 173) from xlk (by decide +kernel)) (by decide) hj5 ⟨Nat.le_of_ble_eq_true rfl, Nat.le_of_ble_eq_true rfl, Nat.le_of_ble_eq_true rfl⟩ ⟨xob_12.1, xob_12.2, by decide⟩ rfl hm5 (n := 44) rfl ?_
      show xW X d 218 44 [.ref (131), vi (x1), vi (x2), vi (x3), vi (y3), w5] [] G5 (xqi Q)
      refine xw_aload_n (n := 45) (show xlook 218 44 = some (44, .aload_n 0, 1, 0, 0, 0, 0) from xlk (by decide +kernel)) rfl rfl ?_
      obtain ⟨j6, hj6, rr6, G6, hm6, hG6, t⟩ := t
      obtain ⟨y6, rfl, t⟩ := t
      refine xw_callv (dk := j6) (o := 131) (as := []) (show xlook 218 45 = some (45, .invokevirtual 275, 3, 198, 1, 0, 197) from xlk (by decide +kernel)) (by decide) hj6 ⟨Nat.le_of_ble_eq_true rfl, Nat.le_of_ble_eq_true rfl, Nat.le_of_ble_eq_true rfl⟩ ⟨xob_12.1, xob_12.2, by decide⟩ rfl hm6 (n := 48) rfl ?_
      show xW X d 218 48 [.ref (131), vi (x1), vi (x2), vi (x3), vi (y3), w5] [vi (y6)] G6 (xqi Q)
      refine xw_istore (n := 50) (show xlook 218 48 = some (48, .istore 5, 2, 0, 0, 0, 0) from xlk (by decide +kernel)) rfl (ls' := [.ref (131), vi (x1), vi (x2), vi (x3), vi (y3), vi (y6)]) (Nat.le_of_ble_eq_true rfl) rfl ?_
      refine xw_aload_n (n := 51) (show xlook 218 50 = some (50, .aload_n 0, 1, 0, 0, 0, 0) from xlk (by decide +kernel)) rfl rfl ?_
      obtain ⟨j7, hj7, rr7, G7, hm7, hG7, t⟩ := t
      obtain ⟨rfl, t⟩ := t
      refine xw_callv (dk := j7) (o := 131) (as := []) (show xlook 218 51 = some (51, .invokevirtual 295, 3, 207, 1, 0, 203) from xlk (by decide +kernel)) (by decide) hj7 ⟨Nat.le_of_ble_eq_true rfl, Nat.le_of_ble_eq_true rfl, Nat.le_of_ble_eq_true rfl⟩ ⟨xob_12.1, xob_12.2, by decide⟩ rfl hm7 (n := 54) rfl ?_
      show xW X d 218 54 [.ref (131), vi (x1), vi (x2), vi (x3), vi (y3), vi (y6)] [] G7 (xqi Q)
      refine xw_iload (n := 56) (show xlook 218 54 = some (54, .iload 4, 2, 0, 0, 0, 0) from xlk (by decide +kernel)) rfl rfl ?_
      refine xw_iconst (n := 57) (show xlook 218 56 = some (56, .iconst (-1), 1, 0, 0, 0, 0) from xlk (by decide +kernel)) rfl ?_
      obtain ⟨q0, t⟩ := t
      refine xw_icmp_eq (n := 60) (m := 66) (show xlook 218 57 = some (57, .if_icmp .eq 9, 3, 66, 0, 0, 0) from xlk (by decide +kernel)) rfl rfl q0 ⟨by decide, by decide⟩ ⟨fun c => ?_, fun c => ?_⟩
      · replace t := t.1 c
        refine xw_iconst (n := 67) (show xlook 218 66 = some (66, .iconst (-1), 1, 0, 0, 0, 0) from xlk (by decide +kernel)) rfl ?_
        refine xw_goto (m := 79) (show xlook 218 67 = some (67, .goto 12, 3, 79, 0, 0, 0) from xlk (by decide +kernel)) rfl ?_
        exact xw_ireturn hG7 (show xlook 218 79 = some (79, .ireturn, 1, 0, 0, 0, 0) from xlk (by decide +kernel)) rfl (t hG7)
      · replace t := t.2 c
        refine xw_iload (n := 62) (show xlook 218 60 = some (60, .iload 5, 2, 0, 0, 0, 0) from xlk (by decide +kernel)) rfl rfl ?_
        refine xw_iconst (n := 63) (show xlook 218 62 = some (62, .iconst (-1), 1, 0, 0, 0, 0) from xlk (by decide +kernel)) rfl ?_
        obtain ⟨q0, t⟩ := t
        refine xw_icmp_ne (n := 66) (m := 70) (show xlook 218 63 = some (63, .if_icmp .ne 7, 3, 70, 0, 0, 0) from xlk (by decide +kernel)) rfl rfl q0 ⟨by decide, by decide⟩ ⟨fun c => ?_, fun c => ?_⟩
        · replace t := t.1 c
          refine xw_iload (n := 72) (show xlook 218 70 = some (70, .iload 5, 2, 0, 0, 0, 0) from xlk (by decide +kernel)) rfl rfl ?_
          refine xw_iload (n := 74) (show xlook 218 72 = some (72, .iload 4, 2, 0, 0, 0, 0) from xlk (by decide +kernel)) rfl rfl ?_
          refine xw_isub (n := 75) (show xlook 218 74 = some (74, .isub, 1, 0, 0, 0, 0) from xlk (by decide +kernel)) rfl ?_
          refine xw_ldcw (n := 78) (show xlook 218 75 = some (75, .ldc_w 256, 3, 0, 0, 100000, 1) from xlk (by decide +kernel)) rfl rfl ?_
          refine xw_iadd (n := 79) (show xlook 218 78 = some (78, .iadd, 1, 0, 0, 0, 0) from xlk (by decide +kernel)) rfl ?_
          exact xw_ireturn hG7 (show xlook 218 79 = some (79, .ireturn, 1, 0, 0, 0, 0) from xlk (by decide +kernel)) rfl (t hG7)
        · replace t := t.2 c
          refine xw_iconst (n := 67) (show xlook 218 66 = some (66, .iconst (-1), 1, 0, 0, 0, 0) from xlk (by decide +kernel)) rfl ?_
          refine xw_goto (m := 79) (show xlook 218 67 = some (67, .goto 12, 3, 79, 0, 0, 0) from xlk (by decide +kernel)) rfl ?_
          exact xw_ireturn hG7 (show xlook 218 79 = some (79, .ireturn, 1, 0, 0, 0, 0) from xlk (by decide +kernel)) rfl (t hG7)
    · replace t := t.2 c
      refine xw_bipush (n := 26) (show xlook 218 24 = some (24, .bipush (-3), 2, 0, 0, 0, 0) from xlk (by decide +kernel)) rfl (by decide) ?_
      exact xw_ireturn hG2 (show xlook 218 26 = some (26, .ireturn, 1, 0, 0, 0, 0) from xlk (by decide +kernel)) rfl (t hG2)
  · replace t := t.2 c
    refine xw_bipush (n := 15) (show xlook 218 13 = some (13, .bipush (-2), 2, 0, 0, 0, 0) from xlk (by decide +kernel)) rfl (by decide) ?_
    exact xw_ireturn hG1 (show xlook 218 15 = some (15, .ireturn, 1, 0, 0, 0, 0) from xlk (by decide +kernel)) rfl (t hG1)
theorem m218 {X : List Int32} {d : Nat} {F : XF} {Q : Int → XF → Prop} {x1 : Int} {x2 : Int} {x3 : Int} (hPT : xPT F)  (t : ∃ (j1 : Nat), j1 < d ∧ xMI X j1 155 [.ref (131), vi (x1)] (xup (F) (131) 0 (0)) (fun (y1 : Int) (G1 : XF) => (inR (y1) ∧ (((¬ (y1) = (0)) → (∃ (j2 : Nat), j2 < d ∧ xMI X j2 159 [vi (x2), vi (x3)] (G1) (fun (y2 : Int) (G2 : XF) => (inR (y2) ∧ (((¬ (y2) = (0)) → (∃ (j3 : Nat), j3 < d ∧ xMI X j3 198 [.ref (131)] (G2) (fun (y3 : Int) (G3 : XF) => (∃ (j4 : Nat), j4 < d ∧ xMV X j4 206 [.ref (131)] (G3) (fun (G4 : XF) => (∃ (j5 : Nat), j5 < d ∧ xMV X j5 158 [.ref (131), vi (x1), vi (x2), vi (x3)] (G4) (fun (G5 : XF) => (∃ (j6 : Nat), j6 < d ∧ xMI X j6 198 [.ref (131)] (G5) (fun (y6 : Int) (G6 : XF) => (∃ (j7 : Nat), j7 < d ∧ xMV X j7 207 [.ref (131)] (G6) (fun (G7 : XF) => (inR (y3) ∧ ((((y3) = ((-1))) → (xPT (G7) → Q ((-1)) (G7))) ∧ (¬ ((y3) = ((-1))) → (inR (y6) ∧ (((¬ (y6) = ((-1))) → (xPT (G7) → Q (((y6) - (y3)) + (100000)) (G7))) ∧ (¬ (¬ (y6) = ((-1))) → (xPT (G7) → Q ((-1)) (G7))))))))))))))))))) ∧ (¬ (¬ (y2) = (0)) → (xPT (G2) → Q ((-3)) (G2)))))))) ∧ (¬ (¬ (y1) = (0)) → (xPT (G1) → Q ((-2)) (G1))))))) : xMI X d 218 [.ref (131), vi (x1), vi (x2), vi (x3)] F Q := by
  show xW X d 218 0 [.ref (131), vi (x1), vi (x2), vi (x3), xU0, xU0] [] F (xqi Q)
  exact s218_0 hPT  t

theorem s219_0 {X : List Int32} {d : Nat} {F : XF} {Q : Int → XF → Prop} {l1 : Int} {l3 : Int} {w5 : Value} {w6 : Value} {w7 : Value} {w8 : Value} (hPT : xPT F)  (t : inL (l1) ∧ inL (0) ∧ (inR (xcmp (l1) (0)) ∧ ((((xcmp (l1) (0)) < (0)) → (xPT (xup (F) (131) 0 (0)) → Q ((-3)) (xup (F) (131) 0 (0)))) ∧ (¬ ((xcmp (l1) (0)) < (0)) → (inL (l3) ∧ inL (0) ∧ (inR (xcmp (l3) (0)) ∧ ((((0) ≤ (xcmp (l3) (0))) → (∃ (j1 : Nat), j1 < d ∧ xMI X j1 198 [.ref (131)] (xup (F) (131) 0 (0)) (fun (y1 : Int) (G1 : XF) => ((inR (y1)) ∧ (inL (y1) ∧ inL ((-1)) ∧ (inR (xcmp (y1) ((-1))) ∧ (((¬ (xcmp (y1) ((-1))) = (0)) → (∃ (j2 : Nat), j2 < d ∧ xMI X j2 195 [.ref (131), vi (132)] (G1) (fun (y2 : Int) (G2 : XF) => ((inR (y2)) ∧ (inL (y1) ∧ inL (0) ∧ (inR (xcmp (y1) (0)) ∧ ((((xcmp (y1) (0)) ≤ (0)) → (xPT (G2) → xW X d 219 69 [.ref (131), vl (l1), xU0, vl (l3), xU0, vl (y1), xU0, vl (y2), xU0] [] (G2) (xql Q))) ∧ (¬ ((xcmp (y1) (0)) ≤ (0)) → ((0 ≤ (9223372036854775807 : Int) ∧ (9223372036854775807 : Int) ≤ 9223372036854775807) ∧ (0 < (y1 : Int) ∧ (y1 : Int) ≤ 9223372036854775807) ∧ (inL (l1) ∧ inL ((9223372036854775807) / (y1)) ∧ (inR (xcmp (l1) ((9223372036854775807) / (y1))) ∧ ((((0) < (xcmp (l1) ((9223372036854775807) / (y1)))) → (xPT (G2) → Q ((-6)) (G2))) ∧ (¬ ((0) < (xcmp (l1) ((9223372036854775807) / (y1)))) → (xPT (G2) → xW X d 219 69 [.ref (131), vl (l1), xU0, vl (l3), xU0, vl (y1), xU0, vl (y2), xU0] [] (G2) (xql Q))))))))))))))) ∧ (¬ (¬ (xcmp (y1) ((-1))) = (0)) → (xPT (G1) → Q ((-1)) (G1)))))))))) ∧ (¬ ((0) ≤ (xcmp (l3) (0))) → (xPT (xup (F) (131) 0 (0)) → Q ((-3)) (xup (F) (131) 0 (0))))))))))) : xW X d 219 0 [.ref (131), vl (l1), xU0, vl (l3), xU0, w5, w6, w7, w8] [] F (xql Q) := by
  refine xw_aload_n (n := 1) (show xlook 219 0 = some (0, .aload_n 0, 1, 0, 0, 0, 0) from xlk (by decide +kernel)) rfl rfl ?_
  refine xw_iconst (n := 2) (show xlook 219 1 = some (1, .iconst 0, 1, 0, 0, 0, 0) from xlk (by decide +kernel)) rfl ?_
  refine xw_puti (show xlook 219 2 = some (2, .putfield 1, 3, 12, 0, 0, 235) from xlk (by decide +kernel)) (xobf xob_12 (by decide) (by decide)) rfl (n := 5) rfl ?_
  refine xw_lload_n (n := 6) (show xlook 219 5 = some (5, .lload_n 1, 1, 0, 0, 0, 0) from xlk (by decide +kernel)) rfl rfl ?_
  refine xw_lconst (n := 7) (show xlook 219 6 = some (6, .lconst 0, 1, 0, 0, 0, 0) from xlk (by decide +kernel)) rfl (k := 0) (by decide) ?_
  obtain ⟨q1, q2, t⟩ := t
  refine xw_lcmp (n := 8) (show xlook 219 7 = some (7, .lcmp, 1, 0, 0, 0, 0) from xlk (by decide +kernel)) rfl q1 q2 ?_
  obtain ⟨q0, t⟩ := t
  refine xw_if_lt (n := 11) (m := 17) (show xlook 219 8 = some (8, .ifCond .lt 9, 3, 17, 0, 0, 0) from xlk (by decide +kernel)) rfl rfl q0 ⟨fun c => ?_, fun c => ?_⟩
  · replace t := t.1 c
    refine xw_ldc2 (n := 20) (show xlook 219 17 = some (17, .ldc2_w 313, 3, 0, 0, (-3), 17) from xlk (by decide +kernel)) rfl ?_
    exact xw_lreturn (xPT_fld (k := 0) hPT xob_12 (by decide) (by decide)) (show xlook 219 20 = some (20, .lreturn, 1, 0, 0, 0, 0) from xlk (by decide +kernel)) rfl (t (xPT_fld (k := 0) hPT xob_12 (by decide) (by decide)))
  · replace t := t.2 c
    refine xw_lload_n (n := 12) (show xlook 219 11 = some (11, .lload_n 3, 1, 0, 0, 0, 0) from xlk (by decide +kernel)) rfl rfl ?_
    refine xw_lconst (n := 13) (show xlook 219 12 = some (12, .lconst 0, 1, 0, 0, 0, 0) from xlk (by decide +kernel)) rfl (k := 0) (by decide) ?_
    obtain ⟨q1, q2, t⟩ := t
    refine xw_lcmp (n := 14) (show xlook 219 13 = some (13, .lcmp, 1, 0, 0, 0, 0) from xlk (by decide +kernel)) rfl q1 q2 ?_
    obtain ⟨q0, t⟩ := t
    refine xw_if_ge (n := 17) (m := 21) (show xlook 219 14 = some (14, .ifCond .ge 7, 3, 21, 0, 0, 0) from xlk (by decide +kernel)) rfl rfl q0 ⟨fun c => ?_, fun c => ?_⟩
    · replace t := t.1 c
      refine xw_aload_n (n := 22) (show xlook 219 21 = some (21, .aload_n 0, 1, 0, 0, 0, 0) from xlk (by decide +kernel)) rfl rfl ?_
      obtain ⟨j1, hj1, rr1, G1, hm1, hG1, t⟩ := t
      obtain ⟨y1, rfl, t⟩ := t
      refine xw_callv (dk := j1) (o := 131) (as := []) (show xlook 219 22 = some (22, .invokevirtual 275, 3, 198, 1, 0, 197) from xlk (by decide +kernel)) (by decide) hj1 ⟨Nat.le_of_ble_eq_true rfl, Nat.le_of_ble_eq_true rfl, Nat.le_of_ble_eq_true rfl⟩ ⟨xob_12.1, xob_12.2, by decide⟩ rfl hm1 (n := 25) rfl ?_
      show xW X d 219 25 [.ref (131), vl (l1), xU0, vl (l3), xU0, w5, w6, w7, w8] [vi (y1)] G1 (xql Q)
      obtain ⟨q1, t⟩ := t
      refine xw_i2l (n := 26) (show xlook 219 25 = some (25, .i2l, 1, 0, 0, 0, 0) from xlk (by decide +kernel)) rfl q1 ?_
      refine xw_lstore (n := 28) (show xlook 219 26 = some (26, .lstore 5, 2, 0, 0, 0, 0) from xlk (by decide +kernel)) rfl (ls' := [.ref (131), vl (l1), xU0, vl (l3), xU0, vl (y1), xU0, w7, w8]) (Nat.le_of_ble_eq_true rfl) rfl ?_
      refine xw_lload (n := 30) (show xlook 219 28 = some (28, .lload 5, 2, 0, 0, 0, 0) from xlk (by decide +kernel)) rfl rfl ?_
      refine xw_ldc2 (n := 33) (show xlook 219 30 = some (30, .ldc2_w 315, 3, 0, 0, (-1), 18) from xlk (by decide +kernel)) rfl ?_
      obtain ⟨q1, q2, t⟩ := t
      refine xw_lcmp (n := 34) (show xlook 219 33 = some (33, .lcmp, 1, 0, 0, 0, 0) from xlk (by decide +kernel)) rfl q1 q2 ?_
      obtain ⟨q0, t⟩ := t
      refine xw_if_ne (n := 37) (m := 41) (show xlook 219 34 = some (34, .ifCond .ne 7, 3, 41, 0, 0, 0) from xlk (by decide +kernel)) rfl rfl q0 ⟨fun c => ?_, fun c => ?_⟩
      · replace t := t.1 c
        refine xw_aload_n (n := 42) (show xlook 219 41 = some (41, .aload_n 0, 1, 0, 0, 0, 0) from xlk (by decide +kernel)) rfl rfl ?_
        refine xw_sipush (n := 45) (show xlook 219 42 = some (42, .sipush 132, 3, 0, 0, 0, 0) from xlk (by decide +kernel)) rfl (by decide) ?_
        obtain ⟨j2, hj2, rr2, G2, hm2, hG2, t⟩ := t
        obtain ⟨y2, rfl, t⟩ := t
        refine xw_callv (dk := j2) (o := 131) (as := [vi (132)]) (show xlook 219 45 = some (45, .invokevirtual 281, 3, 195, 2, 0, 199) from xlk (by decide +kernel)) (by decide) hj2 ⟨Nat.le_of_ble_eq_true rfl, Nat.le_of_ble_eq_true rfl, Nat.le_of_ble_eq_true rfl⟩ ⟨xob_12.1, xob_12.2, by decide⟩ rfl hm2 (n := 48) rfl ?_
        show xW X d 219 48 [.ref (131), vl (l1), xU0, vl (l3), xU0, vl (y1), xU0, w7, w8] [vi (y2)] G2 (xql Q)
        obtain ⟨q1, t⟩ := t
        refine xw_i2l (n := 49) (show xlook 219 48 = some (48, .i2l, 1, 0, 0, 0, 0) from xlk (by decide +kernel)) rfl q1 ?_
        refine xw_lstore (n := 51) (show xlook 219 49 = some (49, .lstore 7, 2, 0, 0, 0, 0) from xlk (by decide +kernel)) rfl (ls' := [.ref (131), vl (l1), xU0, vl (l3), xU0, vl (y1), xU0, vl (y2), xU0]) (Nat.le_of_ble_eq_true rfl) rfl ?_
        refine xw_lload (n := 53) (show xlook 219 51 = some (51, .lload 5, 2, 0, 0, 0, 0) from xlk (by decide +kernel)) rfl rfl ?_
        refine xw_lconst (n := 54) (show xlook 219 53 = some (53, .lconst 0, 1, 0, 0, 0, 0) from xlk (by decide +kernel)) rfl (k := 0) (by decide) ?_
        obtain ⟨q1, q2, t⟩ := t
        refine xw_lcmp (n := 55) (show xlook 219 54 = some (54, .lcmp, 1, 0, 0, 0, 0) from xlk (by decide +kernel)) rfl q1 q2 ?_
        obtain ⟨q0, t⟩ := t
        refine xw_if_le (n := 58) (m := 69) (show xlook 219 55 = some (55, .ifCond .le 14, 3, 69, 0, 0, 0) from xlk (by decide +kernel)) rfl rfl q0 ⟨fun c => ?_, fun c => ?_⟩
        · replace t := t.1 c
          exact t hG2
        · replace t := t.2 c
          refine xw_lload_n (n := 59) (show xlook 219 58 = some (58, .lload_n 1, 1, 0, 0, 0, 0) from xlk (by decide +kernel)) rfl rfl ?_
          refine xw_ldc2 (n := 62) (show xlook 219 59 = some (59, .ldc2_w 319, 3, 0, 0, 9223372036854775807, 19) from xlk (by decide +kernel)) rfl ?_
          refine xw_lload (n := 64) (show xlook 219 62 = some (62, .lload 5, 2, 0, 0, 0, 0) from xlk (by decide +kernel)) rfl rfl ?_
          obtain ⟨q1, q2, t⟩ := t
          refine xw_ldiv (n := 65) (show xlook 219 64 = some (64, .ldiv, 1, 0, 0, 0, 0) from xlk (by decide +kernel)) rfl q1 q2 ?_
          obtain ⟨q1, q2, t⟩ := t
          refine xw_lcmp (n := 66) (show xlook 219 65 = some (65, .lcmp, 1, 0, 0, 0, 0) from xlk (by decide +kernel)) rfl q1 q2 ?_
          obtain ⟨q0, t⟩ := t
          refine xw_if_gt (n := 69) (m := 87) (show xlook 219 66 = some (66, .ifCond .gt 21, 3, 87, 0, 0, 0) from xlk (by decide +kernel)) rfl rfl q0 ⟨fun c => ?_, fun c => ?_⟩
          · replace t := t.1 c
            refine xw_ldc2 (n := 90) (show xlook 219 87 = some (87, .ldc2_w 321, 3, 0, 0, (-6), 20) from xlk (by decide +kernel)) rfl ?_
            exact xw_lreturn hG2 (show xlook 219 90 = some (90, .lreturn, 1, 0, 0, 0, 0) from xlk (by decide +kernel)) rfl (t hG2)
          · replace t := t.2 c
            exact t hG2
      · replace t := t.2 c
        refine xw_ldc2 (n := 40) (show xlook 219 37 = some (37, .ldc2_w 315, 3, 0, 0, (-1), 18) from xlk (by decide +kernel)) rfl ?_
        exact xw_lreturn hG1 (show xlook 219 40 = some (40, .lreturn, 1, 0, 0, 0, 0) from xlk (by decide +kernel)) rfl (t hG1)
    · replace t := t.2 c
      refine xw_ldc2 (n := 20) (show xlook 219 17 = some (17, .ldc2_w 313, 3, 0, 0, (-3), 17) from xlk (by decide +kernel)) rfl ?_
      exact xw_lreturn (xPT_fld (k := 0) hPT xob_12 (by decide) (by decide)) (show xlook 219 20 = some (20, .lreturn, 1, 0, 0, 0, 0) from xlk (by decide +kernel)) rfl (t (xPT_fld (k := 0) hPT xob_12 (by decide) (by decide)))
theorem m219 {X : List Int32} {d : Nat} {F : XF} {Q : Int → XF → Prop} {l1 : Int} {l3 : Int} (hPT : xPT F)  (t : inL (l1) ∧ inL (0) ∧ (inR (xcmp (l1) (0)) ∧ ((((xcmp (l1) (0)) < (0)) → (xPT (xup (F) (131) 0 (0)) → Q ((-3)) (xup (F) (131) 0 (0)))) ∧ (¬ ((xcmp (l1) (0)) < (0)) → (inL (l3) ∧ inL (0) ∧ (inR (xcmp (l3) (0)) ∧ ((((0) ≤ (xcmp (l3) (0))) → (∃ (j1 : Nat), j1 < d ∧ xMI X j1 198 [.ref (131)] (xup (F) (131) 0 (0)) (fun (y1 : Int) (G1 : XF) => ((inR (y1)) ∧ (inL (y1) ∧ inL ((-1)) ∧ (inR (xcmp (y1) ((-1))) ∧ (((¬ (xcmp (y1) ((-1))) = (0)) → (∃ (j2 : Nat), j2 < d ∧ xMI X j2 195 [.ref (131), vi (132)] (G1) (fun (y2 : Int) (G2 : XF) => ((inR (y2)) ∧ (inL (y1) ∧ inL (0) ∧ (inR (xcmp (y1) (0)) ∧ ((((xcmp (y1) (0)) ≤ (0)) → (xPT (G2) → xW X d 219 69 [.ref (131), vl (l1), xU0, vl (l3), xU0, vl (y1), xU0, vl (y2), xU0] [] (G2) (xql Q))) ∧ (¬ ((xcmp (y1) (0)) ≤ (0)) → ((0 ≤ (9223372036854775807 : Int) ∧ (9223372036854775807 : Int) ≤ 9223372036854775807) ∧ (0 < (y1 : Int) ∧ (y1 : Int) ≤ 9223372036854775807) ∧ (inL (l1) ∧ inL ((9223372036854775807) / (y1)) ∧ (inR (xcmp (l1) ((9223372036854775807) / (y1))) ∧ ((((0) < (xcmp (l1) ((9223372036854775807) / (y1)))) → (xPT (G2) → Q ((-6)) (G2))) ∧ (¬ ((0) < (xcmp (l1) ((9223372036854775807) / (y1)))) → (xPT (G2) → xW X d 219 69 [.ref (131), vl (l1), xU0, vl (l3), xU0, vl (y1), xU0, vl (y2), xU0] [] (G2) (xql Q))))))))))))))) ∧ (¬ (¬ (xcmp (y1) ((-1))) = (0)) → (xPT (G1) → Q ((-1)) (G1)))))))))) ∧ (¬ ((0) ≤ (xcmp (l3) (0))) → (xPT (xup (F) (131) 0 (0)) → Q ((-3)) (xup (F) (131) 0 (0))))))))))) : xML X d 219 [.ref (131), vl (l1), vl (l3)] F Q := by
  show xW X d 219 0 [.ref (131), vl (l1), xU0, vl (l3), xU0, xU0, xU0, xU0, xU0] [] F (xql Q)
  exact s219_0 hPT  t

theorem s219_69 {X : List Int32} {d : Nat} {F : XF} {Q : Int → XF → Prop} {l1 : Int} {l3 : Int} {l5 : Int} {l7 : Int} (hPT : xPT F)  (t : inL (l7) ∧ inL (0) ∧ (inR (xcmp (l7) (0)) ∧ ((((xcmp (l7) (0)) ≤ (0)) → (xPT (F) → xW X d 219 91 [.ref (131), vl (l1), xU0, vl (l3), xU0, vl (l5), xU0, vl (l7), xU0] [] (F) (xql Q))) ∧ (¬ ((xcmp (l7) (0)) ≤ (0)) → ((0 ≤ (9223372036854775807 : Int) ∧ (9223372036854775807 : Int) ≤ 9223372036854775807) ∧ (0 < (l7 : Int) ∧ (l7 : Int) ≤ 9223372036854775807) ∧ (inL (l3) ∧ inL ((9223372036854775807) / (l7)) ∧ (inR (xcmp (l3) ((9223372036854775807) / (l7))) ∧ ((((xcmp (l3) ((9223372036854775807) / (l7))) ≤ (0)) → (xPT (F) → xW X d 219 91 [.ref (131), vl (l1), xU0, vl (l3), xU0, vl (l5), xU0, vl (l7), xU0] [] (F) (xql Q))) ∧ (¬ ((xcmp (l3) ((9223372036854775807) / (l7))) ≤ (0)) → (xPT (F) → Q ((-6)) (F))))))))))) : xW X d 219 69 [.ref (131), vl (l1), xU0, vl (l3), xU0, vl (l5), xU0, vl (l7), xU0] [] F (xql Q) := by
  refine xw_lload (n := 71) (show xlook 219 69 = some (69, .lload 7, 2, 0, 0, 0, 0) from xlk (by decide +kernel)) rfl rfl ?_
  refine xw_lconst (n := 72) (show xlook 219 71 = some (71, .lconst 0, 1, 0, 0, 0, 0) from xlk (by decide +kernel)) rfl (k := 0) (by decide) ?_
  obtain ⟨q1, q2, t⟩ := t
  refine xw_lcmp (n := 73) (show xlook 219 72 = some (72, .lcmp, 1, 0, 0, 0, 0) from xlk (by decide +kernel)) rfl q1 q2 ?_
  obtain ⟨q0, t⟩ := t
  refine xw_if_le (n := 76) (m := 91) (show xlook 219 73 = some (73, .ifCond .le 18, 3, 91, 0, 0, 0) from xlk (by decide +kernel)) rfl rfl q0 ⟨fun c => ?_, fun c => ?_⟩
  · replace t := t.1 c
    exact t hPT
  · replace t := t.2 c
    refine xw_lload_n (n := 77) (show xlook 219 76 = some (76, .lload_n 3, 1, 0, 0, 0, 0) from xlk (by decide +kernel)) rfl rfl ?_
    refine xw_ldc2 (n := 80) (show xlook 219 77 = some (77, .ldc2_w 319, 3, 0, 0, 9223372036854775807, 19) from xlk (by decide +kernel)) rfl ?_
    refine xw_lload (n := 82) (show xlook 219 80 = some (80, .lload 7, 2, 0, 0, 0, 0) from xlk (by decide +kernel)) rfl rfl ?_
    obtain ⟨q1, q2, t⟩ := t
    refine xw_ldiv (n := 83) (show xlook 219 82 = some (82, .ldiv, 1, 0, 0, 0, 0) from xlk (by decide +kernel)) rfl q1 q2 ?_
    obtain ⟨q1, q2, t⟩ := t
    refine xw_lcmp (n := 84) (show xlook 219 83 = some (83, .lcmp, 1, 0, 0, 0, 0) from xlk (by decide +kernel)) rfl q1 q2 ?_
    obtain ⟨q0, t⟩ := t
    refine xw_if_le (n := 87) (m := 91) (show xlook 219 84 = some (84, .ifCond .le 7, 3, 91, 0, 0, 0) from xlk (by decide +kernel)) rfl rfl q0 ⟨fun c => ?_, fun c => ?_⟩
    · replace t := t.1 c
      exact t hPT
    · replace t := t.2 c
      refine xw_ldc2 (n := 90) (show xlook 219 87 = some (87, .ldc2_w 321, 3, 0, 0, (-6), 20) from xlk (by decide +kernel)) rfl ?_
      exact xw_lreturn hPT (show xlook 219 90 = some (90, .lreturn, 1, 0, 0, 0, 0) from xlk (by decide +kernel)) rfl (t hPT)

theorem s219_91 {X : List Int32} {d : Nat} {F : XF} {Q : Int → XF → Prop} {l1 : Int} {l3 : Int} {l5 : Int} {l7 : Int} (hPT : xPT F)  (t : inL ((l1) * (l5)) ∧ inL ((9223372036854775807) - ((l3) * (l7))) ∧ (inR (xcmp ((l1) * (l5)) ((9223372036854775807) - ((l3) * (l7)))) ∧ ((((xcmp ((l1) * (l5)) ((9223372036854775807) - ((l3) * (l7)))) ≤ (0)) → (xPT (F) → Q (((l1) * (l5)) + ((l3) * (l7))) (F))) ∧ (¬ ((xcmp ((l1) * (l5)) ((9223372036854775807) - ((l3) * (l7)))) ≤ (0)) → (xPT (F) → Q ((-6)) (F)))))) : xW X d 219 91 [.ref (131), vl (l1), xU0, vl (l3), xU0, vl (l5), xU0, vl (l7), xU0] [] F (xql Q) := by
  refine xw_lload_n (n := 92) (show xlook 219 91 = some (91, .lload_n 1, 1, 0, 0, 0, 0) from xlk (by decide +kernel)) rfl rfl ?_
  refine xw_lload (n := 94) (show xlook 219 92 = some (92, .lload 5, 2, 0, 0, 0, 0) from xlk (by decide +kernel)) rfl rfl ?_
  refine xw_lmul (n := 95) (show xlook 219 94 = some (94, .lmul, 1, 0, 0, 0, 0) from xlk (by decide +kernel)) rfl ?_
  refine xw_ldc2 (n := 98) (show xlook 219 95 = some (95, .ldc2_w 319, 3, 0, 0, 9223372036854775807, 19) from xlk (by decide +kernel)) rfl ?_
  refine xw_lload_n (n := 99) (show xlook 219 98 = some (98, .lload_n 3, 1, 0, 0, 0, 0) from xlk (by decide +kernel)) rfl rfl ?_
  refine xw_lload (n := 101) (show xlook 219 99 = some (99, .lload 7, 2, 0, 0, 0, 0) from xlk (by decide +kernel)) rfl rfl ?_
  refine xw_lmul (n := 102) (show xlook 219 101 = some (101, .lmul, 1, 0, 0, 0, 0) from xlk (by decide +kernel)) rfl ?_
  refine xw_lsub (n := 103) (show xlook 219 102 = some (102, .lsub, 1, 0, 0, 0, 0) from xlk (by decide +kernel)) rfl ?_
  obtain ⟨q1, q2, t⟩ := t
  refine xw_lcmp (n := 104) (show xlook 219 103 = some (103, .lcmp, 1, 0, 0, 0, 0) from xlk (by decide +kernel)) rfl q1 q2 ?_
  obtain ⟨q0, t⟩ := t
  refine xw_if_le (n := 107) (m := 113) (show xlook 219 104 = some (104, .ifCond .le 9, 3, 113, 0, 0, 0) from xlk (by decide +kernel)) rfl rfl q0 ⟨fun c => ?_, fun c => ?_⟩
  · replace t := t.1 c
    refine xw_lload_n (n := 114) (show xlook 219 113 = some (113, .lload_n 1, 1, 0, 0, 0, 0) from xlk (by decide +kernel)) rfl rfl ?_
    refine xw_lload (n := 116) (show xlook 219 114 = some (114, .lload 5, 2, 0, 0, 0, 0) from xlk (by decide +kernel)) rfl rfl ?_
    refine xw_lmul (n := 117) (show xlook 219 116 = some (116, .lmul, 1, 0, 0, 0, 0) from xlk (by decide +kernel)) rfl ?_
    refine xw_lload_n (n := 118) (show xlook 219 117 = some (117, .lload_n 3, 1, 0, 0, 0, 0) from xlk (by decide +kernel)) rfl rfl ?_
    refine xw_lload (n := 120) (show xlook 219 118 = some (118, .lload 7, 2, 0, 0, 0, 0) from xlk (by decide +kernel)) rfl rfl ?_
    refine xw_lmul (n := 121) (show xlook 219 120 = some (120, .lmul, 1, 0, 0, 0, 0) from xlk (by decide +kernel)) rfl ?_
    refine xw_ladd (n := 122) (show xlook 219 121 = some (121, .ladd, 1, 0, 0, 0, 0) from xlk (by decide +kernel)) rfl ?_
    exact xw_lreturn hPT (show xlook 219 122 = some (122, .lreturn, 1, 0, 0, 0, 0) from xlk (by decide +kernel)) rfl (t hPT)
  · replace t := t.2 c
    refine xw_ldc2 (n := 110) (show xlook 219 107 = some (107, .ldc2_w 321, 3, 0, 0, (-6), 20) from xlk (by decide +kernel)) rfl ?_
    refine xw_goto (m := 122) (show xlook 219 110 = some (110, .goto 12, 3, 122, 0, 0, 0) from xlk (by decide +kernel)) rfl ?_
    exact xw_lreturn hPT (show xlook 219 122 = some (122, .lreturn, 1, 0, 0, 0, 0) from xlk (by decide +kernel)) rfl (t hPT)

theorem s220_0 {X : List Int32} {d : Nat} {F : XF} {Q : Int → XF → Prop} {x1 : Int} (hPT : xPT F)  (t : inR (x1) ∧ ((x1 < 0 ∨ 13 < x1) → (xPT (xup (F) (131) 0 (0)) → Q ((-1)) (xup (F) (131) 0 (0)))) ∧ (((x1) = 0) → (xPT (xup (F) (131) 0 (0)) → Q ((F) (132) 0) (xup (F) (131) 0 (0)))) ∧ (((x1) = 1) → (xPT (xup (F) (131) 0 (0)) → Q ((F) (132) 1) (xup (F) (131) 0 (0)))) ∧ (((x1) = 2) → (xPT (xup (F) (131) 0 (0)) → Q ((F) (132) 2) (xup (F) (131) 0 (0)))) ∧ (((x1) = 3) → (xPT (xup (F) (131) 0 (0)) → Q ((F) (132) 3) (xup (F) (131) 0 (0)))) ∧ (((x1) = 4) → (xPT (xup (F) (131) 0 (0)) → Q ((F) (132) 4) (xup (F) (131) 0 (0)))) ∧ (((x1) = 5) → (∃ (j1 : Nat), j1 < d ∧ xMI X j1 154 [.ref (131)] (xup (F) (131) 0 (0)) (fun (y1 : Int) (G1 : XF) => (xPT (G1) → Q (y1) (G1))))) ∧ (((x1) = 6) → (xPT (xup (F) (131) 0 (0)) → Q ((F) (131) 17) (xup (F) (131) 0 (0)))) ∧ (((x1) = 7) → (xPT (xup (F) (131) 0 (0)) → Q ((F) (132) 6) (xup (F) (131) 0 (0)))) ∧ (((x1) = 8) → (xPT (xup (F) (131) 0 (0)) → Q ((F) (132) 7) (xup (F) (131) 0 (0)))) ∧ (((x1) = 9) → (xPT (xup (F) (131) 0 (0)) → Q ((F) (140) 130) (xup (F) (131) 0 (0)))) ∧ (((x1) = 10) → (xPT (xup (F) (131) 0 (0)) → Q ((F) (140) 131) (xup (F) (131) 0 (0)))) ∧ (((x1) = 11) → (xPT (xup (F) (131) 0 (0)) → Q ((F) (131) 20) (xup (F) (131) 0 (0)))) ∧ (((x1) = 12) → (xPT (xup (F) (131) 0 (0)) → Q ((F) (131) 12) (xup (F) (131) 0 (0)))) ∧ (((x1) = 13) → (xPT (xup (F) (131) 0 (0)) → Q ((F) (131) 4) (xup (F) (131) 0 (0))))) : xW X d 220 0 [.ref (131), vi (x1)] [] F (xqi Q) := by
  refine xw_aload_n (n := 1) (show xlook 220 0 = some (0, .aload_n 0, 1, 0, 0, 0, 0) from xlk (by decide +kernel)) rfl rfl ?_
  refine xw_iconst (n := 2) (show xlook 220 1 = some (1, .iconst 0, 1, 0, 0, 0, 0) from xlk (by decide +kernel)) rfl ?_
  refine xw_puti (show xlook 220 2 = some (2, .putfield 1, 3, 12, 0, 0, 235) from xlk (by decide +kernel)) (xobf xob_12 (by decide) (by decide)) rfl (n := 5) rfl ?_
  refine xw_iload_n (n := 6) (show xlook 220 5 = some (5, .iload_n 1, 1, 0, 0, 0, 0) from xlk (by decide +kernel)) rfl rfl ?_
  obtain ⟨q1, td, u0, u1, u2, u3, u4, u5, u6, u7, u8, u9, u10, u11, u12, u13⟩ := t
  by_cases hq : (x1 < 0 ∨ 13 < x1)
  · replace t := td hq
    refine xw_tabOut (t := 170) (show xlook 220 6 = some (6, .tableswitch 164 0 13 #[70, 77, 84, 91, 98, 105, 110, 115, 123, 131, 140, 149, 154, 159], 70, 0, 0, 0, 0) from xlk (by decide +kernel)) q1 hq rfl ?_
    refine xw_iconst (n := 171) (show xlook 220 170 = some (170, .iconst (-1), 1, 0, 0, 0, 0) from xlk (by decide +kernel)) rfl ?_
    exact xw_ireturn (xPT_fld (k := 0) hPT xob_12 (by decide) (by decide)) (show xlook 220 171 = some (171, .ireturn, 1, 0, 0, 0, 0) from xlk (by decide +kernel)) rfl (t (xPT_fld (k := 0) hPT xob_12 (by decide) (by decide)))
  rcases (show (x1) = 0 ∨ (x1) = 1 ∨ (x1) = 2 ∨ (x1) = 3 ∨ (x1) = 4 ∨ (x1) = 5 ∨ (x1) = 6 ∨ (x1) = 7 ∨ (x1) = 8 ∨ (x1) = 9 ∨ (x1) = 10 ∨ (x1) = 11 ∨ (x1) = 12 ∨ (x1) = 13 by omega) with e | e | e | e | e | e | e | e | e | e | e | e | e | e
  · replace t := u0 e
    refine xw_tabIn (off := 70) (t := 76) (show xlook 220 6 = some (6, .tableswitch 164 0 13 #[70, 77, 84, 91, 98, 105, 110, 115, 123, 131, 140, 149, 154, 159], 70, 0, 0, 0, 0) from xlk (by decide +kernel)) q1 hq (by show (#[70, 77, 84, 91, 98, 105, 110, 115, 123, 131, 140, 149, 154, 159] : Array Int)[((x1 : Int) - (0)).toNat]? = some (70); rw [e]; rfl) rfl ?_
    refine xw_aload_n (n := 77) (show xlook 220 76 = some (76, .aload_n 0, 1, 0, 0, 0, 0) from xlk (by decide +kernel)) rfl rfl ?_
    refine xw_getr (q := 132) (show xlook 220 77 = some (77, .getfield 13, 3, 12, 1, 0, 220) from xlk (by decide +kernel)) (by decide) (xobf xob_12 (by decide) (by decide)) rfl (xPT_get (k := 1) (f := 1) (xPT_fld (k := 0) hPT xob_12 (by decide) (by decide)) xob_12 (by decide)) (by have := (xtg_12_1 _ xob_12.1 xob_12.2).1.1; omega) (n := 80) rfl ?_
    refine xw_iconst (n := 81) (show xlook 220 80 = some (80, .iconst 0, 1, 0, 0, 0, 0) from xlk (by decide +kernel)) rfl ?_
    refine xw_iald2 (u := (F) (132) 0) (show xlook 220 81 = some (81, .iaload, 1, 0, 0, 0, 0) from xlk (by decide +kernel)) (xtg_12_1 _ xob_12.1 xob_12.2).1 (by rw [(xtg_12_1 _ xob_12.1 xob_12.2).2]; decide) (xup_o (by decide)) (n := 82) rfl ?_
    exact xw_ireturn (xPT_fld (k := 0) hPT xob_12 (by decide) (by decide)) (show xlook 220 82 = some (82, .ireturn, 1, 0, 0, 0, 0) from xlk (by decide +kernel)) rfl (t (xPT_fld (k := 0) hPT xob_12 (by decide) (by decide)))
  · replace t := u1 e
    refine xw_tabIn (off := 77) (t := 83) (show xlook 220 6 = some (6, .tableswitch 164 0 13 #[70, 77, 84, 91, 98, 105, 110, 115, 123, 131, 140, 149, 154, 159], 70, 0, 0, 0, 0) from xlk (by decide +kernel)) q1 hq (by show (#[70, 77, 84, 91, 98, 105, 110, 115, 123, 131, 140, 149, 154, 159] : Array Int)[((x1 : Int) - (0)).toNat]? = some (77); rw [e]; rfl) rfl ?_
    refine xw_aload_n (n := 84) (show xlook 220 83 = some (83, .aload_n 0, 1, 0, 0, 0, 0) from xlk (by decide +kernel)) rfl rfl ?_
    refine xw_getr (q := 132) (show xlook 220 84 = some (84, .getfield 13, 3, 12, 1, 0, 220) from xlk (by decide +kernel)) (by decide) (xobf xob_12 (by decide) (by decide)) rfl (xPT_get (k := 1) (f := 1) (xPT_fld (k := 0) hPT xob_12 (by decide) (by decide)) xob_12 (by decide)) (by have := (xtg_12_1 _ xob_12.1 xob_12.2).1.1; omega) (n := 87) rfl ?_
    refine xw_iconst (n := 88) (show xlook 220 87 = some (87, .iconst 1, 1, 0, 0, 0, 0) from xlk (by decide +kernel)) rfl ?_
    refine xw_iald2 (u := (F) (132) 1) (show xlook 220 88 = some (88, .iaload, 1, 0, 0, 0, 0) from xlk (by decide +kernel)) (xtg_12_1 _ xob_12.1 xob_12.2).1 (by rw [(xtg_12_1 _ xob_12.1 xob_12.2).2]; decide) (xup_o (by decide)) (n := 89) rfl ?_
    exact xw_ireturn (xPT_fld (k := 0) hPT xob_12 (by decide) (by decide)) (show xlook 220 89 = some (89, .ireturn, 1, 0, 0, 0, 0) from xlk (by decide +kernel)) rfl (t (xPT_fld (k := 0) hPT xob_12 (by decide) (by decide)))
  · replace t := u2 e
    refine xw_tabIn (off := 84) (t := 90) (show xlook 220 6 = some (6, .tableswitch 164 0 13 #[70, 77, 84, 91, 98, 105, 110, 115, 123, 131, 140, 149, 154, 159], 70, 0, 0, 0, 0) from xlk (by decide +kernel)) q1 hq (by show (#[70, 77, 84, 91, 98, 105, 110, 115, 123, 131, 140, 149, 154, 159] : Array Int)[((x1 : Int) - (0)).toNat]? = some (84); rw [e]; rfl) rfl ?_
    refine xw_aload_n (n := 91) (show xlook 220 90 = some (90, .aload_n 0, 1, 0, 0, 0, 0) from xlk (by decide +kernel)) rfl rfl ?_
    refine xw_getr (q := 132) (show xlook 220 91 = some (91, .getfield 13, 3, 12, 1, 0, 220) from xlk (by decide +kernel)) (by decide) (xobf xob_12 (by decide) (by decide)) rfl (xPT_get (k := 1) (f := 1) (xPT_fld (k := 0) hPT xob_12 (by decide) (by decide)) xob_12 (by decide)) (by have := (xtg_12_1 _ xob_12.1 xob_12.2).1.1; omega) (n := 94) rfl ?_
    refine xw_iconst (n := 95) (show xlook 220 94 = some (94, .iconst 2, 1, 0, 0, 0, 0) from xlk (by decide +kernel)) rfl ?_
    refine xw_iald2 (u := (F) (132) 2) (show xlook 220 95 = some (95, .iaload, 1, 0, 0, 0, 0) from xlk (by decide +kernel)) (xtg_12_1 _ xob_12.1 xob_12.2).1 (by rw [(xtg_12_1 _ xob_12.1 xob_12.2).2]; decide) (xup_o (by decide)) (n := 96) rfl ?_
    exact xw_ireturn (xPT_fld (k := 0) hPT xob_12 (by decide) (by decide)) (show xlook 220 96 = some (96, .ireturn, 1, 0, 0, 0, 0) from xlk (by decide +kernel)) rfl (t (xPT_fld (k := 0) hPT xob_12 (by decide) (by decide)))
  · replace t := u3 e
    refine xw_tabIn (off := 91) (t := 97) (show xlook 220 6 = some (6, .tableswitch 164 0 13 #[70, 77, 84, 91, 98, 105, 110, 115, 123, 131, 140, 149, 154, 159], 70, 0, 0, 0, 0) from xlk (by decide +kernel)) q1 hq (by show (#[70, 77, 84, 91, 98, 105, 110, 115, 123, 131, 140, 149, 154, 159] : Array Int)[((x1 : Int) - (0)).toNat]? = some (91); rw [e]; rfl) rfl ?_
    refine xw_aload_n (n := 98) (show xlook 220 97 = some (97, .aload_n 0, 1, 0, 0, 0, 0) from xlk (by decide +kernel)) rfl rfl ?_
    refine xw_getr (q := 132) (show xlook 220 98 = some (98, .getfield 13, 3, 12, 1, 0, 220) from xlk (by decide +kernel)) (by decide) (xobf xob_12 (by decide) (by decide)) rfl (xPT_get (k := 1) (f := 1) (xPT_fld (k := 0) hPT xob_12 (by decide) (by decide)) xob_12 (by decide)) (by have := (xtg_12_1 _ xob_12.1 xob_12.2).1.1; omega) (n := 101) rfl ?_
    refine xw_iconst (n := 102) (show xlook 220 101 = some (101, .iconst 3, 1, 0, 0, 0, 0) from xlk (by decide +kernel)) rfl ?_
    refine xw_iald2 (u := (F) (132) 3) (show xlook 220 102 = some (102, .iaload, 1, 0, 0, 0, 0) from xlk (by decide +kernel)) (xtg_12_1 _ xob_12.1 xob_12.2).1 (by rw [(xtg_12_1 _ xob_12.1 xob_12.2).2]; decide) (xup_o (by decide)) (n := 103) rfl ?_
    exact xw_ireturn (xPT_fld (k := 0) hPT xob_12 (by decide) (by decide)) (show xlook 220 103 = some (103, .ireturn, 1, 0, 0, 0, 0) from xlk (by decide +kernel)) rfl (t (xPT_fld (k := 0) hPT xob_12 (by decide) (by decide)))
  · replace t := u4 e
    refine xw_tabIn (off := 98) (t := 104) (show xlook 220 6 = some (6, .tableswitch 164 0 13 #[70, 77, 84, 91, 98, 105, 110, 115, 123, 131, 140, 149, 154, 159], 70, 0, 0, 0, 0) from xlk (by decide +kernel)) q1 hq (by show (#[70, 77, 84, 91, 98, 105, 110, 115, 123, 131, 140, 149, 154, 159] : Array Int)[((x1 : Int) - (0)).toNat]? = some (98); rw [e]; rfl) rfl ?_
    refine xw_aload_n (n := 105) (show xlook 220 104 = some (104, .aload_n 0, 1, 0, 0, 0, 0) from xlk (by decide +kernel)) rfl rfl ?_
    refine xw_getr (q := 132) (show xlook 220 105 = some (105, .getfield 13, 3, 12, 1, 0, 220) from xlk (by decide +kernel)) (by decide) (xobf xob_12 (by decide) (by decide)) rfl (xPT_get (k := 1) (f := 1) (xPT_fld (k := 0) hPT xob_12 (by decide) (by decide)) xob_12 (by decide)) (by have := (xtg_12_1 _ xob_12.1 xob_12.2).1.1; omega) (n := 108) rfl ?_
    refine xw_iconst (n := 109) (show xlook 220 108 = some (108, .iconst 4, 1, 0, 0, 0, 0) from xlk (by decide +kernel)) rfl ?_
    refine xw_iald2 (u := (F) (132) 4) (show xlook 220 109 = some (109, .iaload, 1, 0, 0, 0, 0) from xlk (by decide +kernel)) (xtg_12_1 _ xob_12.1 xob_12.2).1 (by rw [(xtg_12_1 _ xob_12.1 xob_12.2).2]; decide) (xup_o (by decide)) (n := 110) rfl ?_
    exact xw_ireturn (xPT_fld (k := 0) hPT xob_12 (by decide) (by decide)) (show xlook 220 110 = some (110, .ireturn, 1, 0, 0, 0, 0) from xlk (by decide +kernel)) rfl (t (xPT_fld (k := 0) hPT xob_12 (by decide) (by decide)))
  · replace t := u5 e
    refine xw_tabIn (off := 105) (t := 111) (show xlook 220 6 = some (6, .tableswitch 164 0 13 #[70, 77, 84, 91, 98, 105, 110, 115, 123, 131, 140, 149, 154, 159], 70, 0, 0, 0, 0) from xlk (by decide +kernel)) q1 hq (by show (#[70, 77, 84, 91, 98, 105, 110, 115, 123, 131, 140, 149, 154, 159] : Array Int)[((x1 : Int) - (0)).toNat]? = some (105); rw [e]; rfl) rfl ?_
    refine xw_aload_n (n := 112) (show xlook 220 111 = some (111, .aload_n 0, 1, 0, 0, 0, 0) from xlk (by decide +kernel)) rfl rfl ?_
    obtain ⟨j1, hj1, rr1, G1, hm1, hG1, t⟩ := t
    obtain ⟨y1, rfl, t⟩ := t
    refine xw_callv (dk := j1) (o := 131) (as := []) (show xlook 220 112 = some (112, .invokevirtual 161, 3, 154, 1, 0, 169) from xlk (by decide +kernel)) (by decide) hj1 ⟨Nat.le_of_ble_eq_true rfl, Nat.le_of_ble_eq_true rfl, Nat.le_of_ble_eq_true rfl⟩ ⟨xob_12.1, xob_12.2, by decide⟩ rfl hm1 (n := 115) rfl ?_
    show xW X d 220 115 [.ref (131), vi (x1)] [vi (y1)] G1 (xqi Q)
    exact xw_ireturn hG1 (show xlook 220 115 = some (115, .ireturn, 1, 0, 0, 0, 0) from xlk (by decide +kernel)) rfl (t hG1)
  · replace t := u6 e
    refine xw_tabIn (off := 110) (t := 116) (show xlook 220 6 = some (6, .tableswitch 164 0 13 #[70, 77, 84, 91, 98, 105, 110, 115, 123, 131, 140, 149, 154, 159], 70, 0, 0, 0, 0) from xlk (by decide +kernel)) q1 hq (by show (#[70, 77, 84, 91, 98, 105, 110, 115, 123, 131, 140, 149, 154, 159] : Array Int)[((x1 : Int) - (0)).toNat]? = some (110); rw [e]; rfl) rfl ?_
    refine xw_aload_n (n := 117) (show xlook 220 116 = some (116, .aload_n 0, 1, 0, 0, 0, 0) from xlk (by decide +kernel)) rfl rfl ?_
    refine xw_geti2 (u := (F) (131) 17) (show xlook 220 117 = some (117, .getfield 167, 3, 12, 17, 0, 243) from xlk (by decide +kernel)) (by decide) (xobf xob_12 (by decide) (by decide)) rfl (xup_i (by decide)) (n := 120) rfl ?_
    exact xw_ireturn (xPT_fld (k := 0) hPT xob_12 (by decide) (by decide)) (show xlook 220 120 = some (120, .ireturn, 1, 0, 0, 0, 0) from xlk (by decide +kernel)) rfl (t (xPT_fld (k := 0) hPT xob_12 (by decide) (by decide)))
  · replace t := u7 e
    refine xw_tabIn (off := 115) (t := 121) (show xlook 220 6 = some (6, .tableswitch 164 0 13 #[70, 77, 84, 91, 98, 105, 110, 115, 123, 131, 140, 149, 154, 159], 70, 0, 0, 0, 0) from xlk (by decide +kernel)) q1 hq (by show (#[70, 77, 84, 91, 98, 105, 110, 115, 123, 131, 140, 149, 154, 159] : Array Int)[((x1 : Int) - (0)).toNat]? = some (115); rw [e]; rfl) rfl ?_
    refine xw_aload_n (n := 122) (show xlook 220 121 = some (121, .aload_n 0, 1, 0, 0, 0, 0) from xlk (by decide +kernel)) rfl rfl ?_
    refine xw_getr (q := 132) (show xlook 220 122 = some (122, .getfield 13, 3, 12, 1, 0, 220) from xlk (by decide +kernel)) (by decide) (xobf xob_12 (by decide) (by decide)) rfl (xPT_get (k := 1) (f := 1) (xPT_fld (k := 0) hPT xob_12 (by decide) (by decide)) xob_12 (by decide)) (by have := (xtg_12_1 _ xob_12.1 xob_12.2).1.1; omega) (n := 125) rfl ?_
    refine xw_bipush (n := 127) (show xlook 220 125 = some (125, .bipush 6, 2, 0, 0, 0, 0) from xlk (by decide +kernel)) rfl (by decide) ?_
    refine xw_iald2 (u := (F) (132) 6) (show xlook 220 127 = some (127, .iaload, 1, 0, 0, 0, 0) from xlk (by decide +kernel)) (xtg_12_1 _ xob_12.1 xob_12.2).1 (by rw [(xtg_12_1 _ xob_12.1 xob_12.2).2]; decide) (xup_o (by decide)) (n := 128) rfl ?_
    exact xw_ireturn (xPT_fld (k := 0) hPT xob_12 (by decide) (by decide)) (show xlook 220 128 = some (128, .ireturn, 1, 0, 0, 0, 0) from xlk (by decide +kernel)) rfl (t (xPT_fld (k := 0) hPT xob_12 (by decide) (by decide)))
  · replace t := u8 e
    refine xw_tabIn (off := 123) (t := 129) (show xlook 220 6 = some (6, .tableswitch 164 0 13 #[70, 77, 84, 91, 98, 105, 110, 115, 123, 131, 140, 149, 154, 159], 70, 0, 0, 0, 0) from xlk (by decide +kernel)) q1 hq (by show (#[70, 77, 84, 91, 98, 105, 110, 115, 123, 131, 140, 149, 154, 159] : Array Int)[((x1 : Int) - (0)).toNat]? = some (123); rw [e]; rfl) rfl ?_
    refine xw_aload_n (n := 130) (show xlook 220 129 = some (129, .aload_n 0, 1, 0, 0, 0, 0) from xlk (by decide +kernel)) rfl rfl ?_
    refine xw_getr (q := 132) (show xlook 220 130 = some (130, .getfield 13, 3, 12, 1, 0, 220) from xlk (by decide +kernel)) (by decide) (xobf xob_12 (by decide) (by decide)) rfl (xPT_get (k := 1) (f := 1) (xPT_fld (k := 0) hPT xob_12 (by decide) (by decide)) xob_12 (by decide)) (by have := (xtg_12_1 _ xob_12.1 xob_12.2).1.1; omega) (n := 133) rfl ?_
    refine xw_bipush (n := 135) (show xlook 220 133 = some (133, .bipush 7, 2, 0, 0, 0, 0) from xlk (by decide +kernel)) rfl (by decide) ?_
    refine xw_iald2 (u := (F) (132) 7) (show xlook 220 135 = some (135, .iaload, 1, 0, 0, 0, 0) from xlk (by decide +kernel)) (xtg_12_1 _ xob_12.1 xob_12.2).1 (by rw [(xtg_12_1 _ xob_12.1 xob_12.2).2]; decide) (xup_o (by decide)) (n := 136) rfl ?_
    exact xw_ireturn (xPT_fld (k := 0) hPT xob_12 (by decide) (by decide)) (show xlook 220 136 = some (136, .ireturn, 1, 0, 0, 0, 0) from xlk (by decide +kernel)) rfl (t (xPT_fld (k := 0) hPT xob_12 (by decide) (by decide)))
  · replace t := u9 e
    refine xw_tabIn (off := 131) (t := 137) (show xlook 220 6 = some (6, .tableswitch 164 0 13 #[70, 77, 84, 91, 98, 105, 110, 115, 123, 131, 140, 149, 154, 159], 70, 0, 0, 0, 0) from xlk (by decide +kernel)) q1 hq (by show (#[70, 77, 84, 91, 98, 105, 110, 115, 123, 131, 140, 149, 154, 159] : Array Int)[((x1 : Int) - (0)).toNat]? = some (131); rw [e]; rfl) rfl ?_
    refine xw_aload_n (n := 138) (show xlook 220 137 = some (137, .aload_n 0, 1, 0, 0, 0, 0) from xlk (by decide +kernel)) rfl rfl ?_
    refine xw_getr (q := 140) (show xlook 220 138 = some (138, .getfield 42, 3, 12, 18, 0, 229) from xlk (by decide +kernel)) (by decide) (xobf xob_12 (by decide) (by decide)) rfl (xPT_get (k := 18) (f := 9) (xPT_fld (k := 0) hPT xob_12 (by decide) (by decide)) xob_12 (by decide)) (by have := (xtg_12_18 _ xob_12.1 xob_12.2).1.1; omega) (n := 141) rfl ?_
    refine xw_sipush (n := 144) (show xlook 220 141 = some (141, .sipush 130, 3, 0, 0, 0, 0) from xlk (by decide +kernel)) rfl (by decide) ?_
    refine xw_iald2 (u := (F) (140) 130) (show xlook 220 144 = some (144, .iaload, 1, 0, 0, 0, 0) from xlk (by decide +kernel)) (xtg_12_18 _ xob_12.1 xob_12.2).1 (by rw [(xtg_12_18 _ xob_12.1 xob_12.2).2]; decide) (xup_o (by decide)) (n := 145) rfl ?_
    exact xw_ireturn (xPT_fld (k := 0) hPT xob_12 (by decide) (by decide)) (show xlook 220 145 = some (145, .ireturn, 1, 0, 0, 0, 0) from xlk (by decide +kernel)) rfl (t (xPT_fld (k := 0) hPT xob_12 (by decide) (by decide)))
  · replace t := u10 e
    refine xw_tabIn (off := 140) (t := 146) (show xlook 220 6 = some (6, .tableswitch 164 0 13 #[70, 77, 84, 91, 98, 105, 110, 115, 123, 131, 140, 149, 154, 159], 70, 0, 0, 0, 0) from xlk (by decide +kernel)) q1 hq (by show (#[70, 77, 84, 91, 98, 105, 110, 115, 123, 131, 140, 149, 154, 159] : Array Int)[((x1 : Int) - (0)).toNat]? = some (140); rw [e]; rfl) rfl ?_
    refine xw_aload_n (n := 147) (show xlook 220 146 = some (146, .aload_n 0, 1, 0, 0, 0, 0) from xlk (by decide +kernel)) rfl rfl ?_
    refine xw_getr (q := 140) (show xlook 220 147 = some (147, .getfield 42, 3, 12, 18, 0, 229) from xlk (by decide +kernel)) (by decide) (xobf xob_12 (by decide) (by decide)) rfl (xPT_get (k := 18) (f := 9) (xPT_fld (k := 0) hPT xob_12 (by decide) (by decide)) xob_12 (by decide)) (by have := (xtg_12_18 _ xob_12.1 xob_12.2).1.1; omega) (n := 150) rfl ?_
    refine xw_sipush (n := 153) (show xlook 220 150 = some (150, .sipush 131, 3, 0, 0, 0, 0) from xlk (by decide +kernel)) rfl (by decide) ?_
    refine xw_iald2 (u := (F) (140) 131) (show xlook 220 153 = some (153, .iaload, 1, 0, 0, 0, 0) from xlk (by decide +kernel)) (xtg_12_18 _ xob_12.1 xob_12.2).1 (by rw [(xtg_12_18 _ xob_12.1 xob_12.2).2]; decide) (xup_o (by decide)) (n := 154) rfl ?_
    exact xw_ireturn (xPT_fld (k := 0) hPT xob_12 (by decide) (by decide)) (show xlook 220 154 = some (154, .ireturn, 1, 0, 0, 0, 0) from xlk (by decide +kernel)) rfl (t (xPT_fld (k := 0) hPT xob_12 (by decide) (by decide)))
  · replace t := u11 e
    refine xw_tabIn (off := 149) (t := 155) (show xlook 220 6 = some (6, .tableswitch 164 0 13 #[70, 77, 84, 91, 98, 105, 110, 115, 123, 131, 140, 149, 154, 159], 70, 0, 0, 0, 0) from xlk (by decide +kernel)) q1 hq (by show (#[70, 77, 84, 91, 98, 105, 110, 115, 123, 131, 140, 149, 154, 159] : Array Int)[((x1 : Int) - (0)).toNat]? = some (149); rw [e]; rfl) rfl ?_
    refine xw_aload_n (n := 156) (show xlook 220 155 = some (155, .aload_n 0, 1, 0, 0, 0, 0) from xlk (by decide +kernel)) rfl rfl ?_
    refine xw_geti2 (u := (F) (131) 20) (show xlook 220 156 = some (156, .getfield 206, 3, 12, 20, 0, 244) from xlk (by decide +kernel)) (by decide) (xobf xob_12 (by decide) (by decide)) rfl (xup_i (by decide)) (n := 159) rfl ?_
    exact xw_ireturn (xPT_fld (k := 0) hPT xob_12 (by decide) (by decide)) (show xlook 220 159 = some (159, .ireturn, 1, 0, 0, 0, 0) from xlk (by decide +kernel)) rfl (t (xPT_fld (k := 0) hPT xob_12 (by decide) (by decide)))
  · replace t := u12 e
    refine xw_tabIn (off := 154) (t := 160) (show xlook 220 6 = some (6, .tableswitch 164 0 13 #[70, 77, 84, 91, 98, 105, 110, 115, 123, 131, 140, 149, 154, 159], 70, 0, 0, 0, 0) from xlk (by decide +kernel)) q1 hq (by show (#[70, 77, 84, 91, 98, 105, 110, 115, 123, 131, 140, 149, 154, 159] : Array Int)[((x1 : Int) - (0)).toNat]? = some (154); rw [e]; rfl) rfl ?_
    refine xw_aload_n (n := 161) (show xlook 220 160 = some (160, .aload_n 0, 1, 0, 0, 0, 0) from xlk (by decide +kernel)) rfl rfl ?_
    refine xw_geti2 (u := (F) (131) 12) (show xlook 220 161 = some (161, .getfield 158, 3, 12, 12, 0, 242) from xlk (by decide +kernel)) (by decide) (xobf xob_12 (by decide) (by decide)) rfl (xup_i (by decide)) (n := 164) rfl ?_
    exact xw_ireturn (xPT_fld (k := 0) hPT xob_12 (by decide) (by decide)) (show xlook 220 164 = some (164, .ireturn, 1, 0, 0, 0, 0) from xlk (by decide +kernel)) rfl (t (xPT_fld (k := 0) hPT xob_12 (by decide) (by decide)))
  · replace t := u13 e
    refine xw_tabIn (off := 159) (t := 165) (show xlook 220 6 = some (6, .tableswitch 164 0 13 #[70, 77, 84, 91, 98, 105, 110, 115, 123, 131, 140, 149, 154, 159], 70, 0, 0, 0, 0) from xlk (by decide +kernel)) q1 hq (by show (#[70, 77, 84, 91, 98, 105, 110, 115, 123, 131, 140, 149, 154, 159] : Array Int)[((x1 : Int) - (0)).toNat]? = some (159); rw [e]; rfl) rfl ?_
    refine xw_aload_n (n := 166) (show xlook 220 165 = some (165, .aload_n 0, 1, 0, 0, 0, 0) from xlk (by decide +kernel)) rfl rfl ?_
    refine xw_geti2 (u := (F) (131) 4) (show xlook 220 166 = some (166, .getfield 67, 3, 12, 4, 0, 236) from xlk (by decide +kernel)) (by decide) (xobf xob_12 (by decide) (by decide)) rfl (xup_i (by decide)) (n := 169) rfl ?_
    exact xw_ireturn (xPT_fld (k := 0) hPT xob_12 (by decide) (by decide)) (show xlook 220 169 = some (169, .ireturn, 1, 0, 0, 0, 0) from xlk (by decide +kernel)) rfl (t (xPT_fld (k := 0) hPT xob_12 (by decide) (by decide)))
theorem m220 {X : List Int32} {d : Nat} {F : XF} {Q : Int → XF → Prop} {x1 : Int} (hPT : xPT F)  (t : inR (x1) ∧ ((x1 < 0 ∨ 13 < x1) → (xPT (xup (F) (131) 0 (0)) → Q ((-1)) (xup (F) (131) 0 (0)))) ∧ (((x1) = 0) → (xPT (xup (F) (131) 0 (0)) → Q ((F) (132) 0) (xup (F) (131) 0 (0)))) ∧ (((x1) = 1) → (xPT (xup (F) (131) 0 (0)) → Q ((F) (132) 1) (xup (F) (131) 0 (0)))) ∧ (((x1) = 2) → (xPT (xup (F) (131) 0 (0)) → Q ((F) (132) 2) (xup (F) (131) 0 (0)))) ∧ (((x1) = 3) → (xPT (xup (F) (131) 0 (0)) → Q ((F) (132) 3) (xup (F) (131) 0 (0)))) ∧ (((x1) = 4) → (xPT (xup (F) (131) 0 (0)) → Q ((F) (132) 4) (xup (F) (131) 0 (0)))) ∧ (((x1) = 5) → (∃ (j1 : Nat), j1 < d ∧ xMI X j1 154 [.ref (131)] (xup (F) (131) 0 (0)) (fun (y1 : Int) (G1 : XF) => (xPT (G1) → Q (y1) (G1))))) ∧ (((x1) = 6) → (xPT (xup (F) (131) 0 (0)) → Q ((F) (131) 17) (xup (F) (131) 0 (0)))) ∧ (((x1) = 7) → (xPT (xup (F) (131) 0 (0)) → Q ((F) (132) 6) (xup (F) (131) 0 (0)))) ∧ (((x1) = 8) → (xPT (xup (F) (131) 0 (0)) → Q ((F) (132) 7) (xup (F) (131) 0 (0)))) ∧ (((x1) = 9) → (xPT (xup (F) (131) 0 (0)) → Q ((F) (140) 130) (xup (F) (131) 0 (0)))) ∧ (((x1) = 10) → (xPT (xup (F) (131) 0 (0)) → Q ((F) (140) 131) (xup (F) (131) 0 (0)))) ∧ (((x1) = 11) → (xPT (xup (F) (131) 0 (0)) → Q ((F) (131) 20) (xup (F) (131) 0 (0)))) ∧ (((x1) = 12) → (xPT (xup (F) (131) 0 (0)) → Q ((F) (131) 12) (xup (F) (131) 0 (0)))) ∧ (((x1) = 13) → (xPT (xup (F) (131) 0 (0)) → Q ((F) (131) 4) (xup (F) (131) 0 (0))))) : xMI X d 220 [.ref (131), vi (x1)] F Q := by
  show xW X d 220 0 [.ref (131), vi (x1)] [] F (xqi Q)
  exact s220_0 hPT  t

theorem s228_18 {X : List Int32} {d : Nat} {F : XF} {Q : Int → XF → Prop} {x3 : Int} (hPT : xPT F) (hX : X.length ≤ 4000)  (t : inR (x3) ∧ inR (((X.length : Int)) - (6)) ∧ ((((((X.length : Int)) - (6)) < (x3)) → (xPT (F) → Q (1) (F))) ∧ (¬ ((((X.length : Int)) - (6)) < (x3)) → ((0 ≤ (x3) ∧ (x3) < (X.length : Int)) ∧ (inR (xand (xsc X (x3)) (63)) ∧ ((xand (xsc X (x3)) (63) < 0 ∨ 32 < xand (xsc X (x3)) (63)) → (xPT (F) → xW X d 228 18 [.ref xSC, .ref (0), .ref (131), vi (x3 + 6)] [] (F) (xqi Q))) ∧ (((xand (xsc X (x3)) (63)) = 0) → ((0 ≤ ((x3) + (1)) ∧ ((x3) + (1)) < (X.length : Int)) ∧ ((0 ≤ ((x3) + (2)) ∧ ((x3) + (2)) < (X.length : Int)) ∧ ((0 ≤ ((x3) + (3)) ∧ ((x3) + (3)) < (X.length : Int)) ∧ ((0 ≤ ((x3) + (4)) ∧ ((x3) + (4)) < (X.length : Int)) ∧ ((0 ≤ ((x3) + (5)) ∧ ((x3) + (5)) < (X.length : Int)) ∧ (∃ (j1 : Nat), j1 < d ∧ xMI X j1 93 [.ref (0), vi (xsc X ((x3) + (1))), vi (xsc X ((x3) + (2))), vi (xsc X ((x3) + (3))), vi (xsc X ((x3) + (4))), vi (xsc X ((x3) + (5)))] (F) (fun (y1 : Int) (G1 : XF) => ((0 ≤ ((x3) + (1)) ∧ ((x3) + (1)) < (X.length : Int)) ∧ ((0 ≤ ((x3) + (2)) ∧ ((x3) + (2)) < (X.length : Int)) ∧ ((0 ≤ ((x3) + (3)) ∧ ((x3) + (3)) < (X.length : Int)) ∧ ((0 ≤ ((x3) + (4)) ∧ ((x3) + (4)) < (X.length : Int)) ∧ ((0 ≤ ((x3) + (5)) ∧ ((x3) + (5)) < (X.length : Int)) ∧ (∃ (j2 : Nat), j2 < d ∧ xMI X j2 135 [.ref (131), vi (xsc X ((x3) + (1))), vi (xsc X ((x3) + (2))), vi (xsc X ((x3) + (3))), vi (xsc X ((x3) + (4))), vi (xsc X ((x3) + (5)))] (G1) (fun (y2 : Int) (G2 : XF) => (inR (y1) ∧ inR (y2) ∧ ((((y1) = (y2)) → (xPT (G2) → xW X d 228 18 [.ref xSC, .ref (0), .ref (131), vi (x3 + 6)] [] (G2) (xqi Q))) ∧ (¬ ((y1) = (y2)) → (xPT (G2) → Q (0) (G2)))))))))))))))))))) ∧ (((xand (xsc X (x3)) (63)) = 1) → ((0 ≤ ((x3) + (1)) ∧ ((x3) + (1)) < (X.length : Int)) ∧ (∃ (j3 : Nat), j3 < d ∧ xMI X j3 94 [.ref (0), vi (xsc X ((x3) + (1)))] (F) (fun (y3 : Int) (G3 : XF) => ((0 ≤ ((x3) + (1)) ∧ ((x3) + (1)) < (X.length : Int)) ∧ (∃ (j4 : Nat), j4 < d ∧ xMI X j4 151 [.ref (131), vi (xsc X ((x3) + (1)))] (G3) (fun (y4 : Int) (G4 : XF) => (inR (y3) ∧ inR (y4) ∧ ((((y3) = (y4)) → (xPT (G4) → xW X d 228 18 [.ref xSC, .ref (0), .ref (131), vi (x3 + 6)] [] (G4) (xqi Q))) ∧ (¬ ((y3) = (y4)) → (xPT (G4) → Q (0) (G4)))))))))))) ∧ (((xand (xsc X (x3)) (63)) = 2) → ((0 ≤ ((x3) + (1)) ∧ ((x3) + (1)) < (X.length : Int)) ∧ (∃ (j5 : Nat), j5 < d ∧ xMI X j5 95 [.ref (0), vi (xsc X ((x3) + (1)))] (F) (fun (y5 : Int) (G5 : XF) => ((0 ≤ ((x3) + (1)) ∧ ((x3) + (1)) < (X.length : Int)) ∧ (∃ (j6 : Nat), j6 < d ∧ xMI X j6 152 [.ref (131), vi (xsc X ((x3) + (1)))] (G5) (fun (y6 : Int) (G6 : XF) => (inR (y5) ∧ inR (y6) ∧ ((((y5) = (y6)) → (xPT (G6) → xW X d 228 18 [.ref xSC, .ref (0), .ref (131), vi (x3 + 6)] [] (G6) (xqi Q))) ∧ (¬ ((y5) = (y6)) → (xPT (G6) → Q (0) (G6)))))))))))) ∧ (((xand (xsc X (x3)) (63)) = 3) → ((0 ≤ ((x3) + (1)) ∧ ((x3) + (1)) < (X.length : Int)) ∧ (∃ (j7 : Nat), j7 < d ∧ xMI X j7 97 [.ref (0), vi (xsc X ((x3) + (1)))] (F) (fun (y7 : Int) (G7 : XF) => ((0 ≤ ((x3) + (1)) ∧ ((x3) + (1)) < (X.length : Int)) ∧ (∃ (j8 : Nat), j8 < d ∧ xMI X j8 156 [.ref (131), vi (xsc X ((x3) + (1)))] (G7) (fun (y8 : Int) (G8 : XF) => (inR (y7) ∧ inR (y8) ∧ ((((y7) = (y8)) → (xPT (G8) → xW X d 228 18 [.ref xSC, .ref (0), .ref (131), vi (x3 + 6)] [] (G8) (xqi Q))) ∧ (¬ ((y7) = (y8)) → (xPT (G8) → Q (0) (G8)))))))))))) ∧ (((xand (xsc X (x3)) (63)) = 4) → ((0 ≤ ((x3) + (1)) ∧ ((x3) + (1)) < (X.length : Int)) ∧ (∃ (j9 : Nat), j9 < d ∧ xMI X j9 98 [.ref (0), vi (xsc X ((x3) + (1)))] (F) (fun (y9 : Int) (G9 : XF) => ((0 ≤ ((x3) + (1)) ∧ ((x3) + (1)) < (X.length : Int)) ∧ (∃ (j10 : Nat), j10 < d ∧ xMI X j10 157 [.ref (131), vi (xsc X ((x3) + (1)))] (G9) (fun (y10 : Int) (G10 : XF) => (inR (y9) ∧ inR (y10) ∧ ((((y9) = (y10)) → (xPT (G10) → xW X d 228 18 [.ref xSC, .ref (0), .ref (131), vi (x3 + 6)] [] (G10) (xqi Q))) ∧ (¬ ((y9) = (y10)) → (xPT (G10) → Q (0) (G10)))))))))))) ∧ (((xand (xsc X (x3)) (63)) = 5) → ((0 ≤ ((x3) + (1)) ∧ ((x3) + (1)) < (X.length : Int)) ∧ ((0 ≤ ((x3) + (2)) ∧ ((x3) + (2)) < (X.length : Int)) ∧ ((0 ≤ ((x3) + (3)) ∧ ((x3) + (3)) < (X.length : Int)) ∧ (∃ (j11 : Nat), j11 < d ∧ xMI X j11 99 [.ref (0), vi (xsc X ((x3) + (1))), vi (xsc X ((x3) + (2))), vi (xsc X ((x3) + (3)))] (F) (fun (y11 : Int) (G11 : XF) => ((0 ≤ ((x3) + (1)) ∧ ((x3) + (1)) < (X.length : Int)) ∧ ((0 ≤ ((x3) + (2)) ∧ ((x3) + (2)) < (X.length : Int)) ∧ ((0 ≤ ((x3) + (3)) ∧ ((x3) + (3)) < (X.length : Int)) ∧ (∃ (j12 : Nat), j12 < d ∧ xMI X j12 160 [.ref (131), vi (xsc X ((x3) + (1))), vi (xsc X ((x3) + (2))), vi (xsc X ((x3) + (3)))] (G11) (fun (y12 : Int) (G12 : XF) => (inR (y11) ∧ inR (y12) ∧ ((((y11) = (y12)) → (xPT (G12) → xW X d 228 18 [.ref xSC, .ref (0), .ref (131), vi (x3 + 6)] [] (G12) (xqi Q))) ∧ (¬ ((y11) = (y12)) → (xPT (G12) → Q (0) (G12)))))))))))))))) ∧ (((xand (xsc X (x3)) (63)) = 6) → (∃ (j13 : Nat), j13 < d ∧ xMI X j13 100 [.ref (0)] (F) (fun (y13 : Int) (G13 : XF) => (∃ (j14 : Nat), j14 < d ∧ xMI X j14 161 [.ref (131)] (G13) (fun (y14 : Int) (G14 : XF) => (inR (y13) ∧ inR (y14) ∧ ((((y13) = (y14)) → (xPT (G14) → xW X d 228 18 [.ref xSC, .ref (0), .ref (131), vi (x3 + 6)] [] (G14) (xqi Q))) ∧ (¬ ((y13) = (y14)) → (xPT (G14) → Q (0) (G14)))))))))) ∧ (((xand (xsc X (x3)) (63)) = 7) → (∃ (j15 : Nat), j15 < d ∧ xMI X j15 101 [.ref (0)] (F) (fun (y15 : Int) (G15 : XF) => (∃ (j16 : Nat), j16 < d ∧ xMI X j16 162 [.ref (131)] (G15) (fun (y16 : Int) (G16 : XF) => (inR (y15) ∧ inR (y16) ∧ ((((y15) = (y16)) → (xPT (G16) → xW X d 228 18 [.ref xSC, .ref (0), .ref (131), vi (x3 + 6)] [] (G16) (xqi Q))) ∧ (¬ ((y15) = (y16)) → (xPT (G16) → Q (0) (G16)))))))))) ∧ (((xand (xsc X (x3)) (63)) = 8) → ((0 ≤ ((x3) + (1)) ∧ ((x3) + (1)) < (X.length : Int)) ∧ (∃ (j17 : Nat), j17 < d ∧ xMI X j17 102 [.ref (0), vi (xsc X ((x3) + (1)))] (F) (fun (y17 : Int) (G17 : XF) => ((0 ≤ ((x3) + (1)) ∧ ((x3) + (1)) < (X.length : Int)) ∧ (∃ (j18 : Nat), j18 < d ∧ xMI X j18 182 [.ref (131), vi (xsc X ((x3) + (1)))] (G17) (fun (y18 : Int) (G18 : XF) => (inR (y17) ∧ inR (y18) ∧ ((((y17) = (y18)) → (xPT (G18) → xW X d 228 18 [.ref xSC, .ref (0), .ref (131), vi (x3 + 6)] [] (G18) (xqi Q))) ∧ (¬ ((y17) = (y18)) → (xPT (G18) → Q (0) (G18)))))))))))) ∧ (((xand (xsc X (x3)) (63)) = 9) → (∃ (j19 : Nat), j19 < d ∧ xMI X j19 103 [.ref (0)] (F) (fun (y19 : Int) (G19 : XF) => (∃ (j20 : Nat), j20 < d ∧ xMI X j20 183 [.ref (131)] (G19) (fun (y20 : Int) (G20 : XF) => (inR (y19) ∧ inR (y20) ∧ ((((y19) = (y20)) → (xPT (G20) → xW X d 228 18 [.ref xSC, .ref (0), .ref (131), vi (x3 + 6)] [] (G20) (xqi Q))) ∧ (¬ ((y19) = (y20)) → (xPT (G20) → Q (0) (G20)))))))))) ∧ (((xand (xsc X (x3)) (63)) = 10) → ((0 ≤ ((x3) + (1)) ∧ ((x3) + (1)) < (X.length : Int)) ∧ ((0 ≤ ((x3) + (2)) ∧ ((x3) + (2)) < (X.length : Int)) ∧ (∃ (j21 : Nat), j21 < d ∧ xMI X j21 104 [.ref (0), vi (xsc X ((x3) + (1))), vi (xsc X ((x3) + (2)))] (F) (fun (y21 : Int) (G21 : XF) => ((0 ≤ ((x3) + (1)) ∧ ((x3) + (1)) < (X.length : Int)) ∧ ((0 ≤ ((x3) + (2)) ∧ ((x3) + (2)) < (X.length : Int)) ∧ (∃ (j22 : Nat), j22 < d ∧ xMI X j22 184 [.ref (131), vi (xsc X ((x3) + (1))), vi (xsc X ((x3) + (2)))] (G21) (fun (y22 : Int) (G22 : XF) => (inR (y21) ∧ inR (y22) ∧ ((((y21) = (y22)) → (xPT (G22) → xW X d 228 18 [.ref xSC, .ref (0), .ref (131), vi (x3 + 6)] [] (G22) (xqi Q))) ∧ (¬ ((y21) = (y22)) → (xPT (G22) → Q (0) (G22)))))))))))))) ∧ (((xand (xsc X (x3)) (63)) = 11) → ((0 ≤ ((x3) + (1)) ∧ ((x3) + (1)) < (X.length : Int)) ∧ ((0 ≤ ((x3) + (2)) ∧ ((x3) + (2)) < (X.length : Int)) ∧ (∃ (j23 : Nat), j23 < d ∧ xMI X j23 105 [.ref (0), vi (xsc X ((x3) + (1))), vi (xsc X ((x3) + (2)))] (F) (fun (y23 : Int) (G23 : XF) => ((0 ≤ ((x3) + (1)) ∧ ((x3) + (1)) < (X.length : Int)) ∧ ((0 ≤ ((x3) + (2)) ∧ ((x3) + (2)) < (X.length : Int)) ∧ (∃ (j24 : Nat), j24 < d ∧ xMI X j24 186 [.ref (131), vi (xsc X ((x3) + (1))), vi (xsc X ((x3) + (2)))] (G23) (fun (y24 : Int) (G24 : XF) => (inR (y23) ∧ inR (y24) ∧ ((((y23) = (y24)) → (xPT (G24) → xW X d 228 18 [.ref xSC, .ref (0), .ref (131), vi (x3 + 6)] [] (G24) (xqi Q))) ∧ (¬ ((y23) = (y24)) → (xPT (G24) → Q (0) (G24)))))))))))))) ∧ (((xand (xsc X (x3)) (63)) = 12) → ((0 ≤ ((x3) + (1)) ∧ ((x3) + (1)) < (X.length : Int)) ∧ ((0 ≤ ((x3) + (2)) ∧ ((x3) + (2)) < (X.length : Int)) ∧ (∃ (j25 : Nat), j25 < d ∧ xMI X j25 106 [.ref (0), vi (xsc X ((x3) + (1))), vi (xsc X ((x3) + (2)))] (F) (fun (y25 : Int) (G25 : XF) => ((0 ≤ ((x3) + (1)) ∧ ((x3) + (1)) < (X.length : Int)) ∧ ((0 ≤ ((x3) + (2)) ∧ ((x3) + (2)) < (X.length : Int)) ∧ (∃ (j26 : Nat), j26 < d ∧ xMI X j26 188 [.ref (131), vi (xsc X ((x3) + (1))), vi (xsc X ((x3) + (2)))] (G25) (fun (y26 : Int) (G26 : XF) => (inR (y25) ∧ inR (y26) ∧ ((((y25) = (y26)) → (xPT (G26) → xW X d 228 18 [.ref xSC, .ref (0), .ref (131), vi (x3 + 6)] [] (G26) (xqi Q))) ∧ (¬ ((y25) = (y26)) → (xPT (G26) → Q (0) (G26)))))))))))))) ∧ (((xand (xsc X (x3)) (63)) = 13) → ((0 ≤ ((x3) + (1)) ∧ ((x3) + (1)) < (X.length : Int)) ∧ ((0 ≤ ((x3) + (2)) ∧ ((x3) + (2)) < (X.length : Int)) ∧ (∃ (j27 : Nat), j27 < d ∧ xMI X j27 107 [.ref (0), vi (xsc X ((x3) + (1))), vi (xsc X ((x3) + (2)))] (F) (fun (y27 : Int) (G27 : XF) => ((0 ≤ ((x3) + (1)) ∧ ((x3) + (1)) < (X.length : Int)) ∧ ((0 ≤ ((x3) + (2)) ∧ ((x3) + (2)) < (X.length : Int)) ∧ (∃ (j28 : Nat), j28 < d ∧ xMI X j28 189 [.ref (131), vi (xsc X ((x3) + (1))), vi (xsc X ((x3) + (2)))] (G27) (fun (y28 : Int) (G28 : XF) => (inR (y27) ∧ inR (y28) ∧ ((((y27) = (y28)) → (xPT (G28) → xW X d 228 18 [.ref xSC, .ref (0), .ref (131), vi (x3 + 6)] [] (G28) (xqi Q))) ∧ (¬ ((y27) = (y28)) → (xPT (G28) → Q (0) (G28)))))))))))))) ∧ (((xand (xsc X (x3)) (63)) = 14) → ((0 ≤ ((x3) + (1)) ∧ ((x3) + (1)) < (X.length : Int)) ∧ ((0 ≤ ((x3) + (2)) ∧ ((x3) + (2)) < (X.length : Int)) ∧ (∃ (j29 : Nat), j29 < d ∧ xMI X j29 108 [.ref (0), vi (xsc X ((x3) + (1))), vi (xsc X ((x3) + (2)))] (F) (fun (y29 : Int) (G29 : XF) => ((0 ≤ ((x3) + (1)) ∧ ((x3) + (1)) < (X.length : Int)) ∧ ((0 ≤ ((x3) + (2)) ∧ ((x3) + (2)) < (X.length : Int)) ∧ (∃ (j30 : Nat), j30 < d ∧ xMI X j30 190 [.ref (131), vi (xsc X ((x3) + (1))), vi (xsc X ((x3) + (2)))] (G29) (fun (y30 : Int) (G30 : XF) => (inR (y29) ∧ inR (y30) ∧ ((((y29) = (y30)) → (xPT (G30) → xW X d 228 18 [.ref xSC, .ref (0), .ref (131), vi (x3 + 6)] [] (G30) (xqi Q))) ∧ (¬ ((y29) = (y30)) → (xPT (G30) → Q (0) (G30)))))))))))))) ∧ (((xand (xsc X (x3)) (63)) = 15) → ((0 ≤ ((x3) + (1)) ∧ ((x3) + (1)) < (X.length : Int)) ∧ ((0 ≤ ((x3) + (2)) ∧ ((x3) + (2)) < (X.length : Int)) ∧ ((0 ≤ ((x3) + (3)) ∧ ((x3) + (3)) < (X.length : Int)) ∧ (∃ (j31 : Nat), j31 < d ∧ xMI X j31 109 [.ref (0), vi (xsc X ((x3) + (1))), vi (xsc X ((x3) + (2))), vi (xsc X ((x3) + (3)))] (F) (fun (y31 : Int) (G31 : XF) => ((0 ≤ ((x3) + (1)) ∧ ((x3) + (1)) < (X.length : Int)) ∧ ((0 ≤ ((x3) + (2)) ∧ ((x3) + (2)) < (X.length : Int)) ∧ ((0 ≤ ((x3) + (3)) ∧ ((x3) + (3)) < (X.length : Int)) ∧ (∃ (j32 : Nat), j32 < d ∧ xMI X j32 192 [.ref (131), vi (xsc X ((x3) + (1))), vi (xsc X ((x3) + (2))), vi (xsc X ((x3) + (3)))] (G31) (fun (y32 : Int) (G32 : XF) => (inR (y31) ∧ inR (y32) ∧ ((((y31) = (y32)) → (xPT (G32) → xW X d 228 18 [.ref xSC, .ref (0), .ref (131), vi (x3 + 6)] [] (G32) (xqi Q))) ∧ (¬ ((y31) = (y32)) → (xPT (G32) → Q (0) (G32)))))))))))))))) ∧ (((xand (xsc X (x3)) (63)) = 16) → ((0 ≤ ((x3) + (1)) ∧ ((x3) + (1)) < (X.length : Int)) ∧ ((0 ≤ ((x3) + (2)) ∧ ((x3) + (2)) < (X.length : Int)) ∧ (∃ (j33 : Nat), j33 < d ∧ xMI X j33 110 [.ref (0), vi (xsc X ((x3) + (1))), vi (xsc X ((x3) + (2)))] (F) (fun (y33 : Int) (G33 : XF) => ((0 ≤ ((x3) + (1)) ∧ ((x3) + (1)) < (X.length : Int)) ∧ ((0 ≤ ((x3) + (2)) ∧ ((x3) + (2)) < (X.length : Int)) ∧ (∃ (j34 : Nat), j34 < d ∧ xMI X j34 193 [.ref (131), vi (xsc X ((x3) + (1))), vi (xsc X ((x3) + (2)))] (G33) (fun (y34 : Int) (G34 : XF) => (inR (y33) ∧ inR (y34) ∧ ((((y33) = (y34)) → (xPT (G34) → xW X d 228 18 [.ref xSC, .ref (0), .ref (131), vi (x3 + 6)] [] (G34) (xqi Q))) ∧ (¬ ((y33) = (y34)) → (xPT (G34) → Q (0) (G34)))))))))))))) ∧ (((xand (xsc X (x3)) (63)) = 17) → ((0 ≤ ((x3) + (1)) ∧ ((x3) + (1)) < (X.length : Int)) ∧ ((0 ≤ ((x3) + (2)) ∧ ((x3) + (2)) < (X.length : Int)) ∧ ((0 ≤ ((x3) + (3)) ∧ ((x3) + (3)) < (X.length : Int)) ∧ (∃ (j35 : Nat), j35 < d ∧ xMI X j35 111 [.ref (0), vi (xsc X ((x3) + (1))), vi (xsc X ((x3) + (2))), vi (xsc X ((x3) + (3)))] (F) (fun (y35 : Int) (G35 : XF) => ((0 ≤ ((x3) + (1)) ∧ ((x3) + (1)) < (X.length : Int)) ∧ ((0 ≤ ((x3) + (2)) ∧ ((x3) + (2)) < (X.length : Int)) ∧ ((0 ≤ ((x3) + (3)) ∧ ((x3) + (3)) < (X.length : Int)) ∧ (∃ (j36 : Nat), j36 < d ∧ xMI X j36 194 [.ref (131), vi (xsc X ((x3) + (1))), vi (xsc X ((x3) + (2))), vi (xsc X ((x3) + (3)))] (G35) (fun (y36 : Int) (G36 : XF) => (inR (y35) ∧ inR (y36) ∧ ((((y35) = (y36)) → (xPT (G36) → xW X d 228 18 [.ref xSC, .ref (0), .ref (131), vi (x3 + 6)] [] (G36) (xqi Q))) ∧ (¬ ((y35) = (y36)) → (xPT (G36) → Q (0) (G36)))))))))))))))) ∧ (((xand (xsc X (x3)) (63)) = 18) → (∃ (j37 : Nat), j37 < d ∧ xMI X j37 112 [.ref (0)] (F) (fun (y37 : Int) (G37 : XF) => (∃ (j38 : Nat), j38 < d ∧ xMI X j38 199 [.ref (131)] (G37) (fun (y38 : Int) (G38 : XF) => (inR (y37) ∧ inR (y38) ∧ ((((y37) = (y38)) → (xPT (G38) → xW X d 228 18 [.ref xSC, .ref (0), .ref (131), vi (x3 + 6)] [] (G38) (xqi Q))) ∧ (¬ ((y37) = (y38)) → (xPT (G38) → Q (0) (G38)))))))))) ∧ (((xand (xsc X (x3)) (63)) = 19) → ((0 ≤ ((x3) + (1)) ∧ ((x3) + (1)) < (X.length : Int)) ∧ ((0 ≤ ((x3) + (2)) ∧ ((x3) + (2)) < (X.length : Int)) ∧ (∃ (j39 : Nat), j39 < d ∧ xMI X j39 113 [.ref (0), vi (xsc X ((x3) + (1))), vi (xsc X ((x3) + (2)))] (F) (fun (y39 : Int) (G39 : XF) => ((0 ≤ ((x3) + (1)) ∧ ((x3) + (1)) < (X.length : Int)) ∧ ((0 ≤ ((x3) + (2)) ∧ ((x3) + (2)) < (X.length : Int)) ∧ (∃ (j40 : Nat), j40 < d ∧ xMI X j40 201 [.ref (131), vi (xsc X ((x3) + (1))), vi (xsc X ((x3) + (2)))] (G39) (fun (y40 : Int) (G40 : XF) => (inR (y39) ∧ inR (y40) ∧ ((((y39) = (y40)) → (xPT (G40) → xW X d 228 18 [.ref xSC, .ref (0), .ref (131), vi (x3 + 6)] [] (G40) (xqi Q))) ∧ (¬ ((y39) = (y40)) → (xPT (G40) → Q (0) (G40)))))))))))))) ∧ (((xand (xsc X (x3)) (63)) = 20) → ((0 ≤ ((x3) + (1)) ∧ ((x3) + (1)) < (X.length : Int)) ∧ (∃ (j41 : Nat), j41 < d ∧ xMI X j41 114 [.ref (0), vi (xsc X ((x3) + (1)))] (F) (fun (y41 : Int) (G41 : XF) => ((0 ≤ ((x3) + (1)) ∧ ((x3) + (1)) < (X.length : Int)) ∧ (∃ (j42 : Nat), j42 < d ∧ xMI X j42 202 [.ref (131), vi (xsc X ((x3) + (1)))] (G41) (fun (y42 : Int) (G42 : XF) => (inR (y41) ∧ inR (y42) ∧ ((((y41) = (y42)) → (xPT (G42) → xW X d 228 18 [.ref xSC, .ref (0), .ref (131), vi (x3 + 6)] [] (G42) (xqi Q))) ∧ (¬ ((y41) = (y42)) → (xPT (G42) → Q (0) (G42)))))))))))) ∧ (((xand (xsc X (x3)) (63)) = 21) → ((0 ≤ ((x3) + (1)) ∧ ((x3) + (1)) < (X.length : Int)) ∧ (∃ (j43 : Nat), j43 < d ∧ xMI X j43 115 [.ref (0), vi (xsc X ((x3) + (1)))] (F) (fun (y43 : Int) (G43 : XF) => ((0 ≤ ((x3) + (1)) ∧ ((x3) + (1)) < (X.length : Int)) ∧ (∃ (j44 : Nat), j44 < d ∧ xMI X j44 203 [.ref (131), vi (xsc X ((x3) + (1)))] (G43) (fun (y44 : Int) (G44 : XF) => (inR (y43) ∧ inR (y44) ∧ ((((y43) = (y44)) → (xPT (G44) → xW X d 228 18 [.ref xSC, .ref (0), .ref (131), vi (x3 + 6)] [] (G44) (xqi Q))) ∧ (¬ ((y43) = (y44)) → (xPT (G44) → Q (0) (G44)))))))))))) ∧ (((xand (xsc X (x3)) (63)) = 22) → (∃ (j45 : Nat), j45 < d ∧ xMI X j45 116 [.ref (0)] (F) (fun (y45 : Int) (G45 : XF) => (∃ (j46 : Nat), j46 < d ∧ xMI X j46 205 [.ref (131)] (G45) (fun (y46 : Int) (G46 : XF) => (inR (y45) ∧ inR (y46) ∧ ((((y45) = (y46)) → (xPT (G46) → xW X d 228 18 [.ref xSC, .ref (0), .ref (131), vi (x3 + 6)] [] (G46) (xqi Q))) ∧ (¬ ((y45) = (y46)) → (xPT (G46) → Q (0) (G46)))))))))) ∧ (((xand (xsc X (x3)) (63)) = 23) → ((0 ≤ ((x3) + (1)) ∧ ((x3) + (1)) < (X.length : Int)) ∧ ((0 ≤ ((x3) + (2)) ∧ ((x3) + (2)) < (X.length : Int)) ∧ (∃ (j47 : Nat), j47 < d ∧ xMI X j47 117 [.ref (0), vi (xsc X ((x3) + (1))), vi (xsc X ((x3) + (2)))] (F) (fun (y47 : Int) (G47 : XF) => ((0 ≤ ((x3) + (1)) ∧ ((x3) + (1)) < (X.length : Int)) ∧ ((0 ≤ ((x3) + (2)) ∧ ((x3) + (2)) < (X.length : Int)) ∧ (∃ (j48 : Nat), j48 < d ∧ xMI X j48 209 [.ref (131), vi (xsc X ((x3) + (1))), vi (xsc X ((x3) + (2)))] (G47) (fun (y48 : Int) (G48 : XF) => (inR (y47) ∧ inR (y48) ∧ ((((y47) = (y48)) → (xPT (G48) → xW X d 228 18 [.ref xSC, .ref (0), .ref (131), vi (x3 + 6)] [] (G48) (xqi Q))) ∧ (¬ ((y47) = (y48)) → (xPT (G48) → Q (0) (G48)))))))))))))) ∧ (((xand (xsc X (x3)) (63)) = 24) → ((0 ≤ ((x3) + (1)) ∧ ((x3) + (1)) < (X.length : Int)) ∧ ((0 ≤ ((x3) + (2)) ∧ ((x3) + (2)) < (X.length : Int)) ∧ (∃ (j49 : Nat), j49 < d ∧ xMI X j49 118 [.ref (0), vi (xsc X ((x3) + (1))), vi (xsc X ((x3) + (2)))] (F) (fun (y49 : Int) (G49 : XF) => ((0 ≤ ((x3) + (1)) ∧ ((x3) + (1)) < (X.length : Int)) ∧ ((0 ≤ ((x3) + (2)) ∧ ((x3) + (2)) < (X.length : Int)) ∧ (∃ (j50 : Nat), j50 < d ∧ xMI X j50 210 [.ref (131), vi (xsc X ((x3) + (1))), vi (xsc X ((x3) + (2)))] (G49) (fun (y50 : Int) (G50 : XF) => (inR (y49) ∧ inR (y50) ∧ ((((y49) = (y50)) → (xPT (G50) → xW X d 228 18 [.ref xSC, .ref (0), .ref (131), vi (x3 + 6)] [] (G50) (xqi Q))) ∧ (¬ ((y49) = (y50)) → (xPT (G50) → Q (0) (G50)))))))))))))) ∧ (((xand (xsc X (x3)) (63)) = 25) → ((0 ≤ ((x3) + (1)) ∧ ((x3) + (1)) < (X.length : Int)) ∧ ((0 ≤ ((x3) + (2)) ∧ ((x3) + (2)) < (X.length : Int)) ∧ ((0 ≤ ((x3) + (3)) ∧ ((x3) + (3)) < (X.length : Int)) ∧ (∃ (j51 : Nat), j51 < d ∧ xMI X j51 119 [.ref (0), vi (xsc X ((x3) + (1))), vi (xsc X ((x3) + (2))), vi (xsc X ((x3) + (3)))] (F) (fun (y51 : Int) (G51 : XF) => ((0 ≤ ((x3) + (1)) ∧ ((x3) + (1)) < (X.length : Int)) ∧ ((0 ≤ ((x3) + (2)) ∧ ((x3) + (2)) < (X.length : Int)) ∧ ((0 ≤ ((x3) + (3)) ∧ ((x3) + (3)) < (X.length : Int)) ∧ (∃ (j52 : Nat), j52 < d ∧ xMI X j52 218 [.ref (131), vi (xsc X ((x3) + (1))), vi (xsc X ((x3) + (2))), vi (xsc X ((x3) + (3)))] (G51) (fun (y52 : Int) (G52 : XF) => (inR (y51) ∧ inR (y52) ∧ ((((y51) = (y52)) → (xPT (G52) → xW X d 228 18 [.ref xSC, .ref (0), .ref (131), vi (x3 + 6)] [] (G52) (xqi Q))) ∧ (¬ ((y51) = (y52)) → (xPT (G52) → Q (0) (G52)))))))))))))))) ∧ (((xand (xsc X (x3)) (63)) = 26) → ((0 ≤ ((x3) + (1)) ∧ ((x3) + (1)) < (X.length : Int)) ∧ (∃ (j53 : Nat), j53 < d ∧ xMI X j53 120 [.ref (0), vi (xsc X ((x3) + (1)))] (F) (fun (y53 : Int) (G53 : XF) => ((0 ≤ ((x3) + (1)) ∧ ((x3) + (1)) < (X.length : Int)) ∧ (∃ (j54 : Nat), j54 < d ∧ xMI X j54 212 [.ref (131), vi (xsc X ((x3) + (1)))] (G53) (fun (y54 : Int) (G54 : XF) => (inR (y53) ∧ inR (y54) ∧ ((((y53) = (y54)) → (xPT (G54) → xW X d 228 18 [.ref xSC, .ref (0), .ref (131), vi (x3 + 6)] [] (G54) (xqi Q))) ∧ (¬ ((y53) = (y54)) → (xPT (G54) → Q (0) (G54)))))))))))) ∧ (((xand (xsc X (x3)) (63)) = 27) → ((0 ≤ ((x3) + (1)) ∧ ((x3) + (1)) < (X.length : Int)) ∧ ((0 ≤ ((x3) + (2)) ∧ ((x3) + (2)) < (X.length : Int)) ∧ (∃ (j55 : Nat), j55 < d ∧ xMI X j55 121 [.ref (0), vi (xsc X ((x3) + (1))), vi (xsc X ((x3) + (2)))] (F) (fun (y55 : Int) (G55 : XF) => ((0 ≤ ((x3) + (1)) ∧ ((x3) + (1)) < (X.length : Int)) ∧ ((0 ≤ ((x3) + (2)) ∧ ((x3) + (2)) < (X.length : Int)) ∧ (∃ (j56 : Nat), j56 < d ∧ xMI X j56 213 [.ref (131), vi (xsc X ((x3) + (1))), vi (xsc X ((x3) + (2)))] (G55) (fun (y56 : Int) (G56 : XF) => (inR (y55) ∧ inR (y56) ∧ ((((y55) = (y56)) → (xPT (G56) → xW X d 228 18 [.ref xSC, .ref (0), .ref (131), vi (x3 + 6)] [] (G56) (xqi Q))) ∧ (¬ ((y55) = (y56)) → (xPT (G56) → Q (0) (G56)))))))))))))) ∧ (((xand (xsc X (x3)) (63)) = 28) → ((0 ≤ ((x3) + (1)) ∧ ((x3) + (1)) < (X.length : Int)) ∧ (∃ (j57 : Nat), j57 < d ∧ xMI X j57 122 [.ref (0), vi (xsc X ((x3) + (1)))] (F) (fun (y57 : Int) (G57 : XF) => ((0 ≤ ((x3) + (1)) ∧ ((x3) + (1)) < (X.length : Int)) ∧ (∃ (j58 : Nat), j58 < d ∧ xMI X j58 214 [.ref (131), vi (xsc X ((x3) + (1)))] (G57) (fun (y58 : Int) (G58 : XF) => (inR (y57) ∧ inR (y58) ∧ ((((y57) = (y58)) → (xPT (G58) → xW X d 228 18 [.ref xSC, .ref (0), .ref (131), vi (x3 + 6)] [] (G58) (xqi Q))) ∧ (¬ ((y57) = (y58)) → (xPT (G58) → Q (0) (G58)))))))))))) ∧ (((xand (xsc X (x3)) (63)) = 29) → ((0 ≤ ((x3) + (1)) ∧ ((x3) + (1)) < (X.length : Int)) ∧ (∃ (j59 : Nat), j59 < d ∧ xMI X j59 123 [.ref (0), vi (xsc X ((x3) + (1)))] (F) (fun (y59 : Int) (G59 : XF) => ((0 ≤ ((x3) + (1)) ∧ ((x3) + (1)) < (X.length : Int)) ∧ (∃ (j60 : Nat), j60 < d ∧ xMI X j60 215 [.ref (131), vi (xsc X ((x3) + (1)))] (G59) (fun (y60 : Int) (G60 : XF) => (inR (y59) ∧ inR (y60) ∧ ((((y59) = (y60)) → (xPT (G60) → xW X d 228 18 [.ref xSC, .ref (0), .ref (131), vi (x3 + 6)] [] (G60) (xqi Q))) ∧ (¬ ((y59) = (y60)) → (xPT (G60) → Q (0) (G60)))))))))))) ∧ (((xand (xsc X (x3)) (63)) = 30) → ((0 ≤ ((x3) + (1)) ∧ ((x3) + (1)) < (X.length : Int)) ∧ (∃ (j61 : Nat), j61 < d ∧ xMI X j61 124 [.ref (0), vi (xsc X ((x3) + (1)))] (F) (fun (y61 : Int) (G61 : XF) => ((0 ≤ ((x3) + (1)) ∧ ((x3) + (1)) < (X.length : Int)) ∧ (∃ (j62 : Nat), j62 < d ∧ xMI X j62 217 [.ref (131), vi (xsc X ((x3) + (1)))] (G61) (fun (y62 : Int) (G62 : XF) => (inR (y61) ∧ inR (y62) ∧ ((((y61) = (y62)) → (xPT (G62) → xW X d 228 18 [.ref xSC, .ref (0), .ref (131), vi (x3 + 6)] [] (G62) (xqi Q))) ∧ (¬ ((y61) = (y62)) → (xPT (G62) → Q (0) (G62)))))))))))) ∧ (((xand (xsc X (x3)) (63)) = 31) → ((0 ≤ ((x3) + (1)) ∧ ((x3) + (1)) < (X.length : Int)) ∧ ((inR (xsc X ((x3) + (1)))) ∧ ((0 ≤ ((x3) + (2)) ∧ ((x3) + (2)) < (X.length : Int)) ∧ ((inR (xsc X ((x3) + (2)))) ∧ ((0 ≤ ((x3) + (3)) ∧ ((x3) + (3)) < (X.length : Int)) ∧ ((inR (xsc X ((x3) + (3)))) ∧ ((0 ≤ ((x3) + (4)) ∧ ((x3) + (4)) < (X.length : Int)) ∧ ((inR (xsc X ((x3) + (4)))) ∧ (∃ (j63 : Nat), j63 < d ∧ xML X j63 125 [.ref (0), vl (xlor (xlsh (xsc X ((x3) + (1))) (32)) (xlan (xsc X ((x3) + (2))) (4294967295))), vl (xlor (xlsh (xsc X ((x3) + (3))) (32)) (xlan (xsc X ((x3) + (4))) (4294967295)))] (F) (fun (y63 : Int) (G63 : XF) => ((0 ≤ ((x3) + (1)) ∧ ((x3) + (1)) < (X.length : Int)) ∧ ((inR (xsc X ((x3) + (1)))) ∧ ((0 ≤ ((x3) + (2)) ∧ ((x3) + (2)) < (X.length : Int)) ∧ ((inR (xsc X ((x3) + (2)))) ∧ ((0 ≤ ((x3) + (3)) ∧ ((x3) + (3)) < (X.length : Int)) ∧ ((inR (xsc X ((x3) + (3)))) ∧ ((0 ≤ ((x3) + (4)) ∧ ((x3) + (4)) < (X.length : Int)) ∧ ((inR (xsc X ((x3) + (4)))) ∧ (∃ (j64 : Nat), j64 < d ∧ xML X j64 219 [.ref (131), vl (xlor (xlsh (xsc X ((x3) + (1))) (32)) (xlan (xsc X ((x3) + (2))) (4294967295))), vl (xlor (xlsh (xsc X ((x3) + (3))) (32)) (xlan (xsc X ((x3) + (4))) (4294967295)))] (G63) (fun (y64 : Int) (G64 : XF) => (inL (y63) ∧ inL (y64) ∧ (inR (xcmp (y63) (y64)) ∧ ((((xcmp (y63) (y64)) = (0)) → (xPT (G64) → xW X d 228 18 [.ref xSC, .ref (0), .ref (131), vi (x3 + 6)] [] (G64) (xqi Q))) ∧ (¬ ((xcmp (y63) (y64)) = (0)) → (xPT (G64) → Q (0) (G64))))))))))))))))))))))))))) ∧ (((xand (xsc X (x3)) (63)) = 32) → ((0 ≤ ((x3) + (1)) ∧ ((x3) + (1)) < (X.length : Int)) ∧ (∃ (j65 : Nat), j65 < d ∧ xMI X j65 127 [.ref (0), vi (xsc X ((x3) + (1)))] (F) (fun (y65 : Int) (G65 : XF) => ((0 ≤ ((x3) + (1)) ∧ ((x3) + (1)) < (X.length : Int)) ∧ (∃ (j66 : Nat), j66 < d ∧ xMI X j66 220 [.ref (131), vi (xsc X ((x3) + (1)))] (G65) (fun (y66 : Int) (G66 : XF) => (inR (y65) ∧ inR (y66) ∧ ((((y65) = (y66)) → (xPT (G66) → xW X d 228 18 [.ref xSC, .ref (0), .ref (131), vi (x3 + 6)] [] (G66) (xqi Q))) ∧ (¬ ((y65) = (y66)) → (xPT (G66) → Q (0) (G66))))))))))))))))) : xW X d 228 18 [.ref xSC, .ref (0), .ref (131), vi (x3)] [] F (xqi Q) := by
  refine xw_iload_n (n := 19) (show xlook 228 18 = some (18, .iload_n 3, 1, 0, 0, 0, 0) from xlk (by decide +kernel)) rfl rfl ?_
  refine xw_aload_n (n := 20) (show xlook 228 19 = some (19, .aload_n 0, 1, 0, 0, 0, 0) from xlk (by decide +kernel)) rfl rfl ?_
  refine xw_slen (show xlook 228 20 = some (20, .arraylength, 1, 0, 0, 0, 0) from xlk (by decide +kernel)) hX (n := 21) rfl ?_
  refine xw_bipush (n := 23) (show xlook 228 21 = some (21, .bipush 6, 2, 0, 0, 0, 0) from xlk (by decide +kernel)) rfl (by decide) ?_
  refine xw_isub (n := 24) (show xlook 228 23 = some (23, .isub, 1, 0, 0, 0, 0) from xlk (by decide +kernel)) rfl ?_
  obtain ⟨q0, q1, t⟩ := t
  refine xw_icmp_gt (n := 27) (m := 1186) (show xlook 228 24 = some (24, .if_icmp .gt 1162, 3, 1186, 0, 0, 0) from xlk (by decide +kernel)) rfl rfl q0 q1 ⟨fun c => ?_, fun c => ?_⟩
  · replace t := t.1 c
    refine xw_iconst (n := 1187) (show xlook 228 1186 = some (1186, .iconst 1, 1, 0, 0, 0, 0) from xlk (by decide +kernel)) rfl ?_
    exact xw_zreturn hPT (show xlook 228 1187 = some (1187, .ireturn, 1, 0, 0, 0, 0) from xlk (by decide +kernel)) rfl (by decide) (t hPT)
  · replace t := t.2 c
    refine xw_aload_n (n := 28) (show xlook 228 27 = some (27, .aload_n 0, 1, 0, 0, 0, 0) from xlk (by decide +kernel)) rfl rfl ?_
    refine xw_iload_n (n := 29) (show xlook 228 28 = some (28, .iload_n 3, 1, 0, 0, 0, 0) from xlk (by decide +kernel)) rfl rfl ?_
    obtain ⟨q1, t⟩ := t
    refine xw_sald (show xlook 228 29 = some (29, .iaload, 1, 0, 0, 0, 0) from xlk (by decide +kernel)) hX q1 (n := 30) rfl ?_
    refine xw_bipush (n := 32) (show xlook 228 30 = some (30, .bipush 63, 2, 0, 0, 0, 0) from xlk (by decide +kernel)) rfl (by decide) ?_
    refine xw_iand (n := 33) (show xlook 228 32 = some (32, .iand, 1, 0, 0, 0, 0) from xlk (by decide +kernel)) rfl ?_
    obtain ⟨q1, td, u0, u1, u2, u3, u4, u5, u6, u7, u8, u9, u10, u11, u12, u13, u14, u15, u16, u17, u18, u19, u20, u21, u22, u23, u24, u25, u26, u27, u28, u29, u30, u31, u32⟩ := t
    by_cases hq : (xand (xsc X (x3)) (63) < 0 ∨ 32 < xand (xsc X (x3)) (63))
    · replace t := td hq
      refine xw_tabOut (t := 1180) (show xlook 228 33 = some (33, .tableswitch 1147 0 32 #[147, 210, 233, 256, 279, 302, 345, 358, 371, 394, 407, 440, 473, 506, 539, 572, 615, 648, 691, 704, 737, 760, 783, 796, 829, 862, 905, 928, 961, 984, 1007, 1030, 1124], 147, 0, 0, 0, 0) from xlk (by decide +kernel)) q1 hq rfl ?_
      refine xw_iinc (n := 1183) (show xlook 228 1180 = some (1180, .iinc 3 6, 3, 0, 0, 0, 0) from xlk (by decide +kernel)) rfl (ls' := [.ref xSC, .ref (0), .ref (131), vi (x3 + 6)]) rfl rfl ?_
      refine xw_goto (m := 18) (show xlook 228 1183 = some (1183, .goto (-1165), 3, 18, 0, 0, 0) from xlk (by decide +kernel)) rfl ?_
      exact t hPT
    rcases (show (xand (xsc X (x3)) (63)) = 0 ∨ (xand (xsc X (x3)) (63)) = 1 ∨ (xand (xsc X (x3)) (63)) = 2 ∨ (xand (xsc X (x3)) (63)) = 3 ∨ (xand (xsc X (x3)) (63)) = 4 ∨ (xand (xsc X (x3)) (63)) = 5 ∨ (xand (xsc X (x3)) (63)) = 6 ∨ (xand (xsc X (x3)) (63)) = 7 ∨ (xand (xsc X (x3)) (63)) = 8 ∨ (xand (xsc X (x3)) (63)) = 9 ∨ (xand (xsc X (x3)) (63)) = 10 ∨ (xand (xsc X (x3)) (63)) = 11 ∨ (xand (xsc X (x3)) (63)) = 12 ∨ (xand (xsc X (x3)) (63)) = 13 ∨ (xand (xsc X (x3)) (63)) = 14 ∨ (xand (xsc X (x3)) (63)) = 15 ∨ (xand (xsc X (x3)) (63)) = 16 ∨ (xand (xsc X (x3)) (63)) = 17 ∨ (xand (xsc X (x3)) (63)) = 18 ∨ (xand (xsc X (x3)) (63)) = 19 ∨ (xand (xsc X (x3)) (63)) = 20 ∨ (xand (xsc X (x3)) (63)) = 21 ∨ (xand (xsc X (x3)) (63)) = 22 ∨ (xand (xsc X (x3)) (63)) = 23 ∨ (xand (xsc X (x3)) (63)) = 24 ∨ (xand (xsc X (x3)) (63)) = 25 ∨ (xand (xsc X (x3)) (63)) = 26 ∨ (xand (xsc X (x3)) (63)) = 27 ∨ (xand (xsc X (x3)) (63)) = 28 ∨ (xand (xsc X (x3)) (63)) = 29 ∨ (xand (xsc X (x3)) (63)) = 30 ∨ (xand (xsc X (x3)) (63)) = 31 ∨ (xand (xsc X (x3)) (63)) = 32 by omega) with e | e | e | e | e | e | e | e | e | e | e | e | e | e | e | e | e | e | e | e | e | e | e | e | e | e | e | e | e | e | e | e | e
    · replace t := u0 e
      refine xw_tabIn (off := 147) (t := 180) (show xlook 228 33 = some (33, .tableswitch 1147 0 32 #[147, 210, 233, 256, 279, 302, 345, 358, 371, 394, 407, 440, 473, 506, 539, 572, 615, 648, 691, 704, 737, 760, 783, 796, 829, 862, 905, 928, 961, 984, 1007, 1030, 1124], 147, 0, 0, 0, 0) from xlk (by decide +kernel)) q1 hq (by show (#[147, 210, 233, 256, 279, 302, 345, 358, 371, 394, 407, 440, 473, 506, 539, 572, 615, 648, 691, 704, 737, 760, 783, 796, 829, 862, 905, 928, 961, 984, 1007, 1030, 1124] : Array Int)[((xand (xsc X (x3)) (63) : Int) - (0)).toNat]? = some (147); rw [e]; rfl) rfl ?_
      refine xw_aload_n (n := 181) (show xlook 228 180 = some (180, .aload_n 1, 1, 0, 0, 0, 0) from xlk (by decide +kernel)) rfl rfl ?_
      refine xw_aload_n (n := 182) (show xlook 228 181 = some (181, .aload_n 0, 1, 0, 0, 0, 0) from xlk (by decide +kernel)) rfl rfl ?_
      refine xw_iload_n (n := 183) (show xlook 228 182 = some (182, .iload_n 3, 1, 0, 0, 0, 0) from xlk (by decide +kernel)) rfl rfl ?_
      refine xw_iconst (n := 184) (show xlook 228 183 = some (183, .iconst 1, 1, 0, 0, 0, 0) from xlk (by decide +kernel)) rfl ?_
      refine xw_iadd (n := 185) (show xlook 228 184 = some (184, .iadd, 1, 0, 0, 0, 0) from xlk (by decide +kernel)) rfl ?_
      obtain ⟨q1, t⟩ := t
      refine xw_sald (show xlook 228 185 = some (185, .iaload, 1, 0, 0, 0, 0) from xlk (by decide +kernel)) hX q1 (n := 186) rfl ?_
      refine xw_aload_n (n := 187) (show xlook 228 186 = some (186, .aload_n 0, 1, 0, 0, 0, 0) from xlk (by decide +kernel)) rfl rfl ?_
      refine xw_iload_n (n := 188) (show xlook 228 187 = some (187, .iload_n 3, 1, 0, 0, 0, 0) from xlk (by decide +kernel)) rfl rfl ?_
      refine xw_iconst (n := 189) (show xlook 228 188 = some (188, .iconst 2, 1, 0, 0, 0, 0) from xlk (by decide +kernel)) rfl ?_
      refine xw_iadd (n := 190) (show xlook 228 189 = some (189, .iadd, 1, 0, 0, 0, 0) from xlk (by decide +kernel)) rfl ?_
      obtain ⟨q1, t⟩ := t
      refine xw_sald (show xlook 228 190 = some (190, .iaload, 1, 0, 0, 0, 0) from xlk (by decide +kernel)) hX q1 (n := 191) rfl ?_
      refine xw_aload_n (n := 192) (show xlook 228 191 = some (191, .aload_n 0, 1, 0, 0, 0, 0) from xlk (by decide +kernel)) rfl rfl ?_
      refine xw_iload_n (n := 193) (show xlook 228 192 = some (192, .iload_n 3, 1, 0, 0, 0, 0) from xlk (by decide +kernel)) rfl rfl ?_
      refine xw_iconst (n := 194) (show xlook 228 193 = some (193, .iconst 3, 1, 0, 0, 0, 0) from xlk (by decide +kernel)) rfl ?_
      refine xw_iadd (n := 195) (show xlook 228 194 = some (194, .iadd, 1, 0, 0, 0, 0) from xlk (by decide +kernel)) rfl ?_
      obtain ⟨q1, t⟩ := t
      refine xw_sald (show xlook 228 195 = some (195, .iaload, 1, 0, 0, 0, 0) from xlk (by decide +kernel)) hX q1 (n := 196) rfl ?_
      refine xw_aload_n (n := 197) (show xlook 228 196 = some (196, .aload_n 0, 1, 0, 0, 0, 0) from xlk (by decide +kernel)) rfl rfl ?_
      refine xw_iload_n (n := 198) (show xlook 228 197 = some (197, .iload_n 3, 1, 0, 0, 0, 0) from xlk (by decide +kernel)) rfl rfl ?_
      refine xw_iconst (n := 199) (show xlook 228 198 = some (198, .iconst 4, 1, 0, 0, 0, 0) from xlk (by decide +kernel)) rfl ?_
      refine xw_iadd (n := 200) (show xlook 228 199 = some (199, .iadd, 1, 0, 0, 0, 0) from xlk (by decide +kernel)) rfl ?_
      obtain ⟨q1, t⟩ := t
      refine xw_sald (show xlook 228 200 = some (200, .iaload, 1, 0, 0, 0, 0) from xlk (by decide +kernel)) hX q1 (n := 201) rfl ?_
      refine xw_aload_n (n := 202) (show xlook 228 201 = some (201, .aload_n 0, 1, 0, 0, 0, 0) from xlk (by decide +kernel)) rfl rfl ?_
      refine xw_iload_n (n := 203) (show xlook 228 202 = some (202, .iload_n 3, 1, 0, 0, 0, 0) from xlk (by decide +kernel)) rfl rfl ?_
      refine xw_iconst (n := 204) (show xlook 228 203 = some (203, .iconst 5, 1, 0, 0, 0, 0) from xlk (by decide +kernel)) rfl ?_
      refine xw_iadd (n := 205) (show xlook 228 204 = some (204, .iadd, 1, 0, 0, 0, 0) from xlk (by decide +kernel)) rfl ?_
      obtain ⟨q1, t⟩ := t
      refine xw_sald (show xlook 228 205 = some (205, .iaload, 1, 0, 0, 0, 0) from xlk (by decide +kernel)) hX q1 (n := 206) rfl ?_
      obtain ⟨j1, hj1, rr1, G1, hm1, hG1, t⟩ := t
      obtain ⟨y1, rfl, t⟩ := t
      refine xw_callv (dk := j1) (o := 0) (as := [vi (xsc X ((x3) + (1))), vi (xsc X ((x3) + (2))), vi (xsc X ((x3) + (3))), vi (xsc X ((x3) + (4))), vi (xsc X ((x3) + (5)))]) (show xlook 228 206 = some (206, .invokevirtual 13, 3, 93, 6, 0, 213) from xlk (by decide +kernel)) (by decide) hj1 ⟨Nat.le_of_ble_eq_true rfl, Nat.le_of_ble_eq_true rfl, Nat.le_of_ble_eq_true rfl⟩ ⟨xob_11.1, xob_11.2, by decide⟩ rfl hm1 (n := 209) rfl ?_
      show xW X d 228 209 [.ref xSC, .ref (0), .ref (131), vi (x3)] [vi (y1)] G1 (xqi Q)
      refine xw_aload_n (n := 210) (show xlook 228 209 = some (209, .aload_n 2, 1, 0, 0, 0, 0) from xlk (by decide +kernel)) rfl rfl ?_
      refine xw_aload_n (n := 211) (show xlook 228 210 = some (210, .aload_n 0, 1, 0, 0, 0, 0) from xlk (by decide +kernel)) rfl rfl ?_
      refine xw_iload_n (n := 212) (show xlook 228 211 = some (211, .iload_n 3, 1, 0, 0, 0, 0) from xlk (by decide +kernel)) rfl rfl ?_
      refine xw_iconst (n := 213) (show xlook 228 212 = some (212, .iconst 1, 1, 0, 0, 0, 0) from xlk (by decide +kernel)) rfl ?_
      refine xw_iadd (n := 214) (show xlook 228 213 = some (213, .iadd, 1, 0, 0, 0, 0) from xlk (by decide +kernel)) rfl ?_
      obtain ⟨q1, t⟩ := t
      refine xw_sald (show xlook 228 214 = some (214, .iaload, 1, 0, 0, 0, 0) from xlk (by decide +kernel)) hX q1 (n := 215) rfl ?_
      refine xw_aload_n (n := 216) (show xlook 228 215 = some (215, .aload_n 0, 1, 0, 0, 0, 0) from xlk (by decide +kernel)) rfl rfl ?_
      refine xw_iload_n (n := 217) (show xlook 228 216 = some (216, .iload_n 3, 1, 0, 0, 0, 0) from xlk (by decide +kernel)) rfl rfl ?_
      refine xw_iconst (n := 218) (show xlook 228 217 = some (217, .iconst 2, 1, 0, 0, 0, 0) from xlk (by decide +kernel)) rfl ?_
      refine xw_iadd (n := 219) (show xlook 228 218 = some (218, .iadd, 1, 0, 0, 0, 0) from xlk (by decide +kernel)) rfl ?_
      obtain ⟨q1, t⟩ := t
      refine xw_sald (show xlook 228 219 = some (219, .iaload, 1, 0, 0, 0, 0) from xlk (by decide +kernel)) hX q1 (n := 220) rfl ?_
      refine xw_aload_n (n := 221) (show xlook 228 220 = some (220, .aload_n 0, 1, 0, 0, 0, 0) from xlk (by decide +kernel)) rfl rfl ?_
      refine xw_iload_n (n := 222) (show xlook 228 221 = some (221, .iload_n 3, 1, 0, 0, 0, 0) from xlk (by decide +kernel)) rfl rfl ?_
      refine xw_iconst (n := 223) (show xlook 228 222 = some (222, .iconst 3, 1, 0, 0, 0, 0) from xlk (by decide +kernel)) rfl ?_
      refine xw_iadd (n := 224) (show xlook 228 223 = some (223, .iadd, 1, 0, 0, 0, 0) from xlk (by decide +kernel)) rfl ?_
      obtain ⟨q1, t⟩ := t
      refine xw_sald (show xlook 228 224 = some (224, .iaload, 1, 0, 0, 0, 0) from xlk (by decide +kernel)) hX q1 (n := 225) rfl ?_
      refine xw_aload_n (n := 226) (show xlook 228 225 = some (225, .aload_n 0, 1, 0, 0, 0, 0) from xlk (by decide +kernel)) rfl rfl ?_
      refine xw_iload_n (n := 227) (show xlook 228 226 = some (226, .iload_n 3, 1, 0, 0, 0, 0) from xlk (by decide +kernel)) rfl rfl ?_
      refine xw_iconst (n := 228) (show xlook 228 227 = some (227, .iconst 4, 1, 0, 0, 0, 0) from xlk (by decide +kernel)) rfl ?_
      refine xw_iadd (n := 229) (show xlook 228 228 = some (228, .iadd, 1, 0, 0, 0, 0) from xlk (by decide +kernel)) rfl ?_
      obtain ⟨q1, t⟩ := t
      refine xw_sald (show xlook 228 229 = some (229, .iaload, 1, 0, 0, 0, 0) from xlk (by decide +kernel)) hX q1 (n := 230) rfl ?_
      refine xw_aload_n (n := 231) (show xlook 228 230 = some (230, .aload_n 0, 1, 0, 0, 0, 0) from xlk (by decide +kernel)) rfl rfl ?_
      refine xw_iload_n (n := 232) (show xlook 228 231 = some (231, .iload_n 3, 1, 0, 0, 0, 0) from xlk (by decide +kernel)) rfl rfl ?_
      refine xw_iconst (n := 233) (show xlook 228 232 = some (232, .iconst 5, 1, 0, 0, 0, 0) from xlk (by decide +kernel)) rfl ?_
      refine xw_iadd (n := 234) (show xlook 228 233 = some (233, .iadd, 1, 0, 0, 0, 0) from xlk (by decide +kernel)) rfl ?_
      obtain ⟨q1, t⟩ := t
      refine xw_sald (show xlook 228 234 = some (234, .iaload, 1, 0, 0, 0, 0) from xlk (by decide +kernel)) hX q1 (n := 235) rfl ?_
      obtain ⟨j2, hj2, rr2, G2, hm2, hG2, t⟩ := t
      obtain ⟨y2, rfl, t⟩ := t
      refine xw_callv (dk := j2) (o := 131) (as := [vi (xsc X ((x3) + (1))), vi (xsc X ((x3) + (2))), vi (xsc X ((x3) + (3))), vi (xsc X ((x3) + (4))), vi (xsc X ((x3) + (5)))]) (show xlook 228 235 = some (235, .invokevirtual 17, 3, 135, 6, 0, 214) from xlk (by decide +kernel)) (by decide) hj2 ⟨Nat.le_of_ble_eq_true rfl, Nat.le_of_ble_eq_true rfl, Nat.le_of_ble_eq_true rfl⟩ ⟨xob_12.1, xob_12.2, by decide⟩ rfl hm2 (n := 238) rfl ?_
      show xW X d 228 238 [.ref xSC, .ref (0), .ref (131), vi (x3)] [vi (y2), vi (y1)] G2 (xqi Q)
      obtain ⟨q0, q1, t⟩ := t
      refine xw_icmp_eq (n := 241) (m := 1180) (show xlook 228 238 = some (238, .if_icmp .eq 942, 3, 1180, 0, 0, 0) from xlk (by decide +kernel)) rfl rfl q0 q1 ⟨fun c => ?_, fun c => ?_⟩
      · replace t := t.1 c
        refine xw_iinc (n := 1183) (show xlook 228 1180 = some (1180, .iinc 3 6, 3, 0, 0, 0, 0) from xlk (by decide +kernel)) rfl (ls' := [.ref xSC, .ref (0), .ref (131), vi (x3 + 6)]) rfl rfl ?_
        refine xw_goto (m := 18) (show xlook 228 1183 = some (1183, .goto (-1165), 3, 18, 0, 0, 0) from xlk (by decide +kernel)) rfl ?_
        exact t hG2
      · replace t := t.2 c
        refine xw_iconst (n := 242) (show xlook 228 241 = some (241, .iconst 0, 1, 0, 0, 0, 0) from xlk (by decide +kernel)) rfl ?_
        exact xw_zreturn hG2 (show xlook 228 242 = some (242, .ireturn, 1, 0, 0, 0, 0) from xlk (by decide +kernel)) rfl (by decide) (t hG2)
    · replace t := u1 e
      refine xw_tabIn (off := 210) (t := 243) (show xlook 228 33 = some (33, .tableswitch 1147 0 32 #[147, 210, 233, 256, 279, 302, 345, 358, 371, 394, 407, 440, 473, 506, 539, 572, 615, 648, 691, 704, 737, 760, 783, 796, 829, 862, 905, 928, 961, 984, 1007, 1030, 1124], 147, 0, 0, 0, 0) from xlk (by decide +kernel)) q1 hq (by show (#[147, 210, 233, 256, 279, 302, 345, 358, 371, 394, 407, 440, 473, 506, 539, 572, 615, 648, 691, 704, 737, 760, 783, 796, 829, 862, 905, 928, 961, 984, 1007, 1030, 1124] : Array Int)[((xand (xsc X (x3)) (63) : Int) - (0)).toNat]? = some (210); rw [e]; rfl) rfl ?_
      refine xw_aload_n (n := 244) (show xlook 228 243 = some (243, .aload_n 1, 1, 0, 0, 0, 0) from xlk (by decide +kernel)) rfl rfl ?_
      refine xw_aload_n (n := 245) (show xlook 228 244 = some (244, .aload_n 0, 1, 0, 0, 0, 0) from xlk (by decide +kernel)) rfl rfl ?_
      refine xw_iload_n (n := 246) (show xlook 228 245 = some (245, .iload_n 3, 1, 0, 0, 0, 0) from xlk (by decide +kernel)) rfl rfl ?_
      refine xw_iconst (n := 247) (show xlook 228 246 = some (246, .iconst 1, 1, 0, 0, 0, 0) from xlk (by decide +kernel)) rfl ?_
      refine xw_iadd (n := 248) (show xlook 228 247 = some (247, .iadd, 1, 0, 0, 0, 0) from xlk (by decide +kernel)) rfl ?_
      obtain ⟨q1, t⟩ := t
      refine xw_sald (show xlook 228 248 = some (248, .iaload, 1, 0, 0, 0, 0) from xlk (by decide +kernel)) hX q1 (n := 249) rfl ?_
      obtain ⟨j3, hj3, rr3, G3, hm3, hG3, t⟩ := t
      obtain ⟨y3, rfl, t⟩ := t
      refine xw_callv (dk := j3) (o := 0) (as := [vi (xsc X ((x3) + (1)))]) (show xlook 228 249 = some (249, .invokevirtual 18, 3, 94, 2, 0, 215) from xlk (by decide +kernel)) (by decide) hj3 ⟨Nat.le_of_ble_eq_true rfl, Nat.le_of_ble_eq_true rfl, Nat.le_of_ble_eq_true rfl⟩ ⟨xob_11.1, xob_11.2, by decide⟩ rfl hm3 (n := 252) rfl ?_
      show xW X d 228 252 [.ref xSC, .ref (0), .ref (131), vi (x3)] [vi (y3)] G3 (xqi Q)
      refine xw_aload_n (n := 253) (show xlook 228 252 = some (252, .aload_n 2, 1, 0, 0, 0, 0) from xlk (by decide +kernel)) rfl rfl ?_
      refine xw_aload_n (n := 254) (show xlook 228 253 = some (253, .aload_n 0, 1, 0, 0, 0, 0) from xlk (by decide +kernel)) rfl rfl ?_
      refine xw_iload_n (n := 255) (show xlook 228 254 = some (254, .iload_n 3, 1, 0, 0, 0, 0) from xlk (by decide +kernel)) rfl rfl ?_
      refine xw_iconst (n := 256) (show xlook 228 255 = some (255, .iconst 1, 1, 0, 0, 0, 0) from xlk (by decide +kernel)) rfl ?_
      refine xw_iadd (n := 257) (show xlook 228 256 = some (256, .iadd, 1, 0, 0, 0, 0) from xlk (by decide +kernel)) rfl ?_
      obtain ⟨q1, t⟩ := t
      refine xw_sald (show xlook 228 257 = some (257, .iaload, 1, 0, 0, 0, 0) from xlk (by decide +kernel)) hX q1 (n := 258) rfl ?_
      obtain ⟨j4, hj4, rr4, G4, hm4, hG4, t⟩ := t
      obtain ⟨y4, rfl, t⟩ := t
      refine xw_callv (dk := j4) (o := 131) (as := [vi (xsc X ((x3) + (1)))]) (show xlook 228 258 = some (258, .invokevirtual 22, 3, 151, 2, 0, 216) from xlk (by decide +kernel)) (by decide) hj4 ⟨Nat.le_of_ble_eq_true rfl, Nat.le_of_ble_eq_true rfl, Nat.le_of_ble_eq_true rfl⟩ ⟨xob_12.1, xob_12.2, by decide⟩ rfl hm4 (n := 261) rfl ?_
      show xW X d 228 261 [.ref xSC, .ref (0), .ref (131), vi (x3)] [vi (y4), vi (y3)] G4 (xqi Q)
      obtain ⟨q0, q1, t⟩ := t
      refine xw_icmp_eq (n := 264) (m := 1180) (show xlook 228 261 = some (261, .if_icmp .eq 919, 3, 1180, 0, 0, 0) from xlk (by decide +kernel)) rfl rfl q0 q1 ⟨fun c => ?_, fun c => ?_⟩
      · replace t := t.1 c
        refine xw_iinc (n := 1183) (show xlook 228 1180 = some (1180, .iinc 3 6, 3, 0, 0, 0, 0) from xlk (by decide +kernel)) rfl (ls' := [.ref xSC, .ref (0), .ref (131), vi (x3 + 6)]) rfl rfl ?_
        refine xw_goto (m := 18) (show xlook 228 1183 = some (1183, .goto (-1165), 3, 18, 0, 0, 0) from xlk (by decide +kernel)) rfl ?_
        exact t hG4
      · replace t := t.2 c
        refine xw_iconst (n := 265) (show xlook 228 264 = some (264, .iconst 0, 1, 0, 0, 0, 0) from xlk (by decide +kernel)) rfl ?_
        exact xw_zreturn hG4 (show xlook 228 265 = some (265, .ireturn, 1, 0, 0, 0, 0) from xlk (by decide +kernel)) rfl (by decide) (t hG4)
    · replace t := u2 e
      refine xw_tabIn (off := 233) (t := 266) (show xlook 228 33 = some (33, .tableswitch 1147 0 32 #[147, 210, 233, 256, 279, 302, 345, 358, 371, 394, 407, 440, 473, 506, 539, 572, 615, 648, 691, 704, 737, 760, 783, 796, 829, 862, 905, 928, 961, 984, 1007, 1030, 1124], 147, 0, 0, 0, 0) from xlk (by decide +kernel)) q1 hq (by show (#[147, 210, 233, 256, 279, 302, 345, 358, 371, 394, 407, 440, 473, 506, 539, 572, 615, 648, 691, 704, 737, 760, 783, 796, 829, 862, 905, 928, 961, 984, 1007, 1030, 1124] : Array Int)[((xand (xsc X (x3)) (63) : Int) - (0)).toNat]? = some (233); rw [e]; rfl) rfl ?_
      refine xw_aload_n (n := 267) (show xlook 228 266 = some (266, .aload_n 1, 1, 0, 0, 0, 0) from xlk (by decide +kernel)) rfl rfl ?_
      refine xw_aload_n (n := 268) (show xlook 228 267 = some (267, .aload_n 0, 1, 0, 0, 0, 0) from xlk (by decide +kernel)) rfl rfl ?_
      refine xw_iload_n (n := 269) (show xlook 228 268 = some (268, .iload_n 3, 1, 0, 0, 0, 0) from xlk (by decide +kernel)) rfl rfl ?_
      refine xw_iconst (n := 270) (show xlook 228 269 = some (269, .iconst 1, 1, 0, 0, 0, 0) from xlk (by decide +kernel)) rfl ?_
      refine xw_iadd (n := 271) (show xlook 228 270 = some (270, .iadd, 1, 0, 0, 0, 0) from xlk (by decide +kernel)) rfl ?_
      obtain ⟨q1, t⟩ := t
      refine xw_sald (show xlook 228 271 = some (271, .iaload, 1, 0, 0, 0, 0) from xlk (by decide +kernel)) hX q1 (n := 272) rfl ?_
      obtain ⟨j5, hj5, rr5, G5, hm5, hG5, t⟩ := t
      obtain ⟨y5, rfl, t⟩ := t
      refine xw_callv (dk := j5) (o := 0) (as := [vi (xsc X ((x3) + (1)))]) (show xlook 228 272 = some (272, .invokevirtual 23, 3, 95, 2, 0, 217) from xlk (by decide +kernel)) (by decide) hj5 ⟨Nat.le_of_ble_eq_true rfl, Nat.le_of_ble_eq_true rfl, Nat.le_of_ble_eq_true rfl⟩ ⟨xob_11.1, xob_11.2, by decide⟩ rfl hm5 (n := 275) rfl ?_
      show xW X d 228 275 [.ref xSC, .ref (0), .ref (131), vi (x3)] [vi (y5)] G5 (xqi Q)
      refine xw_aload_n (n := 276) (show xlook 228 275 = some (275, .aload_n 2, 1, 0, 0, 0, 0) from xlk (by decide +kernel)) rfl rfl ?_
      refine xw_aload_n (n := 277) (show xlook 228 276 = some (276, .aload_n 0, 1, 0, 0, 0, 0) from xlk (by decide +kernel)) rfl rfl ?_
      refine xw_iload_n (n := 278) (show xlook 228 277 = some (277, .iload_n 3, 1, 0, 0, 0, 0) from xlk (by decide +kernel)) rfl rfl ?_
      refine xw_iconst (n := 279) (show xlook 228 278 = some (278, .iconst 1, 1, 0, 0, 0, 0) from xlk (by decide +kernel)) rfl ?_
      refine xw_iadd (n := 280) (show xlook 228 279 = some (279, .iadd, 1, 0, 0, 0, 0) from xlk (by decide +kernel)) rfl ?_
      obtain ⟨q1, t⟩ := t
      refine xw_sald (show xlook 228 280 = some (280, .iaload, 1, 0, 0, 0, 0) from xlk (by decide +kernel)) hX q1 (n := 281) rfl ?_
      obtain ⟨j6, hj6, rr6, G6, hm6, hG6, t⟩ := t
      obtain ⟨y6, rfl, t⟩ := t
      refine xw_callv (dk := j6) (o := 131) (as := [vi (xsc X ((x3) + (1)))]) (show xlook 228 281 = some (281, .invokevirtual 26, 3, 152, 2, 0, 218) from xlk (by decide +kernel)) (by decide) hj6 ⟨Nat.le_of_ble_eq_true rfl, Nat.le_of_ble_eq_true rfl, Nat.le_of_ble_eq_true rfl⟩ ⟨xob_12.1, xob_12.2, by decide⟩ rfl hm6 (n := 284) rfl ?_
      show xW X d 228 284 [.ref xSC, .ref (0), .ref (131), vi (x3)] [vi (y6), vi (y5)] G6 (xqi Q)
      obtain ⟨q0, q1, t⟩ := t
      refine xw_icmp_eq (n := 287) (m := 1180) (show xlook 228 284 = some (284, .if_icmp .eq 896, 3, 1180, 0, 0, 0) from xlk (by decide +kernel)) rfl rfl q0 q1 ⟨fun c => ?_, fun c => ?_⟩
      · replace t := t.1 c
        refine xw_iinc (n := 1183) (show xlook 228 1180 = some (1180, .iinc 3 6, 3, 0, 0, 0, 0) from xlk (by decide +kernel)) rfl (ls' := [.ref xSC, .ref (0), .ref (131), vi (x3 + 6)]) rfl rfl ?_
        refine xw_goto (m := 18) (show xlook 228 1183 = some (1183, .goto (-1165), 3, 18, 0, 0, 0) from xlk (by decide +kernel)) rfl ?_
        exact t hG6
      · replace t := t.2 c
        refine xw_iconst (n := 288) (show xlook 228 287 = some (287, .iconst 0, 1, 0, 0, 0, 0) from xlk (by decide +kernel)) rfl ?_
        exact xw_zreturn hG6 (show xlook 228 288 = some (288, .ireturn, 1, 0, 0, 0, 0) from xlk (by decide +kernel)) rfl (by decide) (t hG6)
    · replace t := u3 e
      refine xw_tabIn (off := 256) (t := 289) (show xlook 228 33 = some (33, .tableswitch 1147 0 32 #[147, 210, 233, 256, 279, 302, 345, 358, 371, 394, 407, 440, 473, 506, 539, 572, 615, 648, 691, 704, 737, 760, 783, 796, 829, 862, 905, 928, 961, 984, 1007, 1030, 1124], 147, 0, 0, 0, 0) from xlk (by decide +kernel)) q1 hq (by show (#[147, 210, 233, 256, 279, 302, 345, 358, 371, 394, 407, 440, 473, 506, 539, 572, 615, 648, 691, 704, 737, 760, 783, 796, 829, 862, 905, 928, 961, 984, 1007, 1030, 1124] : Array Int)[((xand (xsc X (x3)) (63) : Int) - (0)).toNat]? = some (256); rw [e]; rfl) rfl ?_
      refine xw_aload_n (n := 290) (show xlook 228 289 = some (289, .aload_n 1, 1, 0, 0, 0, 0) from xlk (by decide +kernel)) rfl rfl ?_
      refine xw_aload_n (n := 291) (show xlook 228 290 = some (290, .aload_n 0, 1, 0, 0, 0, 0) from xlk (by decide +kernel)) rfl rfl ?_
      refine xw_iload_n (n := 292) (show xlook 228 291 = some (291, .iload_n 3, 1, 0, 0, 0, 0) from xlk (by decide +kernel)) rfl rfl ?_
      refine xw_iconst (n := 293) (show xlook 228 292 = some (292, .iconst 1, 1, 0, 0, 0, 0) from xlk (by decide +kernel)) rfl ?_
      refine xw_iadd (n := 294) (show xlook 228 293 = some (293, .iadd, 1, 0, 0, 0, 0) from xlk (by decide +kernel)) rfl ?_
      obtain ⟨q1, t⟩ := t
      refine xw_sald (show xlook 228 294 = some (294, .iaload, 1, 0, 0, 0, 0) from xlk (by decide +kernel)) hX q1 (n := 295) rfl ?_
      obtain ⟨j7, hj7, rr7, G7, hm7, hG7, t⟩ := t
      obtain ⟨y7, rfl, t⟩ := t
      refine xw_callv (dk := j7) (o := 0) (as := [vi (xsc X ((x3) + (1)))]) (show xlook 228 295 = some (295, .invokevirtual 27, 3, 97, 2, 0, 219) from xlk (by decide +kernel)) (by decide) hj7 ⟨Nat.le_of_ble_eq_true rfl, Nat.le_of_ble_eq_true rfl, Nat.le_of_ble_eq_true rfl⟩ ⟨xob_11.1, xob_11.2, by decide⟩ rfl hm7 (n := 298) rfl ?_
      show xW X d 228 298 [.ref xSC, .ref (0), .ref (131), vi (x3)] [vi (y7)] G7 (xqi Q)
      refine xw_aload_n (n := 299) (show xlook 228 298 = some (298, .aload_n 2, 1, 0, 0, 0, 0) from xlk (by decide +kernel)) rfl rfl ?_
      refine xw_aload_n (n := 300) (show xlook 228 299 = some (299, .aload_n 0, 1, 0, 0, 0, 0) from xlk (by decide +kernel)) rfl rfl ?_
      refine xw_iload_n (n := 301) (show xlook 228 300 = some (300, .iload_n 3, 1, 0, 0, 0, 0) from xlk (by decide +kernel)) rfl rfl ?_
      refine xw_iconst (n := 302) (show xlook 228 301 = some (301, .iconst 1, 1, 0, 0, 0, 0) from xlk (by decide +kernel)) rfl ?_
      refine xw_iadd (n := 303) (show xlook 228 302 = some (302, .iadd, 1, 0, 0, 0, 0) from xlk (by decide +kernel)) rfl ?_
      obtain ⟨q1, t⟩ := t
      refine xw_sald (show xlook 228 303 = some (303, .iaload, 1, 0, 0, 0, 0) from xlk (by decide +kernel)) hX q1 (n := 304) rfl ?_
      obtain ⟨j8, hj8, rr8, G8, hm8, hG8, t⟩ := t
      obtain ⟨y8, rfl, t⟩ := t
      refine xw_callv (dk := j8) (o := 131) (as := [vi (xsc X ((x3) + (1)))]) (show xlook 228 304 = some (304, .invokevirtual 30, 3, 156, 2, 0, 220) from xlk (by decide +kernel)) (by decide) hj8 ⟨Nat.le_of_ble_eq_true rfl, Nat.le_of_ble_eq_true rfl, Nat.le_of_ble_eq_true rfl⟩ ⟨xob_12.1, xob_12.2, by decide⟩ rfl hm8 (n := 307) rfl ?_
      show xW X d 228 307 [.ref xSC, .ref (0), .ref (131), vi (x3)] [vi (y8), vi (y7)] G8 (xqi Q)
      obtain ⟨q0, q1, t⟩ := t
      refine xw_icmp_eq (n := 310) (m := 1180) (show xlook 228 307 = some (307, .if_icmp .eq 873, 3, 1180, 0, 0, 0) from xlk (by decide +kernel)) rfl rfl q0 q1 ⟨fun c => ?_, fun c => ?_⟩
      · replace t := t.1 c
        refine xw_iinc (n := 1183) (show xlook 228 1180 = some (1180, .iinc 3 6, 3, 0, 0, 0, 0) from xlk (by decide +kernel)) rfl (ls' := [.ref xSC, .ref (0), .ref (131), vi (x3 + 6)]) rfl rfl ?_
        refine xw_goto (m := 18) (show xlook 228 1183 = some (1183, .goto (-1165), 3, 18, 0, 0, 0) from xlk (by decide +kernel)) rfl ?_
        exact t hG8
      · replace t := t.2 c
        refine xw_iconst (n := 311) (show xlook 228 310 = some (310, .iconst 0, 1, 0, 0, 0, 0) from xlk (by decide +kernel)) rfl ?_
        exact xw_zreturn hG8 (show xlook 228 311 = some (311, .ireturn, 1, 0, 0, 0, 0) from xlk (by decide +kernel)) rfl (by decide) (t hG8)
    · replace t := u4 e
      refine xw_tabIn (off := 279) (t := 312) (show xlook 228 33 = some (33, .tableswitch 1147 0 32 #[147, 210, 233, 256, 279, 302, 345, 358, 371, 394, 407, 440, 473, 506, 539, 572, 615, 648, 691, 704, 737, 760, 783, 796, 829, 862, 905, 928, 961, 984, 1007, 1030, 1124], 147, 0, 0, 0, 0) from xlk (by decide +kernel)) q1 hq (by show (#[147, 210, 233, 256, 279, 302, 345, 358, 371, 394, 407, 440, 473, 506, 539, 572, 615, 648, 691, 704, 737, 760, 783, 796, 829, 862, 905, 928, 961, 984, 1007, 1030, 1124] : Array Int)[((xand (xsc X (x3)) (63) : Int) - (0)).toNat]? = some (279); rw [e]; rfl) rfl ?_
      refine xw_aload_n (n := 313) (show xlook 228 312 = some (312, .aload_n 1, 1, 0, 0, 0, 0) from xlk (by decide +kernel)) rfl rfl ?_
      refine xw_aload_n (n := 314) (show xlook 228 313 = some (313, .aload_n 0, 1, 0, 0, 0, 0) from xlk (by decide +kernel)) rfl rfl ?_
      refine xw_iload_n (n := 315) (show xlook 228 314 = some (314, .iload_n 3, 1, 0, 0, 0, 0) from xlk (by decide +kernel)) rfl rfl ?_
      refine xw_iconst (n := 316) (show xlook 228 315 = some (315, .iconst 1, 1, 0, 0, 0, 0) from xlk (by decide +kernel)) rfl ?_
      refine xw_iadd (n := 317) (show xlook 228 316 = some (316, .iadd, 1, 0, 0, 0, 0) from xlk (by decide +kernel)) rfl ?_
      obtain ⟨q1, t⟩ := t
      refine xw_sald (show xlook 228 317 = some (317, .iaload, 1, 0, 0, 0, 0) from xlk (by decide +kernel)) hX q1 (n := 318) rfl ?_
      obtain ⟨j9, hj9, rr9, G9, hm9, hG9, t⟩ := t
      obtain ⟨y9, rfl, t⟩ := t
      refine xw_callv (dk := j9) (o := 0) (as := [vi (xsc X ((x3) + (1)))]) (show xlook 228 318 = some (318, .invokevirtual 31, 3, 98, 2, 0, 221) from xlk (by decide +kernel)) (by decide) hj9 ⟨Nat.le_of_ble_eq_true rfl, Nat.le_of_ble_eq_true rfl, Nat.le_of_ble_eq_true rfl⟩ ⟨xob_11.1, xob_11.2, by decide⟩ rfl hm9 (n := 321) rfl ?_
      show xW X d 228 321 [.ref xSC, .ref (0), .ref (131), vi (x3)] [vi (y9)] G9 (xqi Q)
      refine xw_aload_n (n := 322) (show xlook 228 321 = some (321, .aload_n 2, 1, 0, 0, 0, 0) from xlk (by decide +kernel)) rfl rfl ?_
      refine xw_aload_n (n := 323) (show xlook 228 322 = some (322, .aload_n 0, 1, 0, 0, 0, 0) from xlk (by decide +kernel)) rfl rfl ?_
      refine xw_iload_n (n := 324) (show xlook 228 323 = some (323, .iload_n 3, 1, 0, 0, 0, 0) from xlk (by decide +kernel)) rfl rfl ?_
      refine xw_iconst (n := 325) (show xlook 228 324 = some (324, .iconst 1, 1, 0, 0, 0, 0) from xlk (by decide +kernel)) rfl ?_
      refine xw_iadd (n := 326) (show xlook 228 325 = some (325, .iadd, 1, 0, 0, 0, 0) from xlk (by decide +kernel)) rfl ?_
      obtain ⟨q1, t⟩ := t
      refine xw_sald (show xlook 228 326 = some (326, .iaload, 1, 0, 0, 0, 0) from xlk (by decide +kernel)) hX q1 (n := 327) rfl ?_
      obtain ⟨j10, hj10, rr10, G10, hm10, hG10, t⟩ := t
      obtain ⟨y10, rfl, t⟩ := t
      refine xw_callv (dk := j10) (o := 131) (as := [vi (xsc X ((x3) + (1)))]) (show xlook 228 327 = some (327, .invokevirtual 34, 3, 157, 2, 0, 222) from xlk (by decide +kernel)) (by decide) hj10 ⟨Nat.le_of_ble_eq_true rfl, Nat.le_of_ble_eq_true rfl, Nat.le_of_ble_eq_true rfl⟩ ⟨xob_12.1, xob_12.2, by decide⟩ rfl hm10 (n := 330) rfl ?_
      show xW X d 228 330 [.ref xSC, .ref (0), .ref (131), vi (x3)] [vi (y10), vi (y9)] G10 (xqi Q)
      obtain ⟨q0, q1, t⟩ := t
      refine xw_icmp_eq (n := 333) (m := 1180) (show xlook 228 330 = some (330, .if_icmp .eq 850, 3, 1180, 0, 0, 0) from xlk (by decide +kernel)) rfl rfl q0 q1 ⟨fun c => ?_, fun c => ?_⟩
      · replace t := t.1 c
        refine xw_iinc (n := 1183) (show xlook 228 1180 = some (1180, .iinc 3 6, 3, 0, 0, 0, 0) from xlk (by decide +kernel)) rfl (ls' := [.ref xSC, .ref (0), .ref (131), vi (x3 + 6)]) rfl rfl ?_
        refine xw_goto (m := 18) (show xlook 228 1183 = some (1183, .goto (-1165), 3, 18, 0, 0, 0) from xlk (by decide +kernel)) rfl ?_
        exact t hG10
      · replace t := t.2 c
        refine xw_iconst (n := 334) (show xlook 228 333 = some (333, .iconst 0, 1, 0, 0, 0, 0) from xlk (by decide +kernel)) rfl ?_
        exact xw_zreturn hG10 (show xlook 228 334 = some (334, .ireturn, 1, 0, 0, 0, 0) from xlk (by decide +kernel)) rfl (by decide) (t hG10)
    · replace t := u5 e
      refine xw_tabIn (off := 302) (t := 335) (show xlook 228 33 = some (33, .tableswitch 1147 0 32 #[147, 210, 233, 256, 279, 302, 345, 358, 371, 394, 407, 440, 473, 506, 539, 572, 615, 648, 691, 704, 737, 760, 783, 796, 829, 862, 905, 928, 961, 984, 1007, 1030, 1124], 147, 0, 0, 0, 0) from xlk (by decide +kernel)) q1 hq (by show (#[147, 210, 233, 256, 279, 302, 345, 358, 371, 394, 407, 440, 473, 506, 539, 572, 615, 648, 691, 704, 737, 760, 783, 796, 829, 862, 905, 928, 961, 984, 1007, 1030, 1124] : Array Int)[((xand (xsc X (x3)) (63) : Int) - (0)).toNat]? = some (302); rw [e]; rfl) rfl ?_
      refine xw_aload_n (n := 336) (show xlook 228 335 = some (335, .aload_n 1, 1, 0, 0, 0, 0) from xlk (by decide +kernel)) rfl rfl ?_
      refine xw_aload_n (n := 337) (show xlook 228 336 = some (336, .aload_n 0, 1, 0, 0, 0, 0) from xlk (by decide +kernel)) rfl rfl ?_
      refine xw_iload_n (n := 338) (show xlook 228 337 = some (337, .iload_n 3, 1, 0, 0, 0, 0) from xlk (by decide +kernel)) rfl rfl ?_
      refine xw_iconst (n := 339) (show xlook 228 338 = some (338, .iconst 1, 1, 0, 0, 0, 0) from xlk (by decide +kernel)) rfl ?_
      refine xw_iadd (n := 340) (show xlook 228 339 = some (339, .iadd, 1, 0, 0, 0, 0) from xlk (by decide +kernel)) rfl ?_
      obtain ⟨q1, t⟩ := t
      refine xw_sald (show xlook 228 340 = some (340, .iaload, 1, 0, 0, 0, 0) from xlk (by decide +kernel)) hX q1 (n := 341) rfl ?_
      refine xw_aload_n (n := 342) (show xlook 228 341 = some (341, .aload_n 0, 1, 0, 0, 0, 0) from xlk (by decide +kernel)) rfl rfl ?_
      refine xw_iload_n (n := 343) (show xlook 228 342 = some (342, .iload_n 3, 1, 0, 0, 0, 0) from xlk (by decide +kernel)) rfl rfl ?_
      refine xw_iconst (n := 344) (show xlook 228 343 = some (343, .iconst 2, 1, 0, 0, 0, 0) from xlk (by decide +kernel)) rfl ?_
      refine xw_iadd (n := 345) (show xlook 228 344 = some (344, .iadd, 1, 0, 0, 0, 0) from xlk (by decide +kernel)) rfl ?_
      obtain ⟨q1, t⟩ := t
      refine xw_sald (show xlook 228 345 = some (345, .iaload, 1, 0, 0, 0, 0) from xlk (by decide +kernel)) hX q1 (n := 346) rfl ?_
      refine xw_aload_n (n := 347) (show xlook 228 346 = some (346, .aload_n 0, 1, 0, 0, 0, 0) from xlk (by decide +kernel)) rfl rfl ?_
      refine xw_iload_n (n := 348) (show xlook 228 347 = some (347, .iload_n 3, 1, 0, 0, 0, 0) from xlk (by decide +kernel)) rfl rfl ?_
      refine xw_iconst (n := 349) (show xlook 228 348 = some (348, .iconst 3, 1, 0, 0, 0, 0) from xlk (by decide +kernel)) rfl ?_
      refine xw_iadd (n := 350) (show xlook 228 349 = some (349, .iadd, 1, 0, 0, 0, 0) from xlk (by decide +kernel)) rfl ?_
      obtain ⟨q1, t⟩ := t
      refine xw_sald (show xlook 228 350 = some (350, .iaload, 1, 0, 0, 0, 0) from xlk (by decide +kernel)) hX q1 (n := 351) rfl ?_
      obtain ⟨j11, hj11, rr11, G11, hm11, hG11, t⟩ := t
      obtain ⟨y11, rfl, t⟩ := t
      refine xw_callv (dk := j11) (o := 0) (as := [vi (xsc X ((x3) + (1))), vi (xsc X ((x3) + (2))), vi (xsc X ((x3) + (3)))]) (show xlook 228 351 = some (351, .invokevirtual 35, 3, 99, 4, 0, 223) from xlk (by decide +kernel)) (by decide) hj11 ⟨Nat.le_of_ble_eq_true rfl, Nat.le_of_ble_eq_true rfl, Nat.le_of_ble_eq_true rfl⟩ ⟨xob_11.1, xob_11.2, by decide⟩ rfl hm11 (n := 354) rfl ?_
      show xW X d 228 354 [.ref xSC, .ref (0), .ref (131), vi (x3)] [vi (y11)] G11 (xqi Q)
      refine xw_aload_n (n := 355) (show xlook 228 354 = some (354, .aload_n 2, 1, 0, 0, 0, 0) from xlk (by decide +kernel)) rfl rfl ?_
      refine xw_aload_n (n := 356) (show xlook 228 355 = some (355, .aload_n 0, 1, 0, 0, 0, 0) from xlk (by decide +kernel)) rfl rfl ?_
      refine xw_iload_n (n := 357) (show xlook 228 356 = some (356, .iload_n 3, 1, 0, 0, 0, 0) from xlk (by decide +kernel)) rfl rfl ?_
      refine xw_iconst (n := 358) (show xlook 228 357 = some (357, .iconst 1, 1, 0, 0, 0, 0) from xlk (by decide +kernel)) rfl ?_
      refine xw_iadd (n := 359) (show xlook 228 358 = some (358, .iadd, 1, 0, 0, 0, 0) from xlk (by decide +kernel)) rfl ?_
      obtain ⟨q1, t⟩ := t
      refine xw_sald (show xlook 228 359 = some (359, .iaload, 1, 0, 0, 0, 0) from xlk (by decide +kernel)) hX q1 (n := 360) rfl ?_
      refine xw_aload_n (n := 361) (show xlook 228 360 = some (360, .aload_n 0, 1, 0, 0, 0, 0) from xlk (by decide +kernel)) rfl rfl ?_
      refine xw_iload_n (n := 362) (show xlook 228 361 = some (361, .iload_n 3, 1, 0, 0, 0, 0) from xlk (by decide +kernel)) rfl rfl ?_
      refine xw_iconst (n := 363) (show xlook 228 362 = some (362, .iconst 2, 1, 0, 0, 0, 0) from xlk (by decide +kernel)) rfl ?_
      refine xw_iadd (n := 364) (show xlook 228 363 = some (363, .iadd, 1, 0, 0, 0, 0) from xlk (by decide +kernel)) rfl ?_
      obtain ⟨q1, t⟩ := t
      refine xw_sald (show xlook 228 364 = some (364, .iaload, 1, 0, 0, 0, 0) from xlk (by decide +kernel)) hX q1 (n := 365) rfl ?_
      refine xw_aload_n (n := 366) (show xlook 228 365 = some (365, .aload_n 0, 1, 0, 0, 0, 0) from xlk (by decide +kernel)) rfl rfl ?_
      refine xw_iload_n (n := 367) (show xlook 228 366 = some (366, .iload_n 3, 1, 0, 0, 0, 0) from xlk (by decide +kernel)) rfl rfl ?_
      refine xw_iconst (n := 368) (show xlook 228 367 = some (367, .iconst 3, 1, 0, 0, 0, 0) from xlk (by decide +kernel)) rfl ?_
      refine xw_iadd (n := 369) (show xlook 228 368 = some (368, .iadd, 1, 0, 0, 0, 0) from xlk (by decide +kernel)) rfl ?_
      obtain ⟨q1, t⟩ := t
      refine xw_sald (show xlook 228 369 = some (369, .iaload, 1, 0, 0, 0, 0) from xlk (by decide +kernel)) hX q1 (n := 370) rfl ?_
      obtain ⟨j12, hj12, rr12, G12, hm12, hG12, t⟩ := t
      obtain ⟨y12, rfl, t⟩ := t
      refine xw_callv (dk := j12) (o := 131) (as := [vi (xsc X ((x3) + (1))), vi (xsc X ((x3) + (2))), vi (xsc X ((x3) + (3)))]) (show xlook 228 370 = some (370, .invokevirtual 39, 3, 160, 4, 0, 224) from xlk (by decide +kernel)) (by decide) hj12 ⟨Nat.le_of_ble_eq_true rfl, Nat.le_of_ble_eq_true rfl, Nat.le_of_ble_eq_true rfl⟩ ⟨xob_12.1, xob_12.2, by decide⟩ rfl hm12 (n := 373) rfl ?_
      show xW X d 228 373 [.ref xSC, .ref (0), .ref (131), vi (x3)] [vi (y12), vi (y11)] G12 (xqi Q)
      obtain ⟨q0, q1, t⟩ := t
      refine xw_icmp_eq (n := 376) (m := 1180) (show xlook 228 373 = some (373, .if_icmp .eq 807, 3, 1180, 0, 0, 0) from xlk (by decide +kernel)) rfl rfl q0 q1 ⟨fun c => ?_, fun c => ?_⟩
      · replace t := t.1 c
        refine xw_iinc (n := 1183) (show xlook 228 1180 = some (1180, .iinc 3 6, 3, 0, 0, 0, 0) from xlk (by decide +kernel)) rfl (ls' := [.ref xSC, .ref (0), .ref (131), vi (x3 + 6)]) rfl rfl ?_
        refine xw_goto (m := 18) (show xlook 228 1183 = some (1183, .goto (-1165), 3, 18, 0, 0, 0) from xlk (by decide +kernel)) rfl ?_
        exact t hG12
      · replace t := t.2 c
        refine xw_iconst (n := 377) (show xlook 228 376 = some (376, .iconst 0, 1, 0, 0, 0, 0) from xlk (by decide +kernel)) rfl ?_
        exact xw_zreturn hG12 (show xlook 228 377 = some (377, .ireturn, 1, 0, 0, 0, 0) from xlk (by decide +kernel)) rfl (by decide) (t hG12)
    · replace t := u6 e
      refine xw_tabIn (off := 345) (t := 378) (show xlook 228 33 = some (33, .tableswitch 1147 0 32 #[147, 210, 233, 256, 279, 302, 345, 358, 371, 394, 407, 440, 473, 506, 539, 572, 615, 648, 691, 704, 737, 760, 783, 796, 829, 862, 905, 928, 961, 984, 1007, 1030, 1124], 147, 0, 0, 0, 0) from xlk (by decide +kernel)) q1 hq (by show (#[147, 210, 233, 256, 279, 302, 345, 358, 371, 394, 407, 440, 473, 506, 539, 572, 615, 648, 691, 704, 737, 760, 783, 796, 829, 862, 905, 928, 961, 984, 1007, 1030, 1124] : Array Int)[((xand (xsc X (x3)) (63) : Int) - (0)).toNat]? = some (345); rw [e]; rfl) rfl ?_
      refine xw_aload_n (n := 379) (show xlook 228 378 = some (378, .aload_n 1, 1, 0, 0, 0, 0) from xlk (by decide +kernel)) rfl rfl ?_
      obtain ⟨j13, hj13, rr13, G13, hm13, hG13, t⟩ := t
      obtain ⟨y13, rfl, t⟩ := t
      refine xw_callv (dk := j13) (o := 0) (as := []) (show xlook 228 379 = some (379, .invokevirtual 40, 3, 100, 1, 0, 225) from xlk (by decide +kernel)) (by decide) hj13 ⟨Nat.le_of_ble_eq_true rfl, Nat.le_of_ble_eq_true rfl, Nat.le_of_ble_eq_true rfl⟩ ⟨xob_11.1, xob_11.2, by decide⟩ rfl hm13 (n := 382) rfl ?_
      show xW X d 228 382 [.ref xSC, .ref (0), .ref (131), vi (x3)] [vi (y13)] G13 (xqi Q)
      refine xw_aload_n (n := 383) (show xlook 228 382 = some (382, .aload_n 2, 1, 0, 0, 0, 0) from xlk (by decide +kernel)) rfl rfl ?_
      obtain ⟨j14, hj14, rr14, G14, hm14, hG14, t⟩ := t
      obtain ⟨y14, rfl, t⟩ := t
      refine xw_callv (dk := j14) (o := 131) (as := []) (show xlook 228 383 = some (383, .invokevirtual 44, 3, 161, 1, 0, 226) from xlk (by decide +kernel)) (by decide) hj14 ⟨Nat.le_of_ble_eq_true rfl, Nat.le_of_ble_eq_true rfl, Nat.le_of_ble_eq_true rfl⟩ ⟨xob_12.1, xob_12.2, by decide⟩ rfl hm14 (n := 386) rfl ?_
      show xW X d 228 386 [.ref xSC, .ref (0), .ref (131), vi (x3)] [vi (y14), vi (y13)] G14 (xqi Q)
      obtain ⟨q0, q1, t⟩ := t
      refine xw_icmp_eq (n := 389) (m := 1180) (show xlook 228 386 = some (386, .if_icmp .eq 794, 3, 1180, 0, 0, 0) from xlk (by decide +kernel)) rfl rfl q0 q1 ⟨fun c => ?_, fun c => ?_⟩
      · replace t := t.1 c
        refine xw_iinc (n := 1183) (show xlook 228 1180 = some (1180, .iinc 3 6, 3, 0, 0, 0, 0) from xlk (by decide +kernel)) rfl (ls' := [.ref xSC, .ref (0), .ref (131), vi (x3 + 6)]) rfl rfl ?_
        refine xw_goto (m := 18) (show xlook 228 1183 = some (1183, .goto (-1165), 3, 18, 0, 0, 0) from xlk (by decide +kernel)) rfl ?_
        exact t hG14
      · replace t := t.2 c
        refine xw_iconst (n := 390) (show xlook 228 389 = some (389, .iconst 0, 1, 0, 0, 0, 0) from xlk (by decide +kernel)) rfl ?_
        exact xw_zreturn hG14 (show xlook 228 390 = some (390, .ireturn, 1, 0, 0, 0, 0) from xlk (by decide +kernel)) rfl (by decide) (t hG14)
    · replace t := u7 e
      refine xw_tabIn (off := 358) (t := 391) (show xlook 228 33 = some (33, .tableswitch 1147 0 32 #[147, 210, 233, 256, 279, 302, 345, 358, 371, 394, 407, 440, 473, 506, 539, 572, 615, 648, 691, 704, 737, 760, 783, 796, 829, 862, 905, 928, 961, 984, 1007, 1030, 1124], 147, 0, 0, 0, 0) from xlk (by decide +kernel)) q1 hq (by show (#[147, 210, 233, 256, 279, 302, 345, 358, 371, 394, 407, 440, 473, 506, 539, 572, 615, 648, 691, 704, 737, 760, 783, 796, 829, 862, 905, 928, 961, 984, 1007, 1030, 1124] : Array Int)[((xand (xsc X (x3)) (63) : Int) - (0)).toNat]? = some (358); rw [e]; rfl) rfl ?_
      refine xw_aload_n (n := 392) (show xlook 228 391 = some (391, .aload_n 1, 1, 0, 0, 0, 0) from xlk (by decide +kernel)) rfl rfl ?_
      obtain ⟨j15, hj15, rr15, G15, hm15, hG15, t⟩ := t
      obtain ⟨y15, rfl, t⟩ := t
      refine xw_callv (dk := j15) (o := 0) (as := []) (show xlook 228 392 = some (392, .invokevirtual 45, 3, 101, 1, 0, 227) from xlk (by decide +kernel)) (by decide) hj15 ⟨Nat.le_of_ble_eq_true rfl, Nat.le_of_ble_eq_true rfl, Nat.le_of_ble_eq_true rfl⟩ ⟨xob_11.1, xob_11.2, by decide⟩ rfl hm15 (n := 395) rfl ?_
      show xW X d 228 395 [.ref xSC, .ref (0), .ref (131), vi (x3)] [vi (y15)] G15 (xqi Q)
      refine xw_aload_n (n := 396) (show xlook 228 395 = some (395, .aload_n 2, 1, 0, 0, 0, 0) from xlk (by decide +kernel)) rfl rfl ?_
      obtain ⟨j16, hj16, rr16, G16, hm16, hG16, t⟩ := t
      obtain ⟨y16, rfl, t⟩ := t
      refine xw_callv (dk := j16) (o := 131) (as := []) (show xlook 228 396 = some (396, .invokevirtual 48, 3, 162, 1, 0, 228) from xlk (by decide +kernel)) (by decide) hj16 ⟨Nat.le_of_ble_eq_true rfl, Nat.le_of_ble_eq_true rfl, Nat.le_of_ble_eq_true rfl⟩ ⟨xob_12.1, xob_12.2, by decide⟩ rfl hm16 (n := 399) rfl ?_
      show xW X d 228 399 [.ref xSC, .ref (0), .ref (131), vi (x3)] [vi (y16), vi (y15)] G16 (xqi Q)
      obtain ⟨q0, q1, t⟩ := t
      refine xw_icmp_eq (n := 402) (m := 1180) (show xlook 228 399 = some (399, .if_icmp .eq 781, 3, 1180, 0, 0, 0) from xlk (by decide +kernel)) rfl rfl q0 q1 ⟨fun c => ?_, fun c => ?_⟩
      · replace t := t.1 c
        refine xw_iinc (n := 1183) (show xlook 228 1180 = some (1180, .iinc 3 6, 3, 0, 0, 0, 0) from xlk (by decide +kernel)) rfl (ls' := [.ref xSC, .ref (0), .ref (131), vi (x3 + 6)]) rfl rfl ?_
        refine xw_goto (m := 18) (show xlook 228 1183 = some (1183, .goto (-1165), 3, 18, 0, 0, 0) from xlk (by decide +kernel)) rfl ?_
        exact t hG16
      · replace t := t.2 c
        refine xw_iconst (n := 403) (show xlook 228 402 = some (402, .iconst 0, 1, 0, 0, 0, 0) from xlk (by decide +kernel)) rfl ?_
        exact xw_zreturn hG16 (show xlook 228 403 = some (403, .ireturn, 1, 0, 0, 0, 0) from xlk (by decide +kernel)) rfl (by decide) (t hG16)
    · replace t := u8 e
      refine xw_tabIn (off := 371) (t := 404) (show xlook 228 33 = some (33, .tableswitch 1147 0 32 #[147, 210, 233, 256, 279, 302, 345, 358, 371, 394, 407, 440, 473, 506, 539, 572, 615, 648, 691, 704, 737, 760, 783, 796, 829, 862, 905, 928, 961, 984, 1007, 1030, 1124], 147, 0, 0, 0, 0) from xlk (by decide +kernel)) q1 hq (by show (#[147, 210, 233, 256, 279, 302, 345, 358, 371, 394, 407, 440, 473, 506, 539, 572, 615, 648, 691, 704, 737, 760, 783, 796, 829, 862, 905, 928, 961, 984, 1007, 1030, 1124] : Array Int)[((xand (xsc X (x3)) (63) : Int) - (0)).toNat]? = some (371); rw [e]; rfl) rfl ?_
      refine xw_aload_n (n := 405) (show xlook 228 404 = some (404, .aload_n 1, 1, 0, 0, 0, 0) from xlk (by decide +kernel)) rfl rfl ?_
      refine xw_aload_n (n := 406) (show xlook 228 405 = some (405, .aload_n 0, 1, 0, 0, 0, 0) from xlk (by decide +kernel)) rfl rfl ?_
      refine xw_iload_n (n := 407) (show xlook 228 406 = some (406, .iload_n 3, 1, 0, 0, 0, 0) from xlk (by decide +kernel)) rfl rfl ?_
      refine xw_iconst (n := 408) (show xlook 228 407 = some (407, .iconst 1, 1, 0, 0, 0, 0) from xlk (by decide +kernel)) rfl ?_
      refine xw_iadd (n := 409) (show xlook 228 408 = some (408, .iadd, 1, 0, 0, 0, 0) from xlk (by decide +kernel)) rfl ?_
      obtain ⟨q1, t⟩ := t
      refine xw_sald (show xlook 228 409 = some (409, .iaload, 1, 0, 0, 0, 0) from xlk (by decide +kernel)) hX q1 (n := 410) rfl ?_
      obtain ⟨j17, hj17, rr17, G17, hm17, hG17, t⟩ := t
      obtain ⟨y17, rfl, t⟩ := t
      refine xw_callv (dk := j17) (o := 0) (as := [vi (xsc X ((x3) + (1)))]) (show xlook 228 410 = some (410, .invokevirtual 49, 3, 102, 2, 0, 229) from xlk (by decide +kernel)) (by decide) hj17 ⟨Nat.le_of_ble_eq_true rfl, Nat.le_of_ble_eq_true rfl, Nat.le_of_ble_eq_true rfl⟩ ⟨xob_11.1, xob_11.2, by decide⟩ rfl hm17 (n := 413) rfl ?_
      show xW X d 228 413 [.ref xSC, .ref (0), .ref (131), vi (x3)] [vi (y17)] G17 (xqi Q)
      refine xw_aload_n (n := 414) (show xlook 228 413 = some (413, .aload_n 2, 1, 0, 0, 0, 0) from xlk (by decide +kernel)) rfl rfl ?_
      refine xw_aload_n (n := 415) (show xlook 228 414 = some (414, .aload_n 0, 1, 0, 0, 0, 0) from xlk (by decide +kernel)) rfl rfl ?_
      refine xw_iload_n (n := 416) (show xlook 228 415 = some (415, .iload_n 3, 1, 0, 0, 0, 0) from xlk (by decide +kernel)) rfl rfl ?_
      refine xw_iconst (n := 417) (show xlook 228 416 = some (416, .iconst 1, 1, 0, 0, 0, 0) from xlk (by decide +kernel)) rfl ?_
      refine xw_iadd (n := 418) (show xlook 228 417 = some (417, .iadd, 1, 0, 0, 0, 0) from xlk (by decide +kernel)) rfl ?_
      obtain ⟨q1, t⟩ := t
      refine xw_sald (show xlook 228 418 = some (418, .iaload, 1, 0, 0, 0, 0) from xlk (by decide +kernel)) hX q1 (n := 419) rfl ?_
      obtain ⟨j18, hj18, rr18, G18, hm18, hG18, t⟩ := t
      obtain ⟨y18, rfl, t⟩ := t
      refine xw_callv (dk := j18) (o := 131) (as := [vi (xsc X ((x3) + (1)))]) (show xlook 228 419 = some (419, .invokevirtual 52, 3, 182, 2, 0, 230) from xlk (by decide +kernel)) (by decide) hj18 ⟨Nat.le_of_ble_eq_true rfl, Nat.le_of_ble_eq_true rfl, Nat.le_of_ble_eq_true rfl⟩ ⟨xob_12.1, xob_12.2, by decide⟩ rfl hm18 (n := 422) rfl ?_
      show xW X d 228 422 [.ref xSC, .ref (0), .ref (131), vi (x3)] [vi (y18), vi (y17)] G18 (xqi Q)
      obtain ⟨q0, q1, t⟩ := t
      refine xw_icmp_eq (n := 425) (m := 1180) (show xlook 228 422 = some (422, .if_icmp .eq 758, 3, 1180, 0, 0, 0) from xlk (by decide +kernel)) rfl rfl q0 q1 ⟨fun c => ?_, fun c => ?_⟩
      · replace t := t.1 c
        refine xw_iinc (n := 1183) (show xlook 228 1180 = some (1180, .iinc 3 6, 3, 0, 0, 0, 0) from xlk (by decide +kernel)) rfl (ls' := [.ref xSC, .ref (0), .ref (131), vi (x3 + 6)]) rfl rfl ?_
        refine xw_goto (m := 18) (show xlook 228 1183 = some (1183, .goto (-1165), 3, 18, 0, 0, 0) from xlk (by decide +kernel)) rfl ?_
        exact t hG18
      · replace t := t.2 c
        refine xw_iconst (n := 426) (show xlook 228 425 = some (425, .iconst 0, 1, 0, 0, 0, 0) from xlk (by decide +kernel)) rfl ?_
        exact xw_zreturn hG18 (show xlook 228 426 = some (426, .ireturn, 1, 0, 0, 0, 0) from xlk (by decide +kernel)) rfl (by decide) (t hG18)
    · replace t := u9 e
      refine xw_tabIn (off := 394) (t := 427) (show xlook 228 33 = some (33, .tableswitch 1147 0 32 #[147, 210, 233, 256, 279, 302, 345, 358, 371, 394, 407, 440, 473, 506, 539, 572, 615, 648, 691, 704, 737, 760, 783, 796, 829, 862, 905, 928, 961, 984, 1007, 1030, 1124], 147, 0, 0, 0, 0) from xlk (by decide +kernel)) q1 hq (by show (#[147, 210, 233, 256, 279, 302, 345, 358, 371, 394, 407, 440, 473, 506, 539, 572, 615, 648, 691, 704, 737, 760, 783, 796, 829, 862, 905, 928, 961, 984, 1007, 1030, 1124] : Array Int)[((xand (xsc X (x3)) (63) : Int) - (0)).toNat]? = some (394); rw [e]; rfl) rfl ?_
      refine xw_aload_n (n := 428) (show xlook 228 427 = some (427, .aload_n 1, 1, 0, 0, 0, 0) from xlk (by decide +kernel)) rfl rfl ?_
      obtain ⟨j19, hj19, rr19, G19, hm19, hG19, t⟩ := t
      obtain ⟨y19, rfl, t⟩ := t
      refine xw_callv (dk := j19) (o := 0) (as := []) (show xlook 228 428 = some (428, .invokevirtual 53, 3, 103, 1, 0, 231) from xlk (by decide +kernel)) (by decide) hj19 ⟨Nat.le_of_ble_eq_true rfl, Nat.le_of_ble_eq_true rfl, Nat.le_of_ble_eq_true rfl⟩ ⟨xob_11.1, xob_11.2, by decide⟩ rfl hm19 (n := 431) rfl ?_
      show xW X d 228 431 [.ref xSC, .ref (0), .ref (131), vi (x3)] [vi (y19)] G19 (xqi Q)
      refine xw_aload_n (n := 432) (show xlook 228 431 = some (431, .aload_n 2, 1, 0, 0, 0, 0) from xlk (by decide +kernel)) rfl rfl ?_
      obtain ⟨j20, hj20, rr20, G20, hm20, hG20, t⟩ := t
      obtain ⟨y20, rfl, t⟩ := t
      refine xw_callv (dk := j20) (o := 131) (as := []) (show xlook 228 432 = some (432, .invokevirtual 56, 3, 183, 1, 0, 232) from xlk (by decide +kernel)) (by decide) hj20 ⟨Nat.le_of_ble_eq_true rfl, Nat.le_of_ble_eq_true rfl, Nat.le_of_ble_eq_true rfl⟩ ⟨xob_12.1, xob_12.2, by decide⟩ rfl hm20 (n := 435) rfl ?_
      show xW X d 228 435 [.ref xSC, .ref (0), .ref (131), vi (x3)] [vi (y20), vi (y19)] G20 (xqi Q)
      obtain ⟨q0, q1, t⟩ := t
      refine xw_icmp_eq (n := 438) (m := 1180) (show xlook 228 435 = some (435, .if_icmp .eq 745, 3, 1180, 0, 0, 0) from xlk (by decide +kernel)) rfl rfl q0 q1 ⟨fun c => ?_, fun c => ?_⟩
      · replace t := t.1 c
        refine xw_iinc (n := 1183) (show xlook 228 1180 = some (1180, .iinc 3 6, 3, 0, 0, 0, 0) from xlk (by decide +kernel)) rfl (ls' := [.ref xSC, .ref (0), .ref (131), vi (x3 + 6)]) rfl rfl ?_
        refine xw_goto (m := 18) (show xlook 228 1183 = some (1183, .goto (-1165), 3, 18, 0, 0, 0) from xlk (by decide +kernel)) rfl ?_
        exact t hG20
      · replace t := t.2 c
        refine xw_iconst (n := 439) (show xlook 228 438 = some (438, .iconst 0, 1, 0, 0, 0, 0) from xlk (by decide +kernel)) rfl ?_
        exact xw_zreturn hG20 (show xlook 228 439 = some (439, .ireturn, 1, 0, 0, 0, 0) from xlk (by decide +kernel)) rfl (by decide) (t hG20)
    · replace t := u10 e
      refine xw_tabIn (off := 407) (t := 440) (show xlook 228 33 = some (33, .tableswitch 1147 0 32 #[147, 210, 233, 256, 279, 302, 345, 358, 371, 394, 407, 440, 473, 506, 539, 572, 615, 648, 691, 704, 737, 760, 783, 796, 829, 862, 905, 928, 961, 984, 1007, 1030, 1124], 147, 0, 0, 0, 0) from xlk (by decide +kernel)) q1 hq (by show (#[147, 210, 233, 256, 279, 302, 345, 358, 371, 394, 407, 440, 473, 506, 539, 572, 615, 648, 691, 704, 737, 760, 783, 796, 829, 862, 905, 928, 961, 984, 1007, 1030, 1124] : Array Int)[((xand (xsc X (x3)) (63) : Int) - (0)).toNat]? = some (407); rw [e]; rfl) rfl ?_
      refine xw_aload_n (n := 441) (show xlook 228 440 = some (440, .aload_n 1, 1, 0, 0, 0, 0) from xlk (by decide +kernel)) rfl rfl ?_
      refine xw_aload_n (n := 442) (show xlook 228 441 = some (441, .aload_n 0, 1, 0, 0, 0, 0) from xlk (by decide +kernel)) rfl rfl ?_
      refine xw_iload_n (n := 443) (show xlook 228 442 = some (442, .iload_n 3, 1, 0, 0, 0, 0) from xlk (by decide +kernel)) rfl rfl ?_
      refine xw_iconst (n := 444) (show xlook 228 443 = some (443, .iconst 1, 1, 0, 0, 0, 0) from xlk (by decide +kernel)) rfl ?_
      refine xw_iadd (n := 445) (show xlook 228 444 = some (444, .iadd, 1, 0, 0, 0, 0) from xlk (by decide +kernel)) rfl ?_
      obtain ⟨q1, t⟩ := t
      refine xw_sald (show xlook 228 445 = some (445, .iaload, 1, 0, 0, 0, 0) from xlk (by decide +kernel)) hX q1 (n := 446) rfl ?_
      refine xw_aload_n (n := 447) (show xlook 228 446 = some (446, .aload_n 0, 1, 0, 0, 0, 0) from xlk (by decide +kernel)) rfl rfl ?_
      refine xw_iload_n (n := 448) (show xlook 228 447 = some (447, .iload_n 3, 1, 0, 0, 0, 0) from xlk (by decide +kernel)) rfl rfl ?_
      refine xw_iconst (n := 449) (show xlook 228 448 = some (448, .iconst 2, 1, 0, 0, 0, 0) from xlk (by decide +kernel)) rfl ?_
      refine xw_iadd (n := 450) (show xlook 228 449 = some (449, .iadd, 1, 0, 0, 0, 0) from xlk (by decide +kernel)) rfl ?_
      obtain ⟨q1, t⟩ := t
      refine xw_sald (show xlook 228 450 = some (450, .iaload, 1, 0, 0, 0, 0) from xlk (by decide +kernel)) hX q1 (n := 451) rfl ?_
      obtain ⟨j21, hj21, rr21, G21, hm21, hG21, t⟩ := t
      obtain ⟨y21, rfl, t⟩ := t
      refine xw_callv (dk := j21) (o := 0) (as := [vi (xsc X ((x3) + (1))), vi (xsc X ((x3) + (2)))]) (show xlook 228 451 = some (451, .invokevirtual 57, 3, 104, 3, 0, 233) from xlk (by decide +kernel)) (by decide) hj21 ⟨Nat.le_of_ble_eq_true rfl, Nat.le_of_ble_eq_true rfl, Nat.le_of_ble_eq_true rfl⟩ ⟨xob_11.1, xob_11.2, by decide⟩ rfl hm21 (n := 454) rfl ?_
      show xW X d 228 454 [.ref xSC, .ref (0), .ref (131), vi (x3)] [vi (y21)] G21 (xqi Q)
      refine xw_aload_n (n := 455) (show xlook 228 454 = some (454, .aload_n 2, 1, 0, 0, 0, 0) from xlk (by decide +kernel)) rfl rfl ?_
      refine xw_aload_n (n := 456) (show xlook 228 455 = some (455, .aload_n 0, 1, 0, 0, 0, 0) from xlk (by decide +kernel)) rfl rfl ?_
      refine xw_iload_n (n := 457) (show xlook 228 456 = some (456, .iload_n 3, 1, 0, 0, 0, 0) from xlk (by decide +kernel)) rfl rfl ?_
      refine xw_iconst (n := 458) (show xlook 228 457 = some (457, .iconst 1, 1, 0, 0, 0, 0) from xlk (by decide +kernel)) rfl ?_
      refine xw_iadd (n := 459) (show xlook 228 458 = some (458, .iadd, 1, 0, 0, 0, 0) from xlk (by decide +kernel)) rfl ?_
      obtain ⟨q1, t⟩ := t
      refine xw_sald (show xlook 228 459 = some (459, .iaload, 1, 0, 0, 0, 0) from xlk (by decide +kernel)) hX q1 (n := 460) rfl ?_
      refine xw_aload_n (n := 461) (show xlook 228 460 = some (460, .aload_n 0, 1, 0, 0, 0, 0) from xlk (by decide +kernel)) rfl rfl ?_
      refine xw_iload_n (n := 462) (show xlook 228 461 = some (461, .iload_n 3, 1, 0, 0, 0, 0) from xlk (by decide +kernel)) rfl rfl ?_
      refine xw_iconst (n := 463) (show xlook 228 462 = some (462, .iconst 2, 1, 0, 0, 0, 0) from xlk (by decide +kernel)) rfl ?_
      refine xw_iadd (n := 464) (show xlook 228 463 = some (463, .iadd, 1, 0, 0, 0, 0) from xlk (by decide +kernel)) rfl ?_
      obtain ⟨q1, t⟩ := t
      refine xw_sald (show xlook 228 464 = some (464, .iaload, 1, 0, 0, 0, 0) from xlk (by decide +kernel)) hX q1 (n := 465) rfl ?_
      obtain ⟨j22, hj22, rr22, G22, hm22, hG22, t⟩ := t
      obtain ⟨y22, rfl, t⟩ := t
      refine xw_callv (dk := j22) (o := 131) (as := [vi (xsc X ((x3) + (1))), vi (xsc X ((x3) + (2)))]) (show xlook 228 465 = some (465, .invokevirtual 61, 3, 184, 3, 0, 234) from xlk (by decide +kernel)) (by decide) hj22 ⟨Nat.le_of_ble_eq_true rfl, Nat.le_of_ble_eq_true rfl, Nat.le_of_ble_eq_true rfl⟩ ⟨xob_12.1, xob_12.2, by decide⟩ rfl hm22 (n := 468) rfl ?_
      show xW X d 228 468 [.ref xSC, .ref (0), .ref (131), vi (x3)] [vi (y22), vi (y21)] G22 (xqi Q)
      obtain ⟨q0, q1, t⟩ := t
      refine xw_icmp_eq (n := 471) (m := 1180) (show xlook 228 468 = some (468, .if_icmp .eq 712, 3, 1180, 0, 0, 0) from xlk (by decide +kernel)) rfl rfl q0 q1 ⟨fun c => ?_, fun c => ?_⟩
      · replace t := t.1 c
        refine xw_iinc (n := 1183) (show xlook 228 1180 = some (1180, .iinc 3 6, 3, 0, 0, 0, 0) from xlk (by decide +kernel)) rfl (ls' := [.ref xSC, .ref (0), .ref (131), vi (x3 + 6)]) rfl rfl ?_
        refine xw_goto (m := 18) (show xlook 228 1183 = some (1183, .goto (-1165), 3, 18, 0, 0, 0) from xlk (by decide +kernel)) rfl ?_
        exact t hG22
      · replace t := t.2 c
        refine xw_iconst (n := 472) (show xlook 228 471 = some (471, .iconst 0, 1, 0, 0, 0, 0) from xlk (by decide +kernel)) rfl ?_
        exact xw_zreturn hG22 (show xlook 228 472 = some (472, .ireturn, 1, 0, 0, 0, 0) from xlk (by decide +kernel)) rfl (by decide) (t hG22)
    · replace t := u11 e
      refine xw_tabIn (off := 440) (t := 473) (show xlook 228 33 = some (33, .tableswitch 1147 0 32 #[147, 210, 233, 256, 279, 302, 345, 358, 371, 394, 407, 440, 473, 506, 539, 572, 615, 648, 691, 704, 737, 760, 783, 796, 829, 862, 905, 928, 961, 984, 1007, 1030, 1124], 147, 0, 0, 0, 0) from xlk (by decide +kernel)) q1 hq (by show (#[147, 210, 233, 256, 279, 302, 345, 358, 371, 394, 407, 440, 473, 506, 539, 572, 615, 648, 691, 704, 737, 760, 783, 796, 829, 862, 905, 928, 961, 984, 1007, 1030, 1124] : Array Int)[((xand (xsc X (x3)) (63) : Int) - (0)).toNat]? = some (440); rw [e]; rfl) rfl ?_
      refine xw_aload_n (n := 474) (show xlook 228 473 = some (473, .aload_n 1, 1, 0, 0, 0, 0) from xlk (by decide +kernel)) rfl rfl ?_
      refine xw_aload_n (n := 475) (show xlook 228 474 = some (474, .aload_n 0, 1, 0, 0, 0, 0) from xlk (by decide +kernel)) rfl rfl ?_
      refine xw_iload_n (n := 476) (show xlook 228 475 = some (475, .iload_n 3, 1, 0, 0, 0, 0) from xlk (by decide +kernel)) rfl rfl ?_
      refine xw_iconst (n := 477) (show xlook 228 476 = some (476, .iconst 1, 1, 0, 0, 0, 0) from xlk (by decide +kernel)) rfl ?_
      refine xw_iadd (n := 478) (show xlook 228 477 = some (477, .iadd, 1, 0, 0, 0, 0) from xlk (by decide +kernel)) rfl ?_
      obtain ⟨q1, t⟩ := t
      refine xw_sald (show xlook 228 478 = some (478, .iaload, 1, 0, 0, 0, 0) from xlk (by decide +kernel)) hX q1 (n := 479) rfl ?_
      refine xw_aload_n (n := 480) (show xlook 228 479 = some (479, .aload_n 0, 1, 0, 0, 0, 0) from xlk (by decide +kernel)) rfl rfl ?_
      refine xw_iload_n (n := 481) (show xlook 228 480 = some (480, .iload_n 3, 1, 0, 0, 0, 0) from xlk (by decide +kernel)) rfl rfl ?_
      refine xw_iconst (n := 482) (show xlook 228 481 = some (481, .iconst 2, 1, 0, 0, 0, 0) from xlk (by decide +kernel)) rfl ?_
      refine xw_iadd (n := 483) (show xlook 228 482 = some (482, .iadd, 1, 0, 0, 0, 0) from xlk (by decide +kernel)) rfl ?_
      obtain ⟨q1, t⟩ := t
      refine xw_sald (show xlook 228 483 = some (483, .iaload, 1, 0, 0, 0, 0) from xlk (by decide +kernel)) hX q1 (n := 484) rfl ?_
      obtain ⟨j23, hj23, rr23, G23, hm23, hG23, t⟩ := t
      obtain ⟨y23, rfl, t⟩ := t
      refine xw_callv (dk := j23) (o := 0) (as := [vi (xsc X ((x3) + (1))), vi (xsc X ((x3) + (2)))]) (show xlook 228 484 = some (484, .invokevirtual 62, 3, 105, 3, 0, 235) from xlk (by decide +kernel)) (by decide) hj23 ⟨Nat.le_of_ble_eq_true rfl, Nat.le_of_ble_eq_true rfl, Nat.le_of_ble_eq_true rfl⟩ ⟨xob_11.1, xob_11.2, by decide⟩ rfl hm23 (n := 487) rfl ?_
      show xW X d 228 487 [.ref xSC, .ref (0), .ref (131), vi (x3)] [vi (y23)] G23 (xqi Q)
      refine xw_aload_n (n := 488) (show xlook 228 487 = some (487, .aload_n 2, 1, 0, 0, 0, 0) from xlk (by decide +kernel)) rfl rfl ?_
      refine xw_aload_n (n := 489) (show xlook 228 488 = some (488, .aload_n 0, 1, 0, 0, 0, 0) from xlk (by decide +kernel)) rfl rfl ?_
      refine xw_iload_n (n := 490) (show xlook 228 489 = some (489, .iload_n 3, 1, 0, 0, 0, 0) from xlk (by decide +kernel)) rfl rfl ?_
      refine xw_iconst (n := 491) (show xlook 228 490 = some (490, .iconst 1, 1, 0, 0, 0, 0) from xlk (by decide +kernel)) rfl ?_
      refine xw_iadd (n := 492) (show xlook 228 491 = some (491, .iadd, 1, 0, 0, 0, 0) from xlk (by decide +kernel)) rfl ?_
      obtain ⟨q1, t⟩ := t
      refine xw_sald (show xlook 228 492 = some (492, .iaload, 1, 0, 0, 0, 0) from xlk (by decide +kernel)) hX q1 (n := 493) rfl ?_
      refine xw_aload_n (n := 494) (show xlook 228 493 = some (493, .aload_n 0, 1, 0, 0, 0, 0) from xlk (by decide +kernel)) rfl rfl ?_
      refine xw_iload_n (n := 495) (show xlook 228 494 = some (494, .iload_n 3, 1, 0, 0, 0, 0) from xlk (by decide +kernel)) rfl rfl ?_
      refine xw_iconst (n := 496) (show xlook 228 495 = some (495, .iconst 2, 1, 0, 0, 0, 0) from xlk (by decide +kernel)) rfl ?_
      refine xw_iadd (n := 497) (show xlook 228 496 = some (496, .iadd, 1, 0, 0, 0, 0) from xlk (by decide +kernel)) rfl ?_
      obtain ⟨q1, t⟩ := t
      refine xw_sald (show xlook 228 497 = some (497, .iaload, 1, 0, 0, 0, 0) from xlk (by decide +kernel)) hX q1 (n := 498) rfl ?_
      obtain ⟨j24, hj24, rr24, G24, hm24, hG24, t⟩ := t
      obtain ⟨y24, rfl, t⟩ := t
      refine xw_callv (dk := j24) (o := 131) (as := [vi (xsc X ((x3) + (1))), vi (xsc X ((x3) + (2)))]) (show xlook 228 498 = some (498, .invokevirtual 65, 3, 186, 3, 0, 236) from xlk (by decide +kernel)) (by decide) hj24 ⟨Nat.le_of_ble_eq_true rfl, Nat.le_of_ble_eq_true rfl, Nat.le_of_ble_eq_true rfl⟩ ⟨xob_12.1, xob_12.2, by decide⟩ rfl hm24 (n := 501) rfl ?_
      show xW X d 228 501 [.ref xSC, .ref (0), .ref (131), vi (x3)] [vi (y24), vi (y23)] G24 (xqi Q)
      obtain ⟨q0, q1, t⟩ := t
      refine xw_icmp_eq (n := 504) (m := 1180) (show xlook 228 501 = some (501, .if_icmp .eq 679, 3, 1180, 0, 0, 0) from xlk (by decide +kernel)) rfl rfl q0 q1 ⟨fun c => ?_, fun c => ?_⟩
      · replace t := t.1 c
        refine xw_iinc (n := 1183) (show xlook 228 1180 = some (1180, .iinc 3 6, 3, 0, 0, 0, 0) from xlk (by decide +kernel)) rfl (ls' := [.ref xSC, .ref (0), .ref (131), vi (x3 + 6)]) rfl rfl ?_
        refine xw_goto (m := 18) (show xlook 228 1183 = some (1183, .goto (-1165), 3, 18, 0, 0, 0) from xlk (by decide +kernel)) rfl ?_
        exact t hG24
      · replace t := t.2 c
        refine xw_iconst (n := 505) (show xlook 228 504 = some (504, .iconst 0, 1, 0, 0, 0, 0) from xlk (by decide +kernel)) rfl ?_
        exact xw_zreturn hG24 (show xlook 228 505 = some (505, .ireturn, 1, 0, 0, 0, 0) from xlk (by decide +kernel)) rfl (by decide) (t hG24)
    · replace t := u12 e
      refine xw_tabIn (off := 473) (t := 506) (show xlook 228 33 = some (33, .tableswitch 1147 0 32 #[147, 210, 233, 256, 279, 302, 345, 358, 371, 394, 407, 440, 473, 506, 539, 572, 615, 648, 691, 704, 737, 760, 783, 796, 829, 862, 905, 928, 961, 984, 1007, 1030, 1124], 147, 0, 0, 0, 0) from xlk (by decide +kernel)) q1 hq (by show (#[147, 210, 233, 256, 279, 302, 345, 358, 371, 394, 407, 440, 473, 506, 539, 572, 615, 648, 691, 704, 737, 760, 783, 796, 829, 862, 905, 928, 961, 984, 1007, 1030, 1124] : Array Int)[((xand (xsc X (x3)) (63) : Int) - (0)).toNat]? = some (473); rw [e]; rfl) rfl ?_
      refine xw_aload_n (n := 507) (show xlook 228 506 = some (506, .aload_n 1, 1, 0, 0, 0, 0) from xlk (by decide +kernel)) rfl rfl ?_
      refine xw_aload_n (n := 508) (show xlook 228 507 = some (507, .aload_n 0, 1, 0, 0, 0, 0) from xlk (by decide +kernel)) rfl rfl ?_
      refine xw_iload_n (n := 509) (show xlook 228 508 = some (508, .iload_n 3, 1, 0, 0, 0, 0) from xlk (by decide +kernel)) rfl rfl ?_
      refine xw_iconst (n := 510) (show xlook 228 509 = some (509, .iconst 1, 1, 0, 0, 0, 0) from xlk (by decide +kernel)) rfl ?_
      refine xw_iadd (n := 511) (show xlook 228 510 = some (510, .iadd, 1, 0, 0, 0, 0) from xlk (by decide +kernel)) rfl ?_
      obtain ⟨q1, t⟩ := t
      refine xw_sald (show xlook 228 511 = some (511, .iaload, 1, 0, 0, 0, 0) from xlk (by decide +kernel)) hX q1 (n := 512) rfl ?_
      refine xw_aload_n (n := 513) (show xlook 228 512 = some (512, .aload_n 0, 1, 0, 0, 0, 0) from xlk (by decide +kernel)) rfl rfl ?_
      refine xw_iload_n (n := 514) (show xlook 228 513 = some (513, .iload_n 3, 1, 0, 0, 0, 0) from xlk (by decide +kernel)) rfl rfl ?_
      refine xw_iconst (n := 515) (show xlook 228 514 = some (514, .iconst 2, 1, 0, 0, 0, 0) from xlk (by decide +kernel)) rfl ?_
      refine xw_iadd (n := 516) (show xlook 228 515 = some (515, .iadd, 1, 0, 0, 0, 0) from xlk (by decide +kernel)) rfl ?_
      obtain ⟨q1, t⟩ := t
      refine xw_sald (show xlook 228 516 = some (516, .iaload, 1, 0, 0, 0, 0) from xlk (by decide +kernel)) hX q1 (n := 517) rfl ?_
      obtain ⟨j25, hj25, rr25, G25, hm25, hG25, t⟩ := t
      obtain ⟨y25, rfl, t⟩ := t
      refine xw_callv (dk := j25) (o := 0) (as := [vi (xsc X ((x3) + (1))), vi (xsc X ((x3) + (2)))]) (show xlook 228 517 = some (517, .invokevirtual 66, 3, 106, 3, 0, 237) from xlk (by decide +kernel)) (by decide) hj25 ⟨Nat.le_of_ble_eq_true rfl, Nat.le_of_ble_eq_true rfl, Nat.le_of_ble_eq_true rfl⟩ ⟨xob_11.1, xob_11.2, by decide⟩ rfl hm25 (n := 520) rfl ?_
      show xW X d 228 520 [.ref xSC, .ref (0), .ref (131), vi (x3)] [vi (y25)] G25 (xqi Q)
      refine xw_aload_n (n := 521) (show xlook 228 520 = some (520, .aload_n 2, 1, 0, 0, 0, 0) from xlk (by decide +kernel)) rfl rfl ?_
      refine xw_aload_n (n := 522) (show xlook 228 521 = some (521, .aload_n 0, 1, 0, 0, 0, 0) from xlk (by decide +kernel)) rfl rfl ?_
      refine xw_iload_n (n := 523) (show xlook 228 522 = some (522, .iload_n 3, 1, 0, 0, 0, 0) from xlk (by decide +kernel)) rfl rfl ?_
      refine xw_iconst (n := 524) (show xlook 228 523 = some (523, .iconst 1, 1, 0, 0, 0, 0) from xlk (by decide +kernel)) rfl ?_
      refine xw_iadd (n := 525) (show xlook 228 524 = some (524, .iadd, 1, 0, 0, 0, 0) from xlk (by decide +kernel)) rfl ?_
      obtain ⟨q1, t⟩ := t
      refine xw_sald (show xlook 228 525 = some (525, .iaload, 1, 0, 0, 0, 0) from xlk (by decide +kernel)) hX q1 (n := 526) rfl ?_
      refine xw_aload_n (n := 527) (show xlook 228 526 = some (526, .aload_n 0, 1, 0, 0, 0, 0) from xlk (by decide +kernel)) rfl rfl ?_
      refine xw_iload_n (n := 528) (show xlook 228 527 = some (527, .iload_n 3, 1, 0, 0, 0, 0) from xlk (by decide +kernel)) rfl rfl ?_
      refine xw_iconst (n := 529) (show xlook 228 528 = some (528, .iconst 2, 1, 0, 0, 0, 0) from xlk (by decide +kernel)) rfl ?_
      refine xw_iadd (n := 530) (show xlook 228 529 = some (529, .iadd, 1, 0, 0, 0, 0) from xlk (by decide +kernel)) rfl ?_
      obtain ⟨q1, t⟩ := t
      refine xw_sald (show xlook 228 530 = some (530, .iaload, 1, 0, 0, 0, 0) from xlk (by decide +kernel)) hX q1 (n := 531) rfl ?_
      obtain ⟨j26, hj26, rr26, G26, hm26, hG26, t⟩ := t
      obtain ⟨y26, rfl, t⟩ := t
      refine xw_callv (dk := j26) (o := 131) (as := [vi (xsc X ((x3) + (1))), vi (xsc X ((x3) + (2)))]) (show xlook 228 531 = some (531, .invokevirtual 69, 3, 188, 3, 0, 238) from xlk (by decide +kernel)) (by decide) hj26 ⟨Nat.le_of_ble_eq_true rfl, Nat.le_of_ble_eq_true rfl, Nat.le_of_ble_eq_true rfl⟩ ⟨xob_12.1, xob_12.2, by decide⟩ rfl hm26 (n := 534) rfl ?_
      show xW X d 228 534 [.ref xSC, .ref (0), .ref (131), vi (x3)] [vi (y26), vi (y25)] G26 (xqi Q)
      obtain ⟨q0, q1, t⟩ := t
      refine xw_icmp_eq (n := 537) (m := 1180) (show xlook 228 534 = some (534, .if_icmp .eq 646, 3, 1180, 0, 0, 0) from xlk (by decide +kernel)) rfl rfl q0 q1 ⟨fun c => ?_, fun c => ?_⟩
      · replace t := t.1 c
        refine xw_iinc (n := 1183) (show xlook 228 1180 = some (1180, .iinc 3 6, 3, 0, 0, 0, 0) from xlk (by decide +kernel)) rfl (ls' := [.ref xSC, .ref (0), .ref (131), vi (x3 + 6)]) rfl rfl ?_
        refine xw_goto (m := 18) (show xlook 228 1183 = some (1183, .goto (-1165), 3, 18, 0, 0, 0) from xlk (by decide +kernel)) rfl ?_
        exact t hG26
      · replace t := t.2 c
        refine xw_iconst (n := 538) (show xlook 228 537 = some (537, .iconst 0, 1, 0, 0, 0, 0) from xlk (by decide +kernel)) rfl ?_
        exact xw_zreturn hG26 (show xlook 228 538 = some (538, .ireturn, 1, 0, 0, 0, 0) from xlk (by decide +kernel)) rfl (by decide) (t hG26)
    · replace t := u13 e
      refine xw_tabIn (off := 506) (t := 539) (show xlook 228 33 = some (33, .tableswitch 1147 0 32 #[147, 210, 233, 256, 279, 302, 345, 358, 371, 394, 407, 440, 473, 506, 539, 572, 615, 648, 691, 704, 737, 760, 783, 796, 829, 862, 905, 928, 961, 984, 1007, 1030, 1124], 147, 0, 0, 0, 0) from xlk (by decide +kernel)) q1 hq (by show (#[147, 210, 233, 256, 279, 302, 345, 358, 371, 394, 407, 440, 473, 506, 539, 572, 615, 648, 691, 704, 737, 760, 783, 796, 829, 862, 905, 928, 961, 984, 1007, 1030, 1124] : Array Int)[((xand (xsc X (x3)) (63) : Int) - (0)).toNat]? = some (506); rw [e]; rfl) rfl ?_
      refine xw_aload_n (n := 540) (show xlook 228 539 = some (539, .aload_n 1, 1, 0, 0, 0, 0) from xlk (by decide +kernel)) rfl rfl ?_
      refine xw_aload_n (n := 541) (show xlook 228 540 = some (540, .aload_n 0, 1, 0, 0, 0, 0) from xlk (by decide +kernel)) rfl rfl ?_
      refine xw_iload_n (n := 542) (show xlook 228 541 = some (541, .iload_n 3, 1, 0, 0, 0, 0) from xlk (by decide +kernel)) rfl rfl ?_
      refine xw_iconst (n := 543) (show xlook 228 542 = some (542, .iconst 1, 1, 0, 0, 0, 0) from xlk (by decide +kernel)) rfl ?_
      refine xw_iadd (n := 544) (show xlook 228 543 = some (543, .iadd, 1, 0, 0, 0, 0) from xlk (by decide +kernel)) rfl ?_
      obtain ⟨q1, t⟩ := t
      refine xw_sald (show xlook 228 544 = some (544, .iaload, 1, 0, 0, 0, 0) from xlk (by decide +kernel)) hX q1 (n := 545) rfl ?_
      refine xw_aload_n (n := 546) (show xlook 228 545 = some (545, .aload_n 0, 1, 0, 0, 0, 0) from xlk (by decide +kernel)) rfl rfl ?_
      refine xw_iload_n (n := 547) (show xlook 228 546 = some (546, .iload_n 3, 1, 0, 0, 0, 0) from xlk (by decide +kernel)) rfl rfl ?_
      refine xw_iconst (n := 548) (show xlook 228 547 = some (547, .iconst 2, 1, 0, 0, 0, 0) from xlk (by decide +kernel)) rfl ?_
      refine xw_iadd (n := 549) (show xlook 228 548 = some (548, .iadd, 1, 0, 0, 0, 0) from xlk (by decide +kernel)) rfl ?_
      obtain ⟨q1, t⟩ := t
      refine xw_sald (show xlook 228 549 = some (549, .iaload, 1, 0, 0, 0, 0) from xlk (by decide +kernel)) hX q1 (n := 550) rfl ?_
      obtain ⟨j27, hj27, rr27, G27, hm27, hG27, t⟩ := t
      obtain ⟨y27, rfl, t⟩ := t
      refine xw_callv (dk := j27) (o := 0) (as := [vi (xsc X ((x3) + (1))), vi (xsc X ((x3) + (2)))]) (show xlook 228 550 = some (550, .invokevirtual 70, 3, 107, 3, 0, 239) from xlk (by decide +kernel)) (by decide) hj27 ⟨Nat.le_of_ble_eq_true rfl, Nat.le_of_ble_eq_true rfl, Nat.le_of_ble_eq_true rfl⟩ ⟨xob_11.1, xob_11.2, by decide⟩ rfl hm27 (n := 553) rfl ?_
      show xW X d 228 553 [.ref xSC, .ref (0), .ref (131), vi (x3)] [vi (y27)] G27 (xqi Q)
      refine xw_aload_n (n := 554) (show xlook 228 553 = some (553, .aload_n 2, 1, 0, 0, 0, 0) from xlk (by decide +kernel)) rfl rfl ?_
      refine xw_aload_n (n := 555) (show xlook 228 554 = some (554, .aload_n 0, 1, 0, 0, 0, 0) from xlk (by decide +kernel)) rfl rfl ?_
      refine xw_iload_n (n := 556) (show xlook 228 555 = some (555, .iload_n 3, 1, 0, 0, 0, 0) from xlk (by decide +kernel)) rfl rfl ?_
      refine xw_iconst (n := 557) (show xlook 228 556 = some (556, .iconst 1, 1, 0, 0, 0, 0) from xlk (by decide +kernel)) rfl ?_
      refine xw_iadd (n := 558) (show xlook 228 557 = some (557, .iadd, 1, 0, 0, 0, 0) from xlk (by decide +kernel)) rfl ?_
      obtain ⟨q1, t⟩ := t
      refine xw_sald (show xlook 228 558 = some (558, .iaload, 1, 0, 0, 0, 0) from xlk (by decide +kernel)) hX q1 (n := 559) rfl ?_
      refine xw_aload_n (n := 560) (show xlook 228 559 = some (559, .aload_n 0, 1, 0, 0, 0, 0) from xlk (by decide +kernel)) rfl rfl ?_
      refine xw_iload_n (n := 561) (show xlook 228 560 = some (560, .iload_n 3, 1, 0, 0, 0, 0) from xlk (by decide +kernel)) rfl rfl ?_
      refine xw_iconst (n := 562) (show xlook 228 561 = some (561, .iconst 2, 1, 0, 0, 0, 0) from xlk (by decide +kernel)) rfl ?_
      refine xw_iadd (n := 563) (show xlook 228 562 = some (562, .iadd, 1, 0, 0, 0, 0) from xlk (by decide +kernel)) rfl ?_
      obtain ⟨q1, t⟩ := t
      refine xw_sald (show xlook 228 563 = some (563, .iaload, 1, 0, 0, 0, 0) from xlk (by decide +kernel)) hX q1 (n := 564) rfl ?_
      obtain ⟨j28, hj28, rr28, G28, hm28, hG28, t⟩ := t
      obtain ⟨y28, rfl, t⟩ := t
      refine xw_callv (dk := j28) (o := 131) (as := [vi (xsc X ((x3) + (1))), vi (xsc X ((x3) + (2)))]) (show xlook 228 564 = some (564, .invokevirtual 73, 3, 189, 3, 0, 240) from xlk (by decide +kernel)) (by decide) hj28 ⟨Nat.le_of_ble_eq_true rfl, Nat.le_of_ble_eq_true rfl, Nat.le_of_ble_eq_true rfl⟩ ⟨xob_12.1, xob_12.2, by decide⟩ rfl hm28 (n := 567) rfl ?_
      show xW X d 228 567 [.ref xSC, .ref (0), .ref (131), vi (x3)] [vi (y28), vi (y27)] G28 (xqi Q)
      obtain ⟨q0, q1, t⟩ := t
      refine xw_icmp_eq (n := 570) (m := 1180) (show xlook 228 567 = some (567, .if_icmp .eq 613, 3, 1180, 0, 0, 0) from xlk (by decide +kernel)) rfl rfl q0 q1 ⟨fun c => ?_, fun c => ?_⟩
      · replace t := t.1 c
        refine xw_iinc (n := 1183) (show xlook 228 1180 = some (1180, .iinc 3 6, 3, 0, 0, 0, 0) from xlk (by decide +kernel)) rfl (ls' := [.ref xSC, .ref (0), .ref (131), vi (x3 + 6)]) rfl rfl ?_
        refine xw_goto (m := 18) (show xlook 228 1183 = some (1183, .goto (-1165), 3, 18, 0, 0, 0) from xlk (by decide +kernel)) rfl ?_
        exact t hG28
      · replace t := t.2 c
        refine xw_iconst (n := 571) (show xlook 228 570 = some (570, .iconst 0, 1, 0, 0, 0, 0) from xlk (by decide +kernel)) rfl ?_
        exact xw_zreturn hG28 (show xlook 228 571 = some (571, .ireturn, 1, 0, 0, 0, 0) from xlk (by decide +kernel)) rfl (by decide) (t hG28)
    · replace t := u14 e
      refine xw_tabIn (off := 539) (t := 572) (show xlook 228 33 = some (33, .tableswitch 1147 0 32 #[147, 210, 233, 256, 279, 302, 345, 358, 371, 394, 407, 440, 473, 506, 539, 572, 615, 648, 691, 704, 737, 760, 783, 796, 829, 862, 905, 928, 961, 984, 1007, 1030, 1124], 147, 0, 0, 0, 0) from xlk (by decide +kernel)) q1 hq (by show (#[147, 210, 233, 256, 279, 302, 345, 358, 371, 394, 407, 440, 473, 506, 539, 572, 615, 648, 691, 704, 737, 760, 783, 796, 829, 862, 905, 928, 961, 984, 1007, 1030, 1124] : Array Int)[((xand (xsc X (x3)) (63) : Int) - (0)).toNat]? = some (539); rw [e]; rfl) rfl ?_
      refine xw_aload_n (n := 573) (show xlook 228 572 = some (572, .aload_n 1, 1, 0, 0, 0, 0) from xlk (by decide +kernel)) rfl rfl ?_
      refine xw_aload_n (n := 574) (show xlook 228 573 = some (573, .aload_n 0, 1, 0, 0, 0, 0) from xlk (by decide +kernel)) rfl rfl ?_
      refine xw_iload_n (n := 575) (show xlook 228 574 = some (574, .iload_n 3, 1, 0, 0, 0, 0) from xlk (by decide +kernel)) rfl rfl ?_
      refine xw_iconst (n := 576) (show xlook 228 575 = some (575, .iconst 1, 1, 0, 0, 0, 0) from xlk (by decide +kernel)) rfl ?_
      refine xw_iadd (n := 577) (show xlook 228 576 = some (576, .iadd, 1, 0, 0, 0, 0) from xlk (by decide +kernel)) rfl ?_
      obtain ⟨q1, t⟩ := t
      refine xw_sald (show xlook 228 577 = some (577, .iaload, 1, 0, 0, 0, 0) from xlk (by decide +kernel)) hX q1 (n := 578) rfl ?_
      refine xw_aload_n (n := 579) (show xlook 228 578 = some (578, .aload_n 0, 1, 0, 0, 0, 0) from xlk (by decide +kernel)) rfl rfl ?_
      refine xw_iload_n (n := 580) (show xlook 228 579 = some (579, .iload_n 3, 1, 0, 0, 0, 0) from xlk (by decide +kernel)) rfl rfl ?_
      refine xw_iconst (n := 581) (show xlook 228 580 = some (580, .iconst 2, 1, 0, 0, 0, 0) from xlk (by decide +kernel)) rfl ?_
      refine xw_iadd (n := 582) (show xlook 228 581 = some (581, .iadd, 1, 0, 0, 0, 0) from xlk (by decide +kernel)) rfl ?_
      obtain ⟨q1, t⟩ := t
      refine xw_sald (show xlook 228 582 = some (582, .iaload, 1, 0, 0, 0, 0) from xlk (by decide +kernel)) hX q1 (n := 583) rfl ?_
      obtain ⟨j29, hj29, rr29, G29, hm29, hG29, t⟩ := t
      obtain ⟨y29, rfl, t⟩ := t
      refine xw_callv (dk := j29) (o := 0) (as := [vi (xsc X ((x3) + (1))), vi (xsc X ((x3) + (2)))]) (show xlook 228 583 = some (583, .invokevirtual 74, 3, 108, 3, 0, 241) from xlk (by decide +kernel)) (by decide) hj29 ⟨Nat.le_of_ble_eq_true rfl, Nat.le_of_ble_eq_true rfl, Nat.le_of_ble_eq_true rfl⟩ ⟨xob_11.1, xob_11.2, by decide⟩ rfl hm29 (n := 586) rfl ?_
      show xW X d 228 586 [.ref xSC, .ref (0), .ref (131), vi (x3)] [vi (y29)] G29 (xqi Q)
      refine xw_aload_n (n := 587) (show xlook 228 586 = some (586, .aload_n 2, 1, 0, 0, 0, 0) from xlk (by decide +kernel)) rfl rfl ?_
      refine xw_aload_n (n := 588) (show xlook 228 587 = some (587, .aload_n 0, 1, 0, 0, 0, 0) from xlk (by decide +kernel)) rfl rfl ?_
      refine xw_iload_n (n := 589) (show xlook 228 588 = some (588, .iload_n 3, 1, 0, 0, 0, 0) from xlk (by decide +kernel)) rfl rfl ?_
      refine xw_iconst (n := 590) (show xlook 228 589 = some (589, .iconst 1, 1, 0, 0, 0, 0) from xlk (by decide +kernel)) rfl ?_
      refine xw_iadd (n := 591) (show xlook 228 590 = some (590, .iadd, 1, 0, 0, 0, 0) from xlk (by decide +kernel)) rfl ?_
      obtain ⟨q1, t⟩ := t
      refine xw_sald (show xlook 228 591 = some (591, .iaload, 1, 0, 0, 0, 0) from xlk (by decide +kernel)) hX q1 (n := 592) rfl ?_
      refine xw_aload_n (n := 593) (show xlook 228 592 = some (592, .aload_n 0, 1, 0, 0, 0, 0) from xlk (by decide +kernel)) rfl rfl ?_
      refine xw_iload_n (n := 594) (show xlook 228 593 = some (593, .iload_n 3, 1, 0, 0, 0, 0) from xlk (by decide +kernel)) rfl rfl ?_
      refine xw_iconst (n := 595) (show xlook 228 594 = some (594, .iconst 2, 1, 0, 0, 0, 0) from xlk (by decide +kernel)) rfl ?_
      refine xw_iadd (n := 596) (show xlook 228 595 = some (595, .iadd, 1, 0, 0, 0, 0) from xlk (by decide +kernel)) rfl ?_
      obtain ⟨q1, t⟩ := t
      refine xw_sald (show xlook 228 596 = some (596, .iaload, 1, 0, 0, 0, 0) from xlk (by decide +kernel)) hX q1 (n := 597) rfl ?_
      obtain ⟨j30, hj30, rr30, G30, hm30, hG30, t⟩ := t
      obtain ⟨y30, rfl, t⟩ := t
      refine xw_callv (dk := j30) (o := 131) (as := [vi (xsc X ((x3) + (1))), vi (xsc X ((x3) + (2)))]) (show xlook 228 597 = some (597, .invokevirtual 77, 3, 190, 3, 0, 242) from xlk (by decide +kernel)) (by decide) hj30 ⟨Nat.le_of_ble_eq_true rfl, Nat.le_of_ble_eq_true rfl, Nat.le_of_ble_eq_true rfl⟩ ⟨xob_12.1, xob_12.2, by decide⟩ rfl hm30 (n := 600) rfl ?_
      show xW X d 228 600 [.ref xSC, .ref (0), .ref (131), vi (x3)] [vi (y30), vi (y29)] G30 (xqi Q)
      obtain ⟨q0, q1, t⟩ := t
      refine xw_icmp_eq (n := 603) (m := 1180) (show xlook 228 600 = some (600, .if_icmp .eq 580, 3, 1180, 0, 0, 0) from xlk (by decide +kernel)) rfl rfl q0 q1 ⟨fun c => ?_, fun c => ?_⟩
      · replace t := t.1 c
        refine xw_iinc (n := 1183) (show xlook 228 1180 = some (1180, .iinc 3 6, 3, 0, 0, 0, 0) from xlk (by decide +kernel)) rfl (ls' := [.ref xSC, .ref (0), .ref (131), vi (x3 + 6)]) rfl rfl ?_
        refine xw_goto (m := 18) (show xlook 228 1183 = some (1183, .goto (-1165), 3, 18, 0, 0, 0) from xlk (by decide +kernel)) rfl ?_
        exact t hG30
      · replace t := t.2 c
        refine xw_iconst (n := 604) (show xlook 228 603 = some (603, .iconst 0, 1, 0, 0, 0, 0) from xlk (by decide +kernel)) rfl ?_
        exact xw_zreturn hG30 (show xlook 228 604 = some (604, .ireturn, 1, 0, 0, 0, 0) from xlk (by decide +kernel)) rfl (by decide) (t hG30)
    · replace t := u15 e
      refine xw_tabIn (off := 572) (t := 605) (show xlook 228 33 = some (33, .tableswitch 1147 0 32 #[147, 210, 233, 256, 279, 302, 345, 358, 371, 394, 407, 440, 473, 506, 539, 572, 615, 648, 691, 704, 737, 760, 783, 796, 829, 862, 905, 928, 961, 984, 1007, 1030, 1124], 147, 0, 0, 0, 0) from xlk (by decide +kernel)) q1 hq (by show (#[147, 210, 233, 256, 279, 302, 345, 358, 371, 394, 407, 440, 473, 506, 539, 572, 615, 648, 691, 704, 737, 760, 783, 796, 829, 862, 905, 928, 961, 984, 1007, 1030, 1124] : Array Int)[((xand (xsc X (x3)) (63) : Int) - (0)).toNat]? = some (572); rw [e]; rfl) rfl ?_
      refine xw_aload_n (n := 606) (show xlook 228 605 = some (605, .aload_n 1, 1, 0, 0, 0, 0) from xlk (by decide +kernel)) rfl rfl ?_
      refine xw_aload_n (n := 607) (show xlook 228 606 = some (606, .aload_n 0, 1, 0, 0, 0, 0) from xlk (by decide +kernel)) rfl rfl ?_
      refine xw_iload_n (n := 608) (show xlook 228 607 = some (607, .iload_n 3, 1, 0, 0, 0, 0) from xlk (by decide +kernel)) rfl rfl ?_
      refine xw_iconst (n := 609) (show xlook 228 608 = some (608, .iconst 1, 1, 0, 0, 0, 0) from xlk (by decide +kernel)) rfl ?_
      refine xw_iadd (n := 610) (show xlook 228 609 = some (609, .iadd, 1, 0, 0, 0, 0) from xlk (by decide +kernel)) rfl ?_
      obtain ⟨q1, t⟩ := t
      refine xw_sald (show xlook 228 610 = some (610, .iaload, 1, 0, 0, 0, 0) from xlk (by decide +kernel)) hX q1 (n := 611) rfl ?_
      refine xw_aload_n (n := 612) (show xlook 228 611 = some (611, .aload_n 0, 1, 0, 0, 0, 0) from xlk (by decide +kernel)) rfl rfl ?_
      refine xw_iload_n (n := 613) (show xlook 228 612 = some (612, .iload_n 3, 1, 0, 0, 0, 0) from xlk (by decide +kernel)) rfl rfl ?_
      refine xw_iconst (n := 614) (show xlook 228 613 = some (613, .iconst 2, 1, 0, 0, 0, 0) from xlk (by decide +kernel)) rfl ?_
      refine xw_iadd (n := 615) (show xlook 228 614 = some (614, .iadd, 1, 0, 0, 0, 0) from xlk (by decide +kernel)) rfl ?_
      obtain ⟨q1, t⟩ := t
      refine xw_sald (show xlook 228 615 = some (615, .iaload, 1, 0, 0, 0, 0) from xlk (by decide +kernel)) hX q1 (n := 616) rfl ?_
      refine xw_aload_n (n := 617) (show xlook 228 616 = some (616, .aload_n 0, 1, 0, 0, 0, 0) from xlk (by decide +kernel)) rfl rfl ?_
      refine xw_iload_n (n := 618) (show xlook 228 617 = some (617, .iload_n 3, 1, 0, 0, 0, 0) from xlk (by decide +kernel)) rfl rfl ?_
      refine xw_iconst (n := 619) (show xlook 228 618 = some (618, .iconst 3, 1, 0, 0, 0, 0) from xlk (by decide +kernel)) rfl ?_
      refine xw_iadd (n := 620) (show xlook 228 619 = some (619, .iadd, 1, 0, 0, 0, 0) from xlk (by decide +kernel)) rfl ?_
      obtain ⟨q1, t⟩ := t
      refine xw_sald (show xlook 228 620 = some (620, .iaload, 1, 0, 0, 0, 0) from xlk (by decide +kernel)) hX q1 (n := 621) rfl ?_
      obtain ⟨j31, hj31, rr31, G31, hm31, hG31, t⟩ := t
      obtain ⟨y31, rfl, t⟩ := t
      refine xw_callv (dk := j31) (o := 0) (as := [vi (xsc X ((x3) + (1))), vi (xsc X ((x3) + (2))), vi (xsc X ((x3) + (3)))]) (show xlook 228 621 = some (621, .invokevirtual 78, 3, 109, 4, 0, 243) from xlk (by decide +kernel)) (by decide) hj31 ⟨Nat.le_of_ble_eq_true rfl, Nat.le_of_ble_eq_true rfl, Nat.le_of_ble_eq_true rfl⟩ ⟨xob_11.1, xob_11.2, by decide⟩ rfl hm31 (n := 624) rfl ?_
      show xW X d 228 624 [.ref xSC, .ref (0), .ref (131), vi (x3)] [vi (y31)] G31 (xqi Q)
      refine xw_aload_n (n := 625) (show xlook 228 624 = some (624, .aload_n 2, 1, 0, 0, 0, 0) from xlk (by decide +kernel)) rfl rfl ?_
      refine xw_aload_n (n := 626) (show xlook 228 625 = some (625, .aload_n 0, 1, 0, 0, 0, 0) from xlk (by decide +kernel)) rfl rfl ?_
      refine xw_iload_n (n := 627) (show xlook 228 626 = some (626, .iload_n 3, 1, 0, 0, 0, 0) from xlk (by decide +kernel)) rfl rfl ?_
      refine xw_iconst (n := 628) (show xlook 228 627 = some (627, .iconst 1, 1, 0, 0, 0, 0) from xlk (by decide +kernel)) rfl ?_
      refine xw_iadd (n := 629) (show xlook 228 628 = some (628, .iadd, 1, 0, 0, 0, 0) from xlk (by decide +kernel)) rfl ?_
      obtain ⟨q1, t⟩ := t
      refine xw_sald (show xlook 228 629 = some (629, .iaload, 1, 0, 0, 0, 0) from xlk (by decide +kernel)) hX q1 (n := 630) rfl ?_
      refine xw_aload_n (n := 631) (show xlook 228 630 = some (630, .aload_n 0, 1, 0, 0, 0, 0) from xlk (by decide +kernel)) rfl rfl ?_
      refine xw_iload_n (n := 632) (show xlook 228 631 = some (631, .iload_n 3, 1, 0, 0, 0, 0) from xlk (by decide +kernel)) rfl rfl ?_
      refine xw_iconst (n := 633) (show xlook 228 632 = some (632, .iconst 2, 1, 0, 0, 0, 0) from xlk (by decide +kernel)) rfl ?_
      refine xw_iadd (n := 634) (show xlook 228 633 = some (633, .iadd, 1, 0, 0, 0, 0) from xlk (by decide +kernel)) rfl ?_
      obtain ⟨q1, t⟩ := t
      refine xw_sald (show xlook 228 634 = some (634, .iaload, 1, 0, 0, 0, 0) from xlk (by decide +kernel)) hX q1 (n := 635) rfl ?_
      refine xw_aload_n (n := 636) (show xlook 228 635 = some (635, .aload_n 0, 1, 0, 0, 0, 0) from xlk (by decide +kernel)) rfl rfl ?_
      refine xw_iload_n (n := 637) (show xlook 228 636 = some (636, .iload_n 3, 1, 0, 0, 0, 0) from xlk (by decide +kernel)) rfl rfl ?_
      refine xw_iconst (n := 638) (show xlook 228 637 = some (637, .iconst 3, 1, 0, 0, 0, 0) from xlk (by decide +kernel)) rfl ?_
      refine xw_iadd (n := 639) (show xlook 228 638 = some (638, .iadd, 1, 0, 0, 0, 0) from xlk (by decide +kernel)) rfl ?_
      obtain ⟨q1, t⟩ := t
      refine xw_sald (show xlook 228 639 = some (639, .iaload, 1, 0, 0, 0, 0) from xlk (by decide +kernel)) hX q1 (n := 640) rfl ?_
      obtain ⟨j32, hj32, rr32, G32, hm32, hG32, t⟩ := t
      obtain ⟨y32, rfl, t⟩ := t
      refine xw_callv (dk := j32) (o := 131) (as := [vi (xsc X ((x3) + (1))), vi (xsc X ((x3) + (2))), vi (xsc X ((x3) + (3)))]) (show xlook 228 640 = some (640, .invokevirtual 81, 3, 192, 4, 0, 244) from xlk (by decide +kernel)) (by decide) hj32 ⟨Nat.le_of_ble_eq_true rfl, Nat.le_of_ble_eq_true rfl, Nat.le_of_ble_eq_true rfl⟩ ⟨xob_12.1, xob_12.2, by decide⟩ rfl hm32 (n := 643) rfl ?_
      show xW X d 228 643 [.ref xSC, .ref (0), .ref (131), vi (x3)] [vi (y32), vi (y31)] G32 (xqi Q)
      obtain ⟨q0, q1, t⟩ := t
      refine xw_icmp_eq (n := 646) (m := 1180) (show xlook 228 643 = some (643, .if_icmp .eq 537, 3, 1180, 0, 0, 0) from xlk (by decide +kernel)) rfl rfl q0 q1 ⟨fun c => ?_, fun c => ?_⟩
      · replace t := t.1 c
        refine xw_iinc (n := 1183) (show xlook 228 1180 = some (1180, .iinc 3 6, 3, 0, 0, 0, 0) from xlk (by decide +kernel)) rfl (ls' := [.ref xSC, .ref (0), .ref (131), vi (x3 + 6)]) rfl rfl ?_
        refine xw_goto (m := 18) (show xlook 228 1183 = some (1183, .goto (-1165), 3, 18, 0, 0, 0) from xlk (by decide +kernel)) rfl ?_
        exact t hG32
      · replace t := t.2 c
        refine xw_iconst (n := 647) (show xlook 228 646 = some (646, .iconst 0, 1, 0, 0, 0, 0) from xlk (by decide +kernel)) rfl ?_
        exact xw_zreturn hG32 (show xlook 228 647 = some (647, .ireturn, 1, 0, 0, 0, 0) from xlk (by decide +kernel)) rfl (by decide) (t hG32)
    · replace t := u16 e
      refine xw_tabIn (off := 615) (t := 648) (show xlook 228 33 = some (33, .tableswitch 1147 0 32 #[147, 210, 233, 256, 279, 302, 345, 358, 371, 394, 407, 440, 473, 506, 539, 572, 615, 648, 691, 704, 737, 760, 783, 796, 829, 862, 905, 928, 961, 984, 1007, 1030, 1124], 147, 0, 0, 0, 0) from xlk (by decide +kernel)) q1 hq (by show (#[147, 210, 233, 256, 279, 302, 345, 358, 371, 394, 407, 440, 473, 506, 539, 572, 615, 648, 691, 704, 737, 760, 783, 796, 829, 862, 905, 928, 961, 984, 1007, 1030, 1124] : Array Int)[((xand (xsc X (x3)) (63) : Int) - (0)).toNat]? = some (615); rw [e]; rfl) rfl ?_
      refine xw_aload_n (n := 649) (show xlook 228 648 = some (648, .aload_n 1, 1, 0, 0, 0, 0) from xlk (by decide +kernel)) rfl rfl ?_
      refine xw_aload_n (n := 650) (show xlook 228 649 = some (649, .aload_n 0, 1, 0, 0, 0, 0) from xlk (by decide +kernel)) rfl rfl ?_
      refine xw_iload_n (n := 651) (show xlook 228 650 = some (650, .iload_n 3, 1, 0, 0, 0, 0) from xlk (by decide +kernel)) rfl rfl ?_
      refine xw_iconst (n := 652) (show xlook 228 651 = some (651, .iconst 1, 1, 0, 0, 0, 0) from xlk (by decide +kernel)) rfl ?_
      refine xw_iadd (n := 653) (show xlook 228 652 = some (652, .iadd, 1, 0, 0, 0, 0) from xlk (by decide +kernel)) rfl ?_
      obtain ⟨q1, t⟩ := t
      refine xw_sald (show xlook 228 653 = some (653, .iaload, 1, 0, 0, 0, 0) from xlk (by decide +kernel)) hX q1 (n := 654) rfl ?_
      refine xw_aload_n (n := 655) (show xlook 228 654 = some (654, .aload_n 0, 1, 0, 0, 0, 0) from xlk (by decide +kernel)) rfl rfl ?_
      refine xw_iload_n (n := 656) (show xlook 228 655 = some (655, .iload_n 3, 1, 0, 0, 0, 0) from xlk (by decide +kernel)) rfl rfl ?_
      refine xw_iconst (n := 657) (show xlook 228 656 = some (656, .iconst 2, 1, 0, 0, 0, 0) from xlk (by decide +kernel)) rfl ?_
      refine xw_iadd (n := 658) (show xlook 228 657 = some (657, .iadd, 1, 0, 0, 0, 0) from xlk (by decide +kernel)) rfl ?_
      obtain ⟨q1, t⟩ := t
      refine xw_sald (show xlook 228 658 = some (658, .iaload, 1, 0, 0, 0, 0) from xlk (by decide +kernel)) hX q1 (n := 659) rfl ?_
      obtain ⟨j33, hj33, rr33, G33, hm33, hG33, t⟩ := t
      obtain ⟨y33, rfl, t⟩ := t
      refine xw_callv (dk := j33) (o := 0) (as := [vi (xsc X ((x3) + (1))), vi (xsc X ((x3) + (2)))]) (show xlook 228 659 = some (659, .invokevirtual 82, 3, 110, 3, 0, 245) from xlk (by decide +kernel)) (by decide) hj33 ⟨Nat.le_of_ble_eq_true rfl, Nat.le_of_ble_eq_true rfl, Nat.le_of_ble_eq_true rfl⟩ ⟨xob_11.1, xob_11.2, by decide⟩ rfl hm33 (n := 662) rfl ?_
      show xW X d 228 662 [.ref xSC, .ref (0), .ref (131), vi (x3)] [vi (y33)] G33 (xqi Q)
      refine xw_aload_n (n := 663) (show xlook 228 662 = some (662, .aload_n 2, 1, 0, 0, 0, 0) from xlk (by decide +kernel)) rfl rfl ?_
      refine xw_aload_n (n := 664) (show xlook 228 663 = some (663, .aload_n 0, 1, 0, 0, 0, 0) from xlk (by decide +kernel)) rfl rfl ?_
      refine xw_iload_n (n := 665) (show xlook 228 664 = some (664, .iload_n 3, 1, 0, 0, 0, 0) from xlk (by decide +kernel)) rfl rfl ?_
      refine xw_iconst (n := 666) (show xlook 228 665 = some (665, .iconst 1, 1, 0, 0, 0, 0) from xlk (by decide +kernel)) rfl ?_
      refine xw_iadd (n := 667) (show xlook 228 666 = some (666, .iadd, 1, 0, 0, 0, 0) from xlk (by decide +kernel)) rfl ?_
      obtain ⟨q1, t⟩ := t
      refine xw_sald (show xlook 228 667 = some (667, .iaload, 1, 0, 0, 0, 0) from xlk (by decide +kernel)) hX q1 (n := 668) rfl ?_
      refine xw_aload_n (n := 669) (show xlook 228 668 = some (668, .aload_n 0, 1, 0, 0, 0, 0) from xlk (by decide +kernel)) rfl rfl ?_
      refine xw_iload_n (n := 670) (show xlook 228 669 = some (669, .iload_n 3, 1, 0, 0, 0, 0) from xlk (by decide +kernel)) rfl rfl ?_
      refine xw_iconst (n := 671) (show xlook 228 670 = some (670, .iconst 2, 1, 0, 0, 0, 0) from xlk (by decide +kernel)) rfl ?_
      refine xw_iadd (n := 672) (show xlook 228 671 = some (671, .iadd, 1, 0, 0, 0, 0) from xlk (by decide +kernel)) rfl ?_
      obtain ⟨q1, t⟩ := t
      refine xw_sald (show xlook 228 672 = some (672, .iaload, 1, 0, 0, 0, 0) from xlk (by decide +kernel)) hX q1 (n := 673) rfl ?_
      obtain ⟨j34, hj34, rr34, G34, hm34, hG34, t⟩ := t
      obtain ⟨y34, rfl, t⟩ := t
      refine xw_callv (dk := j34) (o := 131) (as := [vi (xsc X ((x3) + (1))), vi (xsc X ((x3) + (2)))]) (show xlook 228 673 = some (673, .invokevirtual 85, 3, 193, 3, 0, 246) from xlk (by decide +kernel)) (by decide) hj34 ⟨Nat.le_of_ble_eq_true rfl, Nat.le_of_ble_eq_true rfl, Nat.le_of_ble_eq_true rfl⟩ ⟨xob_12.1, xob_12.2, by decide⟩ rfl hm34 (n := 676) rfl ?_
      show xW X d 228 676 [.ref xSC, .ref (0), .ref (131), vi (x3)] [vi (y34), vi (y33)] G34 (xqi Q)
      obtain ⟨q0, q1, t⟩ := t
      refine xw_icmp_eq (n := 679) (m := 1180) (show xlook 228 676 = some (676, .if_icmp .eq 504, 3, 1180, 0, 0, 0) from xlk (by decide +kernel)) rfl rfl q0 q1 ⟨fun c => ?_, fun c => ?_⟩
      · replace t := t.1 c
        refine xw_iinc (n := 1183) (show xlook 228 1180 = some (1180, .iinc 3 6, 3, 0, 0, 0, 0) from xlk (by decide +kernel)) rfl (ls' := [.ref xSC, .ref (0), .ref (131), vi (x3 + 6)]) rfl rfl ?_
        refine xw_goto (m := 18) (show xlook 228 1183 = some (1183, .goto (-1165), 3, 18, 0, 0, 0) from xlk (by decide +kernel)) rfl ?_
        exact t hG34
      · replace t := t.2 c
        refine xw_iconst (n := 680) (show xlook 228 679 = some (679, .iconst 0, 1, 0, 0, 0, 0) from xlk (by decide +kernel)) rfl ?_
        exact xw_zreturn hG34 (show xlook 228 680 = some (680, .ireturn, 1, 0, 0, 0, 0) from xlk (by decide +kernel)) rfl (by decide) (t hG34)
    · replace t := u17 e
      refine xw_tabIn (off := 648) (t := 681) (show xlook 228 33 = some (33, .tableswitch 1147 0 32 #[147, 210, 233, 256, 279, 302, 345, 358, 371, 394, 407, 440, 473, 506, 539, 572, 615, 648, 691, 704, 737, 760, 783, 796, 829, 862, 905, 928, 961, 984, 1007, 1030, 1124], 147, 0, 0, 0, 0) from xlk (by decide +kernel)) q1 hq (by show (#[147, 210, 233, 256, 279, 302, 345, 358, 371, 394, 407, 440, 473, 506, 539, 572, 615, 648, 691, 704, 737, 760, 783, 796, 829, 862, 905, 928, 961, 984, 1007, 1030, 1124] : Array Int)[((xand (xsc X (x3)) (63) : Int) - (0)).toNat]? = some (648); rw [e]; rfl) rfl ?_
      refine xw_aload_n (n := 682) (show xlook 228 681 = some (681, .aload_n 1, 1, 0, 0, 0, 0) from xlk (by decide +kernel)) rfl rfl ?_
      refine xw_aload_n (n := 683) (show xlook 228 682 = some (682, .aload_n 0, 1, 0, 0, 0, 0) from xlk (by decide +kernel)) rfl rfl ?_
      refine xw_iload_n (n := 684) (show xlook 228 683 = some (683, .iload_n 3, 1, 0, 0, 0, 0) from xlk (by decide +kernel)) rfl rfl ?_
      refine xw_iconst (n := 685) (show xlook 228 684 = some (684, .iconst 1, 1, 0, 0, 0, 0) from xlk (by decide +kernel)) rfl ?_
      refine xw_iadd (n := 686) (show xlook 228 685 = some (685, .iadd, 1, 0, 0, 0, 0) from xlk (by decide +kernel)) rfl ?_
      obtain ⟨q1, t⟩ := t
      refine xw_sald (show xlook 228 686 = some (686, .iaload, 1, 0, 0, 0, 0) from xlk (by decide +kernel)) hX q1 (n := 687) rfl ?_
      refine xw_aload_n (n := 688) (show xlook 228 687 = some (687, .aload_n 0, 1, 0, 0, 0, 0) from xlk (by decide +kernel)) rfl rfl ?_
      refine xw_iload_n (n := 689) (show xlook 228 688 = some (688, .iload_n 3, 1, 0, 0, 0, 0) from xlk (by decide +kernel)) rfl rfl ?_
      refine xw_iconst (n := 690) (show xlook 228 689 = some (689, .iconst 2, 1, 0, 0, 0, 0) from xlk (by decide +kernel)) rfl ?_
      refine xw_iadd (n := 691) (show xlook 228 690 = some (690, .iadd, 1, 0, 0, 0, 0) from xlk (by decide +kernel)) rfl ?_
      obtain ⟨q1, t⟩ := t
      refine xw_sald (show xlook 228 691 = some (691, .iaload, 1, 0, 0, 0, 0) from xlk (by decide +kernel)) hX q1 (n := 692) rfl ?_
      refine xw_aload_n (n := 693) (show xlook 228 692 = some (692, .aload_n 0, 1, 0, 0, 0, 0) from xlk (by decide +kernel)) rfl rfl ?_
      refine xw_iload_n (n := 694) (show xlook 228 693 = some (693, .iload_n 3, 1, 0, 0, 0, 0) from xlk (by decide +kernel)) rfl rfl ?_
      refine xw_iconst (n := 695) (show xlook 228 694 = some (694, .iconst 3, 1, 0, 0, 0, 0) from xlk (by decide +kernel)) rfl ?_
      refine xw_iadd (n := 696) (show xlook 228 695 = some (695, .iadd, 1, 0, 0, 0, 0) from xlk (by decide +kernel)) rfl ?_
      obtain ⟨q1, t⟩ := t
      refine xw_sald (show xlook 228 696 = some (696, .iaload, 1, 0, 0, 0, 0) from xlk (by decide +kernel)) hX q1 (n := 697) rfl ?_
      obtain ⟨j35, hj35, rr35, G35, hm35, hG35, t⟩ := t
      obtain ⟨y35, rfl, t⟩ := t
      refine xw_callv (dk := j35) (o := 0) (as := [vi (xsc X ((x3) + (1))), vi (xsc X ((x3) + (2))), vi (xsc X ((x3) + (3)))]) (show xlook 228 697 = some (697, .invokevirtual 86, 3, 111, 4, 0, 247) from xlk (by decide +kernel)) (by decide) hj35 ⟨Nat.le_of_ble_eq_true rfl, Nat.le_of_ble_eq_true rfl, Nat.le_of_ble_eq_true rfl⟩ ⟨xob_11.1, xob_11.2, by decide⟩ rfl hm35 (n := 700) rfl ?_
      show xW X d 228 700 [.ref xSC, .ref (0), .ref (131), vi (x3)] [vi (y35)] G35 (xqi Q)
      refine xw_aload_n (n := 701) (show xlook 228 700 = some (700, .aload_n 2, 1, 0, 0, 0, 0) from xlk (by decide +kernel)) rfl rfl ?_
      refine xw_aload_n (n := 702) (show xlook 228 701 = some (701, .aload_n 0, 1, 0, 0, 0, 0) from xlk (by decide +kernel)) rfl rfl ?_
      refine xw_iload_n (n := 703) (show xlook 228 702 = some (702, .iload_n 3, 1, 0, 0, 0, 0) from xlk (by decide +kernel)) rfl rfl ?_
      refine xw_iconst (n := 704) (show xlook 228 703 = some (703, .iconst 1, 1, 0, 0, 0, 0) from xlk (by decide +kernel)) rfl ?_
      refine xw_iadd (n := 705) (show xlook 228 704 = some (704, .iadd, 1, 0, 0, 0, 0) from xlk (by decide +kernel)) rfl ?_
      obtain ⟨q1, t⟩ := t
      refine xw_sald (show xlook 228 705 = some (705, .iaload, 1, 0, 0, 0, 0) from xlk (by decide +kernel)) hX q1 (n := 706) rfl ?_
      refine xw_aload_n (n := 707) (show xlook 228 706 = some (706, .aload_n 0, 1, 0, 0, 0, 0) from xlk (by decide +kernel)) rfl rfl ?_
      refine xw_iload_n (n := 708) (show xlook 228 707 = some (707, .iload_n 3, 1, 0, 0, 0, 0) from xlk (by decide +kernel)) rfl rfl ?_
      refine xw_iconst (n := 709) (show xlook 228 708 = some (708, .iconst 2, 1, 0, 0, 0, 0) from xlk (by decide +kernel)) rfl ?_
      refine xw_iadd (n := 710) (show xlook 228 709 = some (709, .iadd, 1, 0, 0, 0, 0) from xlk (by decide +kernel)) rfl ?_
      obtain ⟨q1, t⟩ := t
      refine xw_sald (show xlook 228 710 = some (710, .iaload, 1, 0, 0, 0, 0) from xlk (by decide +kernel)) hX q1 (n := 711) rfl ?_
      refine xw_aload_n (n := 712) (show xlook 228 711 = some (711, .aload_n 0, 1, 0, 0, 0, 0) from xlk (by decide +kernel)) rfl rfl ?_
      refine xw_iload_n (n := 713) (show xlook 228 712 = some (712, .iload_n 3, 1, 0, 0, 0, 0) from xlk (by decide +kernel)) rfl rfl ?_
      refine xw_iconst (n := 714) (show xlook 228 713 = some (713, .iconst 3, 1, 0, 0, 0, 0) from xlk (by decide +kernel)) rfl ?_
      refine xw_iadd (n := 715) (show xlook 228 714 = some (714, .iadd, 1, 0, 0, 0, 0) from xlk (by decide +kernel)) rfl ?_
      obtain ⟨q1, t⟩ := t
      refine xw_sald (show xlook 228 715 = some (715, .iaload, 1, 0, 0, 0, 0) from xlk (by decide +kernel)) hX q1 (n := 716) rfl ?_
      obtain ⟨j36, hj36, rr36, G36, hm36, hG36, t⟩ := t
      obtain ⟨y36, rfl, t⟩ := t
      refine xw_callv (dk := j36) (o := 131) (as := [vi (xsc X ((x3) + (1))), vi (xsc X ((x3) + (2))), vi (xsc X ((x3) + (3)))]) (show xlook 228 716 = some (716, .invokevirtual 89, 3, 194, 4, 0, 248) from xlk (by decide +kernel)) (by decide) hj36 ⟨Nat.le_of_ble_eq_true rfl, Nat.le_of_ble_eq_true rfl, Nat.le_of_ble_eq_true rfl⟩ ⟨xob_12.1, xob_12.2, by decide⟩ rfl hm36 (n := 719) rfl ?_
      show xW X d 228 719 [.ref xSC, .ref (0), .ref (131), vi (x3)] [vi (y36), vi (y35)] G36 (xqi Q)
      obtain ⟨q0, q1, t⟩ := t
      refine xw_icmp_eq (n := 722) (m := 1180) (show xlook 228 719 = some (719, .if_icmp .eq 461, 3, 1180, 0, 0, 0) from xlk (by decide +kernel)) rfl rfl q0 q1 ⟨fun c => ?_, fun c => ?_⟩
      · replace t := t.1 c
        refine xw_iinc (n := 1183) (show xlook 228 1180 = some (1180, .iinc 3 6, 3, 0, 0, 0, 0) from xlk (by decide +kernel)) rfl (ls' := [.ref xSC, .ref (0), .ref (131), vi (x3 + 6)]) rfl rfl ?_
        refine xw_goto (m := 18) (show xlook 228 1183 = some (1183, .goto (-1165), 3, 18, 0, 0, 0) from xlk (by decide +kernel)) rfl ?_
        exact t hG36
      · replace t := t.2 c
        refine xw_iconst (n := 723) (show xlook 228 722 = some (722, .iconst 0, 1, 0, 0, 0, 0) from xlk (by decide +kernel)) rfl ?_
        exact xw_zreturn hG36 (show xlook 228 723 = some (723, .ireturn, 1, 0, 0, 0, 0) from xlk (by decide +kernel)) rfl (by decide) (t hG36)
    · replace t := u18 e
      refine xw_tabIn (off := 691) (t := 724) (show xlook 228 33 = some (33, .tableswitch 1147 0 32 #[147, 210, 233, 256, 279, 302, 345, 358, 371, 394, 407, 440, 473, 506, 539, 572, 615, 648, 691, 704, 737, 760, 783, 796, 829, 862, 905, 928, 961, 984, 1007, 1030, 1124], 147, 0, 0, 0, 0) from xlk (by decide +kernel)) q1 hq (by show (#[147, 210, 233, 256, 279, 302, 345, 358, 371, 394, 407, 440, 473, 506, 539, 572, 615, 648, 691, 704, 737, 760, 783, 796, 829, 862, 905, 928, 961, 984, 1007, 1030, 1124] : Array Int)[((xand (xsc X (x3)) (63) : Int) - (0)).toNat]? = some (691); rw [e]; rfl) rfl ?_
      refine xw_aload_n (n := 725) (show xlook 228 724 = some (724, .aload_n 1, 1, 0, 0, 0, 0) from xlk (by decide +kernel)) rfl rfl ?_
      obtain ⟨j37, hj37, rr37, G37, hm37, hG37, t⟩ := t
      obtain ⟨y37, rfl, t⟩ := t
      refine xw_callv (dk := j37) (o := 0) (as := []) (show xlook 228 725 = some (725, .invokevirtual 90, 3, 112, 1, 0, 249) from xlk (by decide +kernel)) (by decide) hj37 ⟨Nat.le_of_ble_eq_true rfl, Nat.le_of_ble_eq_true rfl, Nat.le_of_ble_eq_true rfl⟩ ⟨xob_11.1, xob_11.2, by decide⟩ rfl hm37 (n := 728) rfl ?_
      show xW X d 228 728 [.ref xSC, .ref (0), .ref (131), vi (x3)] [vi (y37)] G37 (xqi Q)
      refine xw_aload_n (n := 729) (show xlook 228 728 = some (728, .aload_n 2, 1, 0, 0, 0, 0) from xlk (by decide +kernel)) rfl rfl ?_
      obtain ⟨j38, hj38, rr38, G38, hm38, hG38, t⟩ := t
      obtain ⟨y38, rfl, t⟩ := t
      refine xw_callv (dk := j38) (o := 131) (as := []) (show xlook 228 729 = some (729, .invokevirtual 93, 3, 199, 1, 0, 250) from xlk (by decide +kernel)) (by decide) hj38 ⟨Nat.le_of_ble_eq_true rfl, Nat.le_of_ble_eq_true rfl, Nat.le_of_ble_eq_true rfl⟩ ⟨xob_12.1, xob_12.2, by decide⟩ rfl hm38 (n := 732) rfl ?_
      show xW X d 228 732 [.ref xSC, .ref (0), .ref (131), vi (x3)] [vi (y38), vi (y37)] G38 (xqi Q)
      obtain ⟨q0, q1, t⟩ := t
      refine xw_icmp_eq (n := 735) (m := 1180) (show xlook 228 732 = some (732, .if_icmp .eq 448, 3, 1180, 0, 0, 0) from xlk (by decide +kernel)) rfl rfl q0 q1 ⟨fun c => ?_, fun c => ?_⟩
      · replace t := t.1 c
        refine xw_iinc (n := 1183) (show xlook 228 1180 = some (1180, .iinc 3 6, 3, 0, 0, 0, 0) from xlk (by decide +kernel)) rfl (ls' := [.ref xSC, .ref (0), .ref (131), vi (x3 + 6)]) rfl rfl ?_
        refine xw_goto (m := 18) (show xlook 228 1183 = some (1183, .goto (-1165), 3, 18, 0, 0, 0) from xlk (by decide +kernel)) rfl ?_
        exact t hG38
      · replace t := t.2 c
        refine xw_iconst (n := 736) (show xlook 228 735 = some (735, .iconst 0, 1, 0, 0, 0, 0) from xlk (by decide +kernel)) rfl ?_
        exact xw_zreturn hG38 (show xlook 228 736 = some (736, .ireturn, 1, 0, 0, 0, 0) from xlk (by decide +kernel)) rfl (by decide) (t hG38)
    · replace t := u19 e
      refine xw_tabIn (off := 704) (t := 737) (show xlook 228 33 = some (33, .tableswitch 1147 0 32 #[147, 210, 233, 256, 279, 302, 345, 358, 371, 394, 407, 440, 473, 506, 539, 572, 615, 648, 691, 704, 737, 760, 783, 796, 829, 862, 905, 928, 961, 984, 1007, 1030, 1124], 147, 0, 0, 0, 0) from xlk (by decide +kernel)) q1 hq (by show (#[147, 210, 233, 256, 279, 302, 345, 358, 371, 394, 407, 440, 473, 506, 539, 572, 615, 648, 691, 704, 737, 760, 783, 796, 829, 862, 905, 928, 961, 984, 1007, 1030, 1124] : Array Int)[((xand (xsc X (x3)) (63) : Int) - (0)).toNat]? = some (704); rw [e]; rfl) rfl ?_
      refine xw_aload_n (n := 738) (show xlook 228 737 = some (737, .aload_n 1, 1, 0, 0, 0, 0) from xlk (by decide +kernel)) rfl rfl ?_
      refine xw_aload_n (n := 739) (show xlook 228 738 = some (738, .aload_n 0, 1, 0, 0, 0, 0) from xlk (by decide +kernel)) rfl rfl ?_
      refine xw_iload_n (n := 740) (show xlook 228 739 = some (739, .iload_n 3, 1, 0, 0, 0, 0) from xlk (by decide +kernel)) rfl rfl ?_
      refine xw_iconst (n := 741) (show xlook 228 740 = some (740, .iconst 1, 1, 0, 0, 0, 0) from xlk (by decide +kernel)) rfl ?_
      refine xw_iadd (n := 742) (show xlook 228 741 = some (741, .iadd, 1, 0, 0, 0, 0) from xlk (by decide +kernel)) rfl ?_
      obtain ⟨q1, t⟩ := t
      refine xw_sald (show xlook 228 742 = some (742, .iaload, 1, 0, 0, 0, 0) from xlk (by decide +kernel)) hX q1 (n := 743) rfl ?_
      refine xw_aload_n (n := 744) (show xlook 228 743 = some (743, .aload_n 0, 1, 0, 0, 0, 0) from xlk (by decide +kernel)) rfl rfl ?_
      refine xw_iload_n (n := 745) (show xlook 228 744 = some (744, .iload_n 3, 1, 0, 0, 0, 0) from xlk (by decide +kernel)) rfl rfl ?_
      refine xw_iconst (n := 746) (show xlook 228 745 = some (745, .iconst 2, 1, 0, 0, 0, 0) from xlk (by decide +kernel)) rfl ?_
      refine xw_iadd (n := 747) (show xlook 228 746 = some (746, .iadd, 1, 0, 0, 0, 0) from xlk (by decide +kernel)) rfl ?_
      obtain ⟨q1, t⟩ := t
      refine xw_sald (show xlook 228 747 = some (747, .iaload, 1, 0, 0, 0, 0) from xlk (by decide +kernel)) hX q1 (n := 748) rfl ?_
      obtain ⟨j39, hj39, rr39, G39, hm39, hG39, t⟩ := t
      obtain ⟨y39, rfl, t⟩ := t
      refine xw_callv (dk := j39) (o := 0) (as := [vi (xsc X ((x3) + (1))), vi (xsc X ((x3) + (2)))]) (show xlook 228 748 = some (748, .invokevirtual 94, 3, 113, 3, 0, 251) from xlk (by decide +kernel)) (by decide) hj39 ⟨Nat.le_of_ble_eq_true rfl, Nat.le_of_ble_eq_true rfl, Nat.le_of_ble_eq_true rfl⟩ ⟨xob_11.1, xob_11.2, by decide⟩ rfl hm39 (n := 751) rfl ?_
      show xW X d 228 751 [.ref xSC, .ref (0), .ref (131), vi (x3)] [vi (y39)] G39 (xqi Q)
      refine xw_aload_n (n := 752) (show xlook 228 751 = some (751, .aload_n 2, 1, 0, 0, 0, 0) from xlk (by decide +kernel)) rfl rfl ?_
      refine xw_aload_n (n := 753) (show xlook 228 752 = some (752, .aload_n 0, 1, 0, 0, 0, 0) from xlk (by decide +kernel)) rfl rfl ?_
      refine xw_iload_n (n := 754) (show xlook 228 753 = some (753, .iload_n 3, 1, 0, 0, 0, 0) from xlk (by decide +kernel)) rfl rfl ?_
      refine xw_iconst (n := 755) (show xlook 228 754 = some (754, .iconst 1, 1, 0, 0, 0, 0) from xlk (by decide +kernel)) rfl ?_
      refine xw_iadd (n := 756) (show xlook 228 755 = some (755, .iadd, 1, 0, 0, 0, 0) from xlk (by decide +kernel)) rfl ?_
      obtain ⟨q1, t⟩ := t
      refine xw_sald (show xlook 228 756 = some (756, .iaload, 1, 0, 0, 0, 0) from xlk (by decide +kernel)) hX q1 (n := 757) rfl ?_
      refine xw_aload_n (n := 758) (show xlook 228 757 = some (757, .aload_n 0, 1, 0, 0, 0, 0) from xlk (by decide +kernel)) rfl rfl ?_
      refine xw_iload_n (n := 759) (show xlook 228 758 = some (758, .iload_n 3, 1, 0, 0, 0, 0) from xlk (by decide +kernel)) rfl rfl ?_
      refine xw_iconst (n := 760) (show xlook 228 759 = some (759, .iconst 2, 1, 0, 0, 0, 0) from xlk (by decide +kernel)) rfl ?_
      refine xw_iadd (n := 761) (show xlook 228 760 = some (760, .iadd, 1, 0, 0, 0, 0) from xlk (by decide +kernel)) rfl ?_
      obtain ⟨q1, t⟩ := t
      refine xw_sald (show xlook 228 761 = some (761, .iaload, 1, 0, 0, 0, 0) from xlk (by decide +kernel)) hX q1 (n := 762) rfl ?_
      obtain ⟨j40, hj40, rr40, G40, hm40, hG40, t⟩ := t
      obtain ⟨y40, rfl, t⟩ := t
      refine xw_callv (dk := j40) (o := 131) (as := [vi (xsc X ((x3) + (1))), vi (xsc X ((x3) + (2)))]) (show xlook 228 762 = some (762, .invokevirtual 97, 3, 201, 3, 0, 252) from xlk (by decide +kernel)) (by decide) hj40 ⟨Nat.le_of_ble_eq_true rfl, Nat.le_of_ble_eq_true rfl, Nat.le_of_ble_eq_true rfl⟩ ⟨xob_12.1, xob_12.2, by decide⟩ rfl hm40 (n := 765) rfl ?_
      show xW X d 228 765 [.ref xSC, .ref (0), .ref (131), vi (x3)] [vi (y40), vi (y39)] G40 (xqi Q)
      obtain ⟨q0, q1, t⟩ := t
      refine xw_icmp_eq (n := 768) (m := 1180) (show xlook 228 765 = some (765, .if_icmp .eq 415, 3, 1180, 0, 0, 0) from xlk (by decide +kernel)) rfl rfl q0 q1 ⟨fun c => ?_, fun c => ?_⟩
      · replace t := t.1 c
        refine xw_iinc (n := 1183) (show xlook 228 1180 = some (1180, .iinc 3 6, 3, 0, 0, 0, 0) from xlk (by decide +kernel)) rfl (ls' := [.ref xSC, .ref (0), .ref (131), vi (x3 + 6)]) rfl rfl ?_
        refine xw_goto (m := 18) (show xlook 228 1183 = some (1183, .goto (-1165), 3, 18, 0, 0, 0) from xlk (by decide +kernel)) rfl ?_
        exact t hG40
      · replace t := t.2 c
        refine xw_iconst (n := 769) (show xlook 228 768 = some (768, .iconst 0, 1, 0, 0, 0, 0) from xlk (by decide +kernel)) rfl ?_
        exact xw_zreturn hG40 (show xlook 228 769 = some (769, .ireturn, 1, 0, 0, 0, 0) from xlk (by decide +kernel)) rfl (by decide) (t hG40)
    · replace t := u20 e
      refine xw_tabIn (off := 737) (t := 770) (show xlook 228 33 = some (33, .tableswitch 1147 0 32 #[147, 210, 233, 256, 279, 302, 345, 358, 371, 394, 407, 440, 473, 506, 539, 572, 615, 648, 691, 704, 737, 760, 783, 796, 829, 862, 905, 928, 961, 984, 1007, 1030, 1124], 147, 0, 0, 0, 0) from xlk (by decide +kernel)) q1 hq (by show (#[147, 210, 233, 256, 279, 302, 345, 358, 371, 394, 407, 440, 473, 506, 539, 572, 615, 648, 691, 704, 737, 760, 783, 796, 829, 862, 905, 928, 961, 984, 1007, 1030, 1124] : Array Int)[((xand (xsc X (x3)) (63) : Int) - (0)).toNat]? = some (737); rw [e]; rfl) rfl ?_
      refine xw_aload_n (n := 771) (show xlook 228 770 = some (770, .aload_n 1, 1, 0, 0, 0, 0) from xlk (by decide +kernel)) rfl rfl ?_
      refine xw_aload_n (n := 772) (show xlook 228 771 = some (771, .aload_n 0, 1, 0, 0, 0, 0) from xlk (by decide +kernel)) rfl rfl ?_
      refine xw_iload_n (n := 773) (show xlook 228 772 = some (772, .iload_n 3, 1, 0, 0, 0, 0) from xlk (by decide +kernel)) rfl rfl ?_
      refine xw_iconst (n := 774) (show xlook 228 773 = some (773, .iconst 1, 1, 0, 0, 0, 0) from xlk (by decide +kernel)) rfl ?_
      refine xw_iadd (n := 775) (show xlook 228 774 = some (774, .iadd, 1, 0, 0, 0, 0) from xlk (by decide +kernel)) rfl ?_
      obtain ⟨q1, t⟩ := t
      refine xw_sald (show xlook 228 775 = some (775, .iaload, 1, 0, 0, 0, 0) from xlk (by decide +kernel)) hX q1 (n := 776) rfl ?_
      obtain ⟨j41, hj41, rr41, G41, hm41, hG41, t⟩ := t
      obtain ⟨y41, rfl, t⟩ := t
      refine xw_callv (dk := j41) (o := 0) (as := [vi (xsc X ((x3) + (1)))]) (show xlook 228 776 = some (776, .invokevirtual 98, 3, 114, 2, 0, 253) from xlk (by decide +kernel)) (by decide) hj41 ⟨Nat.le_of_ble_eq_true rfl, Nat.le_of_ble_eq_true rfl, Nat.le_of_ble_eq_true rfl⟩ ⟨xob_11.1, xob_11.2, by decide⟩ rfl hm41 (n := 779) rfl ?_
      show xW X d 228 779 [.ref xSC, .ref (0), .ref (131), vi (x3)] [vi (y41)] G41 (xqi Q)
      refine xw_aload_n (n := 780) (show xlook 228 779 = some (779, .aload_n 2, 1, 0, 0, 0, 0) from xlk (by decide +kernel)) rfl rfl ?_
      refine xw_aload_n (n := 781) (show xlook 228 780 = some (780, .aload_n 0, 1, 0, 0, 0, 0) from xlk (by decide +kernel)) rfl rfl ?_
      refine xw_iload_n (n := 782) (show xlook 228 781 = some (781, .iload_n 3, 1, 0, 0, 0, 0) from xlk (by decide +kernel)) rfl rfl ?_
      refine xw_iconst (n := 783) (show xlook 228 782 = some (782, .iconst 1, 1, 0, 0, 0, 0) from xlk (by decide +kernel)) rfl ?_
      refine xw_iadd (n := 784) (show xlook 228 783 = some (783, .iadd, 1, 0, 0, 0, 0) from xlk (by decide +kernel)) rfl ?_
      obtain ⟨q1, t⟩ := t
      refine xw_sald (show xlook 228 784 = some (784, .iaload, 1, 0, 0, 0, 0) from xlk (by decide +kernel)) hX q1 (n := 785) rfl ?_
      obtain ⟨j42, hj42, rr42, G42, hm42, hG42, t⟩ := t
      obtain ⟨y42, rfl, t⟩ := t
      refine xw_callv (dk := j42) (o := 131) (as := [vi (xsc X ((x3) + (1)))]) (show xlook 228 785 = some (785, .invokevirtual 101, 3, 202, 2, 0, 254) from xlk (by decide +kernel)) (by decide) hj42 ⟨Nat.le_of_ble_eq_true rfl, Nat.le_of_ble_eq_true rfl, Nat.le_of_ble_eq_true rfl⟩ ⟨xob_12.1, xob_12.2, by decide⟩ rfl hm42 (n := 788) rfl ?_
      show xW X d 228 788 [.ref xSC, .ref (0), .ref (131), vi (x3)] [vi (y42), vi (y41)] G42 (xqi Q)
      obtain ⟨q0, q1, t⟩ := t
      refine xw_icmp_eq (n := 791) (m := 1180) (show xlook 228 788 = some (788, .if_icmp .eq 392, 3, 1180, 0, 0, 0) from xlk (by decide +kernel)) rfl rfl q0 q1 ⟨fun c => ?_, fun c => ?_⟩
      · replace t := t.1 c
        refine xw_iinc (n := 1183) (show xlook 228 1180 = some (1180, .iinc 3 6, 3, 0, 0, 0, 0) from xlk (by decide +kernel)) rfl (ls' := [.ref xSC, .ref (0), .ref (131), vi (x3 + 6)]) rfl rfl ?_
        refine xw_goto (m := 18) (show xlook 228 1183 = some (1183, .goto (-1165), 3, 18, 0, 0, 0) from xlk (by decide +kernel)) rfl ?_
        exact t hG42
      · replace t := t.2 c
        refine xw_iconst (n := 792) (show xlook 228 791 = some (791, .iconst 0, 1, 0, 0, 0, 0) from xlk (by decide +kernel)) rfl ?_
        exact xw_zreturn hG42 (show xlook 228 792 = some (792, .ireturn, 1, 0, 0, 0, 0) from xlk (by decide +kernel)) rfl (by decide) (t hG42)
    · replace t := u21 e
      refine xw_tabIn (off := 760) (t := 793) (show xlook 228 33 = some (33, .tableswitch 1147 0 32 #[147, 210, 233, 256, 279, 302, 345, 358, 371, 394, 407, 440, 473, 506, 539, 572, 615, 648, 691, 704, 737, 760, 783, 796, 829, 862, 905, 928, 961, 984, 1007, 1030, 1124], 147, 0, 0, 0, 0) from xlk (by decide +kernel)) q1 hq (by show (#[147, 210, 233, 256, 279, 302, 345, 358, 371, 394, 407, 440, 473, 506, 539, 572, 615, 648, 691, 704, 737, 760, 783, 796, 829, 862, 905, 928, 961, 984, 1007, 1030, 1124] : Array Int)[((xand (xsc X (x3)) (63) : Int) - (0)).toNat]? = some (760); rw [e]; rfl) rfl ?_
      refine xw_aload_n (n := 794) (show xlook 228 793 = some (793, .aload_n 1, 1, 0, 0, 0, 0) from xlk (by decide +kernel)) rfl rfl ?_
      refine xw_aload_n (n := 795) (show xlook 228 794 = some (794, .aload_n 0, 1, 0, 0, 0, 0) from xlk (by decide +kernel)) rfl rfl ?_
      refine xw_iload_n (n := 796) (show xlook 228 795 = some (795, .iload_n 3, 1, 0, 0, 0, 0) from xlk (by decide +kernel)) rfl rfl ?_
      refine xw_iconst (n := 797) (show xlook 228 796 = some (796, .iconst 1, 1, 0, 0, 0, 0) from xlk (by decide +kernel)) rfl ?_
      refine xw_iadd (n := 798) (show xlook 228 797 = some (797, .iadd, 1, 0, 0, 0, 0) from xlk (by decide +kernel)) rfl ?_
      obtain ⟨q1, t⟩ := t
      refine xw_sald (show xlook 228 798 = some (798, .iaload, 1, 0, 0, 0, 0) from xlk (by decide +kernel)) hX q1 (n := 799) rfl ?_
      obtain ⟨j43, hj43, rr43, G43, hm43, hG43, t⟩ := t
      obtain ⟨y43, rfl, t⟩ := t
      refine xw_callv (dk := j43) (o := 0) (as := [vi (xsc X ((x3) + (1)))]) (show xlook 228 799 = some (799, .invokevirtual 102, 3, 115, 2, 0, 255) from xlk (by decide +kernel)) (by decide) hj43 ⟨Nat.le_of_ble_eq_true rfl, Nat.le_of_ble_eq_true rfl, Nat.le_of_ble_eq_true rfl⟩ ⟨xob_11.1, xob_11.2, by decide⟩ rfl hm43 (n := 802) rfl ?_
      show xW X d 228 802 [.ref xSC, .ref (0), .ref (131), vi (x3)] [vi (y43)] G43 (xqi Q)
      refine xw_aload_n (n := 803) (show xlook 228 802 = some (802, .aload_n 2, 1, 0, 0, 0, 0) from xlk (by decide +kernel)) rfl rfl ?_
      refine xw_aload_n (n := 804) (show xlook 228 803 = some (803, .aload_n 0, 1, 0, 0, 0, 0) from xlk (by decide +kernel)) rfl rfl ?_
      refine xw_iload_n (n := 805) (show xlook 228 804 = some (804, .iload_n 3, 1, 0, 0, 0, 0) from xlk (by decide +kernel)) rfl rfl ?_
      refine xw_iconst (n := 806) (show xlook 228 805 = some (805, .iconst 1, 1, 0, 0, 0, 0) from xlk (by decide +kernel)) rfl ?_
      refine xw_iadd (n := 807) (show xlook 228 806 = some (806, .iadd, 1, 0, 0, 0, 0) from xlk (by decide +kernel)) rfl ?_
      obtain ⟨q1, t⟩ := t
      refine xw_sald (show xlook 228 807 = some (807, .iaload, 1, 0, 0, 0, 0) from xlk (by decide +kernel)) hX q1 (n := 808) rfl ?_
      obtain ⟨j44, hj44, rr44, G44, hm44, hG44, t⟩ := t
      obtain ⟨y44, rfl, t⟩ := t
      refine xw_callv (dk := j44) (o := 131) (as := [vi (xsc X ((x3) + (1)))]) (show xlook 228 808 = some (808, .invokevirtual 105, 3, 203, 2, 0, 256) from xlk (by decide +kernel)) (by decide) hj44 ⟨Nat.le_of_ble_eq_true rfl, Nat.le_of_ble_eq_true rfl, Nat.le_of_ble_eq_true rfl⟩ ⟨xob_12.1, xob_12.2, by decide⟩ rfl hm44 (n := 811) rfl ?_
      show xW X d 228 811 [.ref xSC, .ref (0), .ref (131), vi (x3)] [vi (y44), vi (y43)] G44 (xqi Q)
      obtain ⟨q0, q1, t⟩ := t
      refine xw_icmp_eq (n := 814) (m := 1180) (show xlook 228 811 = some (811, .if_icmp .eq 369, 3, 1180, 0, 0, 0) from xlk (by decide +kernel)) rfl rfl q0 q1 ⟨fun c => ?_, fun c => ?_⟩
      · replace t := t.1 c
        refine xw_iinc (n := 1183) (show xlook 228 1180 = some (1180, .iinc 3 6, 3, 0, 0, 0, 0) from xlk (by decide +kernel)) rfl (ls' := [.ref xSC, .ref (0), .ref (131), vi (x3 + 6)]) rfl rfl ?_
        refine xw_goto (m := 18) (show xlook 228 1183 = some (1183, .goto (-1165), 3, 18, 0, 0, 0) from xlk (by decide +kernel)) rfl ?_
        exact t hG44
      · replace t := t.2 c
        refine xw_iconst (n := 815) (show xlook 228 814 = some (814, .iconst 0, 1, 0, 0, 0, 0) from xlk (by decide +kernel)) rfl ?_
        exact xw_zreturn hG44 (show xlook 228 815 = some (815, .ireturn, 1, 0, 0, 0, 0) from xlk (by decide +kernel)) rfl (by decide) (t hG44)
    · replace t := u22 e
      refine xw_tabIn (off := 783) (t := 816) (show xlook 228 33 = some (33, .tableswitch 1147 0 32 #[147, 210, 233, 256, 279, 302, 345, 358, 371, 394, 407, 440, 473, 506, 539, 572, 615, 648, 691, 704, 737, 760, 783, 796, 829, 862, 905, 928, 961, 984, 1007, 1030, 1124], 147, 0, 0, 0, 0) from xlk (by decide +kernel)) q1 hq (by show (#[147, 210, 233, 256, 279, 302, 345, 358, 371, 394, 407, 440, 473, 506, 539, 572, 615, 648, 691, 704, 737, 760, 783, 796, 829, 862, 905, 928, 961, 984, 1007, 1030, 1124] : Array Int)[((xand (xsc X (x3)) (63) : Int) - (0)).toNat]? = some (783); rw [e]; rfl) rfl ?_
      refine xw_aload_n (n := 817) (show xlook 228 816 = some (816, .aload_n 1, 1, 0, 0, 0, 0) from xlk (by decide +kernel)) rfl rfl ?_
      obtain ⟨j45, hj45, rr45, G45, hm45, hG45, t⟩ := t
      obtain ⟨y45, rfl, t⟩ := t
      refine xw_callv (dk := j45) (o := 0) (as := []) (show xlook 228 817 = some (817, .invokevirtual 106, 3, 116, 1, 0, 257) from xlk (by decide +kernel)) (by decide) hj45 ⟨Nat.le_of_ble_eq_true rfl, Nat.le_of_ble_eq_true rfl, Nat.le_of_ble_eq_true rfl⟩ ⟨xob_11.1, xob_11.2, by decide⟩ rfl hm45 (n := 820) rfl ?_
      show xW X d 228 820 [.ref xSC, .ref (0), .ref (131), vi (x3)] [vi (y45)] G45 (xqi Q)
      refine xw_aload_n (n := 821) (show xlook 228 820 = some (820, .aload_n 2, 1, 0, 0, 0, 0) from xlk (by decide +kernel)) rfl rfl ?_
      obtain ⟨j46, hj46, rr46, G46, hm46, hG46, t⟩ := t
      obtain ⟨y46, rfl, t⟩ := t
      refine xw_callv (dk := j46) (o := 131) (as := []) (show xlook 228 821 = some (821, .invokevirtual 109, 3, 205, 1, 0, 258) from xlk (by decide +kernel)) (by decide) hj46 ⟨Nat.le_of_ble_eq_true rfl, Nat.le_of_ble_eq_true rfl, Nat.le_of_ble_eq_true rfl⟩ ⟨xob_12.1, xob_12.2, by decide⟩ rfl hm46 (n := 824) rfl ?_
      show xW X d 228 824 [.ref xSC, .ref (0), .ref (131), vi (x3)] [vi (y46), vi (y45)] G46 (xqi Q)
      obtain ⟨q0, q1, t⟩ := t
      refine xw_icmp_eq (n := 827) (m := 1180) (show xlook 228 824 = some (824, .if_icmp .eq 356, 3, 1180, 0, 0, 0) from xlk (by decide +kernel)) rfl rfl q0 q1 ⟨fun c => ?_, fun c => ?_⟩
      · replace t := t.1 c
        refine xw_iinc (n := 1183) (show xlook 228 1180 = some (1180, .iinc 3 6, 3, 0, 0, 0, 0) from xlk (by decide +kernel)) rfl (ls' := [.ref xSC, .ref (0), .ref (131), vi (x3 + 6)]) rfl rfl ?_
        refine xw_goto (m := 18) (show xlook 228 1183 = some (1183, .goto (-1165), 3, 18, 0, 0, 0) from xlk (by decide +kernel)) rfl ?_
        exact t hG46
      · replace t := t.2 c
        refine xw_iconst (n := 828) (show xlook 228 827 = some (827, .iconst 0, 1, 0, 0, 0, 0) from xlk (by decide +kernel)) rfl ?_
        exact xw_zreturn hG46 (show xlook 228 828 = some (828, .ireturn, 1, 0, 0, 0, 0) from xlk (by decide +kernel)) rfl (by decide) (t hG46)
    · replace t := u23 e
      refine xw_tabIn (off := 796) (t := 829) (show xlook 228 33 = some (33, .tableswitch 1147 0 32 #[147, 210, 233, 256, 279, 302, 345, 358, 371, 394, 407, 440, 473, 506, 539, 572, 615, 648, 691, 704, 737, 760, 783, 796, 829, 862, 905, 928, 961, 984, 1007, 1030, 1124], 147, 0, 0, 0, 0) from xlk (by decide +kernel)) q1 hq (by show (#[147, 210, 233, 256, 279, 302, 345, 358, 371, 394, 407, 440, 473, 506, 539, 572, 615, 648, 691, 704, 737, 760, 783, 796, 829, 862, 905, 928, 961, 984, 1007, 1030, 1124] : Array Int)[((xand (xsc X (x3)) (63) : Int) - (0)).toNat]? = some (796); rw [e]; rfl) rfl ?_
      refine xw_aload_n (n := 830) (show xlook 228 829 = some (829, .aload_n 1, 1, 0, 0, 0, 0) from xlk (by decide +kernel)) rfl rfl ?_
      refine xw_aload_n (n := 831) (show xlook 228 830 = some (830, .aload_n 0, 1, 0, 0, 0, 0) from xlk (by decide +kernel)) rfl rfl ?_
      refine xw_iload_n (n := 832) (show xlook 228 831 = some (831, .iload_n 3, 1, 0, 0, 0, 0) from xlk (by decide +kernel)) rfl rfl ?_
      refine xw_iconst (n := 833) (show xlook 228 832 = some (832, .iconst 1, 1, 0, 0, 0, 0) from xlk (by decide +kernel)) rfl ?_
      refine xw_iadd (n := 834) (show xlook 228 833 = some (833, .iadd, 1, 0, 0, 0, 0) from xlk (by decide +kernel)) rfl ?_
      obtain ⟨q1, t⟩ := t
      refine xw_sald (show xlook 228 834 = some (834, .iaload, 1, 0, 0, 0, 0) from xlk (by decide +kernel)) hX q1 (n := 835) rfl ?_
      refine xw_aload_n (n := 836) (show xlook 228 835 = some (835, .aload_n 0, 1, 0, 0, 0, 0) from xlk (by decide +kernel)) rfl rfl ?_
      refine xw_iload_n (n := 837) (show xlook 228 836 = some (836, .iload_n 3, 1, 0, 0, 0, 0) from xlk (by decide +kernel)) rfl rfl ?_
      refine xw_iconst (n := 838) (show xlook 228 837 = some (837, .iconst 2, 1, 0, 0, 0, 0) from xlk (by decide +kernel)) rfl ?_
      refine xw_iadd (n := 839) (show xlook 228 838 = some (838, .iadd, 1, 0, 0, 0, 0) from xlk (by decide +kernel)) rfl ?_
      obtain ⟨q1, t⟩ := t
      refine xw_sald (show xlook 228 839 = some (839, .iaload, 1, 0, 0, 0, 0) from xlk (by decide +kernel)) hX q1 (n := 840) rfl ?_
      obtain ⟨j47, hj47, rr47, G47, hm47, hG47, t⟩ := t
      obtain ⟨y47, rfl, t⟩ := t
      refine xw_callv (dk := j47) (o := 0) (as := [vi (xsc X ((x3) + (1))), vi (xsc X ((x3) + (2)))]) (show xlook 228 840 = some (840, .invokevirtual 110, 3, 117, 3, 0, 259) from xlk (by decide +kernel)) (by decide) hj47 ⟨Nat.le_of_ble_eq_true rfl, Nat.le_of_ble_eq_true rfl, Nat.le_of_ble_eq_true rfl⟩ ⟨xob_11.1, xob_11.2, by decide⟩ rfl hm47 (n := 843) rfl ?_
      show xW X d 228 843 [.ref xSC, .ref (0), .ref (131), vi (x3)] [vi (y47)] G47 (xqi Q)
      refine xw_aload_n (n := 844) (show xlook 228 843 = some (843, .aload_n 2, 1, 0, 0, 0, 0) from xlk (by decide +kernel)) rfl rfl ?_
      refine xw_aload_n (n := 845) (show xlook 228 844 = some (844, .aload_n 0, 1, 0, 0, 0, 0) from xlk (by decide +kernel)) rfl rfl ?_
      refine xw_iload_n (n := 846) (show xlook 228 845 = some (845, .iload_n 3, 1, 0, 0, 0, 0) from xlk (by decide +kernel)) rfl rfl ?_
      refine xw_iconst (n := 847) (show xlook 228 846 = some (846, .iconst 1, 1, 0, 0, 0, 0) from xlk (by decide +kernel)) rfl ?_
      refine xw_iadd (n := 848) (show xlook 228 847 = some (847, .iadd, 1, 0, 0, 0, 0) from xlk (by decide +kernel)) rfl ?_
      obtain ⟨q1, t⟩ := t
      refine xw_sald (show xlook 228 848 = some (848, .iaload, 1, 0, 0, 0, 0) from xlk (by decide +kernel)) hX q1 (n := 849) rfl ?_
      refine xw_aload_n (n := 850) (show xlook 228 849 = some (849, .aload_n 0, 1, 0, 0, 0, 0) from xlk (by decide +kernel)) rfl rfl ?_
      refine xw_iload_n (n := 851) (show xlook 228 850 = some (850, .iload_n 3, 1, 0, 0, 0, 0) from xlk (by decide +kernel)) rfl rfl ?_
      refine xw_iconst (n := 852) (show xlook 228 851 = some (851, .iconst 2, 1, 0, 0, 0, 0) from xlk (by decide +kernel)) rfl ?_
      refine xw_iadd (n := 853) (show xlook 228 852 = some (852, .iadd, 1, 0, 0, 0, 0) from xlk (by decide +kernel)) rfl ?_
      obtain ⟨q1, t⟩ := t
      refine xw_sald (show xlook 228 853 = some (853, .iaload, 1, 0, 0, 0, 0) from xlk (by decide +kernel)) hX q1 (n := 854) rfl ?_
      obtain ⟨j48, hj48, rr48, G48, hm48, hG48, t⟩ := t
      obtain ⟨y48, rfl, t⟩ := t
      refine xw_callv (dk := j48) (o := 131) (as := [vi (xsc X ((x3) + (1))), vi (xsc X ((x3) + (2)))]) (show xlook 228 854 = some (854, .invokevirtual 113, 3, 209, 3, 0, 260) from xlk (by decide +kernel)) (by decide) hj48 ⟨Nat.le_of_ble_eq_true rfl, Nat.le_of_ble_eq_true rfl, Nat.le_of_ble_eq_true rfl⟩ ⟨xob_12.1, xob_12.2, by decide⟩ rfl hm48 (n := 857) rfl ?_
      show xW X d 228 857 [.ref xSC, .ref (0), .ref (131), vi (x3)] [vi (y48), vi (y47)] G48 (xqi Q)
      obtain ⟨q0, q1, t⟩ := t
      refine xw_icmp_eq (n := 860) (m := 1180) (show xlook 228 857 = some (857, .if_icmp .eq 323, 3, 1180, 0, 0, 0) from xlk (by decide +kernel)) rfl rfl q0 q1 ⟨fun c => ?_, fun c => ?_⟩
      · replace t := t.1 c
        refine xw_iinc (n := 1183) (show xlook 228 1180 = some (1180, .iinc 3 6, 3, 0, 0, 0, 0) from xlk (by decide +kernel)) rfl (ls' := [.ref xSC, .ref (0), .ref (131), vi (x3 + 6)]) rfl rfl ?_
        refine xw_goto (m := 18) (show xlook 228 1183 = some (1183, .goto (-1165), 3, 18, 0, 0, 0) from xlk (by decide +kernel)) rfl ?_
        exact t hG48
      · replace t := t.2 c
        refine xw_iconst (n := 861) (show xlook 228 860 = some (860, .iconst 0, 1, 0, 0, 0, 0) from xlk (by decide +kernel)) rfl ?_
        exact xw_zreturn hG48 (show xlook 228 861 = some (861, .ireturn, 1, 0, 0, 0, 0) from xlk (by decide +kernel)) rfl (by decide) (t hG48)
    · replace t := u24 e
      refine xw_tabIn (off := 829) (t := 862) (show xlook 228 33 = some (33, .tableswitch 1147 0 32 #[147, 210, 233, 256, 279, 302, 345, 358, 371, 394, 407, 440, 473, 506, 539, 572, 615, 648, 691, 704, 737, 760, 783, 796, 829, 862, 905, 928, 961, 984, 1007, 1030, 1124], 147, 0, 0, 0, 0) from xlk (by decide +kernel)) q1 hq (by show (#[147, 210, 233, 256, 279, 302, 345, 358, 371, 394, 407, 440, 473, 506, 539, 572, 615, 648, 691, 704, 737, 760, 783, 796, 829, 862, 905, 928, 961, 984, 1007, 1030, 1124] : Array Int)[((xand (xsc X (x3)) (63) : Int) - (0)).toNat]? = some (829); rw [e]; rfl) rfl ?_
      refine xw_aload_n (n := 863) (show xlook 228 862 = some (862, .aload_n 1, 1, 0, 0, 0, 0) from xlk (by decide +kernel)) rfl rfl ?_
      refine xw_aload_n (n := 864) (show xlook 228 863 = some (863, .aload_n 0, 1, 0, 0, 0, 0) from xlk (by decide +kernel)) rfl rfl ?_
      refine xw_iload_n (n := 865) (show xlook 228 864 = some (864, .iload_n 3, 1, 0, 0, 0, 0) from xlk (by decide +kernel)) rfl rfl ?_
      refine xw_iconst (n := 866) (show xlook 228 865 = some (865, .iconst 1, 1, 0, 0, 0, 0) from xlk (by decide +kernel)) rfl ?_
      refine xw_iadd (n := 867) (show xlook 228 866 = some (866, .iadd, 1, 0, 0, 0, 0) from xlk (by decide +kernel)) rfl ?_
      obtain ⟨q1, t⟩ := t
      refine xw_sald (show xlook 228 867 = some (867, .iaload, 1, 0, 0, 0, 0) from xlk (by decide +kernel)) hX q1 (n := 868) rfl ?_
      refine xw_aload_n (n := 869) (show xlook 228 868 = some (868, .aload_n 0, 1, 0, 0, 0, 0) from xlk (by decide +kernel)) rfl rfl ?_
      refine xw_iload_n (n := 870) (show xlook 228 869 = some (869, .iload_n 3, 1, 0, 0, 0, 0) from xlk (by decide +kernel)) rfl rfl ?_
      refine xw_iconst (n := 871) (show xlook 228 870 = some (870, .iconst 2, 1, 0, 0, 0, 0) from xlk (by decide +kernel)) rfl ?_
      refine xw_iadd (n := 872) (show xlook 228 871 = some (871, .iadd, 1, 0, 0, 0, 0) from xlk (by decide +kernel)) rfl ?_
      obtain ⟨q1, t⟩ := t
      refine xw_sald (show xlook 228 872 = some (872, .iaload, 1, 0, 0, 0, 0) from xlk (by decide +kernel)) hX q1 (n := 873) rfl ?_
      obtain ⟨j49, hj49, rr49, G49, hm49, hG49, t⟩ := t
      obtain ⟨y49, rfl, t⟩ := t
      refine xw_callv (dk := j49) (o := 0) (as := [vi (xsc X ((x3) + (1))), vi (xsc X ((x3) + (2)))]) (show xlook 228 873 = some (873, .invokevirtual 114, 3, 118, 3, 0, 261) from xlk (by decide +kernel)) (by decide) hj49 ⟨Nat.le_of_ble_eq_true rfl, Nat.le_of_ble_eq_true rfl, Nat.le_of_ble_eq_true rfl⟩ ⟨xob_11.1, xob_11.2, by decide⟩ rfl hm49 (n := 876) rfl ?_
      show xW X d 228 876 [.ref xSC, .ref (0), .ref (131), vi (x3)] [vi (y49)] G49 (xqi Q)
      refine xw_aload_n (n := 877) (show xlook 228 876 = some (876, .aload_n 2, 1, 0, 0, 0, 0) from xlk (by decide +kernel)) rfl rfl ?_
      refine xw_aload_n (n := 878) (show xlook 228 877 = some (877, .aload_n 0, 1, 0, 0, 0, 0) from xlk (by decide +kernel)) rfl rfl ?_
      refine xw_iload_n (n := 879) (show xlook 228 878 = some (878, .iload_n 3, 1, 0, 0, 0, 0) from xlk (by decide +kernel)) rfl rfl ?_
      refine xw_iconst (n := 880) (show xlook 228 879 = some (879, .iconst 1, 1, 0, 0, 0, 0) from xlk (by decide +kernel)) rfl ?_
      refine xw_iadd (n := 881) (show xlook 228 880 = some (880, .iadd, 1, 0, 0, 0, 0) from xlk (by decide +kernel)) rfl ?_
      obtain ⟨q1, t⟩ := t
      refine xw_sald (show xlook 228 881 = some (881, .iaload, 1, 0, 0, 0, 0) from xlk (by decide +kernel)) hX q1 (n := 882) rfl ?_
      refine xw_aload_n (n := 883) (show xlook 228 882 = some (882, .aload_n 0, 1, 0, 0, 0, 0) from xlk (by decide +kernel)) rfl rfl ?_
      refine xw_iload_n (n := 884) (show xlook 228 883 = some (883, .iload_n 3, 1, 0, 0, 0, 0) from xlk (by decide +kernel)) rfl rfl ?_
      refine xw_iconst (n := 885) (show xlook 228 884 = some (884, .iconst 2, 1, 0, 0, 0, 0) from xlk (by decide +kernel)) rfl ?_
      refine xw_iadd (n := 886) (show xlook 228 885 = some (885, .iadd, 1, 0, 0, 0, 0) from xlk (by decide +kernel)) rfl ?_
      obtain ⟨q1, t⟩ := t
      refine xw_sald (show xlook 228 886 = some (886, .iaload, 1, 0, 0, 0, 0) from xlk (by decide +kernel)) hX q1 (n := 887) rfl ?_
      obtain ⟨j50, hj50, rr50, G50, hm50, hG50, t⟩ := t
      obtain ⟨y50, rfl, t⟩ := t
      refine xw_callv (dk := j50) (o := 131) (as := [vi (xsc X ((x3) + (1))), vi (xsc X ((x3) + (2)))]) (show xlook 228 887 = some (887, .invokevirtual 117, 3, 210, 3, 0, 262) from xlk (by decide +kernel)) (by decide) hj50 ⟨Nat.le_of_ble_eq_true rfl, Nat.le_of_ble_eq_true rfl, Nat.le_of_ble_eq_true rfl⟩ ⟨xob_12.1, xob_12.2, by decide⟩ rfl hm50 (n := 890) rfl ?_
      show xW X d 228 890 [.ref xSC, .ref (0), .ref (131), vi (x3)] [vi (y50), vi (y49)] G50 (xqi Q)
      obtain ⟨q0, q1, t⟩ := t
      refine xw_icmp_eq (n := 893) (m := 1180) (show xlook 228 890 = some (890, .if_icmp .eq 290, 3, 1180, 0, 0, 0) from xlk (by decide +kernel)) rfl rfl q0 q1 ⟨fun c => ?_, fun c => ?_⟩
      · replace t := t.1 c
        refine xw_iinc (n := 1183) (show xlook 228 1180 = some (1180, .iinc 3 6, 3, 0, 0, 0, 0) from xlk (by decide +kernel)) rfl (ls' := [.ref xSC, .ref (0), .ref (131), vi (x3 + 6)]) rfl rfl ?_
        refine xw_goto (m := 18) (show xlook 228 1183 = some (1183, .goto (-1165), 3, 18, 0, 0, 0) from xlk (by decide +kernel)) rfl ?_
        exact t hG50
      · replace t := t.2 c
        refine xw_iconst (n := 894) (show xlook 228 893 = some (893, .iconst 0, 1, 0, 0, 0, 0) from xlk (by decide +kernel)) rfl ?_
        exact xw_zreturn hG50 (show xlook 228 894 = some (894, .ireturn, 1, 0, 0, 0, 0) from xlk (by decide +kernel)) rfl (by decide) (t hG50)
    · replace t := u25 e
      refine xw_tabIn (off := 862) (t := 895) (show xlook 228 33 = some (33, .tableswitch 1147 0 32 #[147, 210, 233, 256, 279, 302, 345, 358, 371, 394, 407, 440, 473, 506, 539, 572, 615, 648, 691, 704, 737, 760, 783, 796, 829, 862, 905, 928, 961, 984, 1007, 1030, 1124], 147, 0, 0, 0, 0) from xlk (by decide +kernel)) q1 hq (by show (#[147, 210, 233, 256, 279, 302, 345, 358, 371, 394, 407, 440, 473, 506, 539, 572, 615, 648, 691, 704, 737, 760, 783, 796, 829, 862, 905, 928, 961, 984, 1007, 1030, 1124] : Array Int)[((xand (xsc X (x3)) (63) : Int) - (0)).toNat]? = some (862); rw [e]; rfl) rfl ?_
      refine xw_aload_n (n := 896) (show xlook 228 895 = some (895, .aload_n 1, 1, 0, 0, 0, 0) from xlk (by decide +kernel)) rfl rfl ?_
      refine xw_aload_n (n := 897) (show xlook 228 896 = some (896, .aload_n 0, 1, 0, 0, 0, 0) from xlk (by decide +kernel)) rfl rfl ?_
      refine xw_iload_n (n := 898) (show xlook 228 897 = some (897, .iload_n 3, 1, 0, 0, 0, 0) from xlk (by decide +kernel)) rfl rfl ?_
      refine xw_iconst (n := 899) (show xlook 228 898 = some (898, .iconst 1, 1, 0, 0, 0, 0) from xlk (by decide +kernel)) rfl ?_
      refine xw_iadd (n := 900) (show xlook 228 899 = some (899, .iadd, 1, 0, 0, 0, 0) from xlk (by decide +kernel)) rfl ?_
      obtain ⟨q1, t⟩ := t
      refine xw_sald (show xlook 228 900 = some (900, .iaload, 1, 0, 0, 0, 0) from xlk (by decide +kernel)) hX q1 (n := 901) rfl ?_
      refine xw_aload_n (n := 902) (show xlook 228 901 = some (901, .aload_n 0, 1, 0, 0, 0, 0) from xlk (by decide +kernel)) rfl rfl ?_
      refine xw_iload_n (n := 903) (show xlook 228 902 = some (902, .iload_n 3, 1, 0, 0, 0, 0) from xlk (by decide +kernel)) rfl rfl ?_
      refine xw_iconst (n := 904) (show xlook 228 903 = some (903, .iconst 2, 1, 0, 0, 0, 0) from xlk (by decide +kernel)) rfl ?_
      refine xw_iadd (n := 905) (show xlook 228 904 = some (904, .iadd, 1, 0, 0, 0, 0) from xlk (by decide +kernel)) rfl ?_
      obtain ⟨q1, t⟩ := t
      refine xw_sald (show xlook 228 905 = some (905, .iaload, 1, 0, 0, 0, 0) from xlk (by decide +kernel)) hX q1 (n := 906) rfl ?_
      refine xw_aload_n (n := 907) (show xlook 228 906 = some (906, .aload_n 0, 1, 0, 0, 0, 0) from xlk (by decide +kernel)) rfl rfl ?_
      refine xw_iload_n (n := 908) (show xlook 228 907 = some (907, .iload_n 3, 1, 0, 0, 0, 0) from xlk (by decide +kernel)) rfl rfl ?_
      refine xw_iconst (n := 909) (show xlook 228 908 = some (908, .iconst 3, 1, 0, 0, 0, 0) from xlk (by decide +kernel)) rfl ?_
      refine xw_iadd (n := 910) (show xlook 228 909 = some (909, .iadd, 1, 0, 0, 0, 0) from xlk (by decide +kernel)) rfl ?_
      obtain ⟨q1, t⟩ := t
      refine xw_sald (show xlook 228 910 = some (910, .iaload, 1, 0, 0, 0, 0) from xlk (by decide +kernel)) hX q1 (n := 911) rfl ?_
      obtain ⟨j51, hj51, rr51, G51, hm51, hG51, t⟩ := t
      obtain ⟨y51, rfl, t⟩ := t
      refine xw_callv (dk := j51) (o := 0) (as := [vi (xsc X ((x3) + (1))), vi (xsc X ((x3) + (2))), vi (xsc X ((x3) + (3)))]) (show xlook 228 911 = some (911, .invokevirtual 118, 3, 119, 4, 0, 263) from xlk (by decide +kernel)) (by decide) hj51 ⟨Nat.le_of_ble_eq_true rfl, Nat.le_of_ble_eq_true rfl, Nat.le_of_ble_eq_true rfl⟩ ⟨xob_11.1, xob_11.2, by decide⟩ rfl hm51 (n := 914) rfl ?_
      show xW X d 228 914 [.ref xSC, .ref (0), .ref (131), vi (x3)] [vi (y51)] G51 (xqi Q)
      refine xw_aload_n (n := 915) (show xlook 228 914 = some (914, .aload_n 2, 1, 0, 0, 0, 0) from xlk (by decide +kernel)) rfl rfl ?_
      refine xw_aload_n (n := 916) (show xlook 228 915 = some (915, .aload_n 0, 1, 0, 0, 0, 0) from xlk (by decide +kernel)) rfl rfl ?_
      refine xw_iload_n (n := 917) (show xlook 228 916 = some (916, .iload_n 3, 1, 0, 0, 0, 0) from xlk (by decide +kernel)) rfl rfl ?_
      refine xw_iconst (n := 918) (show xlook 228 917 = some (917, .iconst 1, 1, 0, 0, 0, 0) from xlk (by decide +kernel)) rfl ?_
      refine xw_iadd (n := 919) (show xlook 228 918 = some (918, .iadd, 1, 0, 0, 0, 0) from xlk (by decide +kernel)) rfl ?_
      obtain ⟨q1, t⟩ := t
      refine xw_sald (show xlook 228 919 = some (919, .iaload, 1, 0, 0, 0, 0) from xlk (by decide +kernel)) hX q1 (n := 920) rfl ?_
      refine xw_aload_n (n := 921) (show xlook 228 920 = some (920, .aload_n 0, 1, 0, 0, 0, 0) from xlk (by decide +kernel)) rfl rfl ?_
      refine xw_iload_n (n := 922) (show xlook 228 921 = some (921, .iload_n 3, 1, 0, 0, 0, 0) from xlk (by decide +kernel)) rfl rfl ?_
      refine xw_iconst (n := 923) (show xlook 228 922 = some (922, .iconst 2, 1, 0, 0, 0, 0) from xlk (by decide +kernel)) rfl ?_
      refine xw_iadd (n := 924) (show xlook 228 923 = some (923, .iadd, 1, 0, 0, 0, 0) from xlk (by decide +kernel)) rfl ?_
      obtain ⟨q1, t⟩ := t
      refine xw_sald (show xlook 228 924 = some (924, .iaload, 1, 0, 0, 0, 0) from xlk (by decide +kernel)) hX q1 (n := 925) rfl ?_
      refine xw_aload_n (n := 926) (show xlook 228 925 = some (925, .aload_n 0, 1, 0, 0, 0, 0) from xlk (by decide +kernel)) rfl rfl ?_
      refine xw_iload_n (n := 927) (show xlook 228 926 = some (926, .iload_n 3, 1, 0, 0, 0, 0) from xlk (by decide +kernel)) rfl rfl ?_
      refine xw_iconst (n := 928) (show xlook 228 927 = some (927, .iconst 3, 1, 0, 0, 0, 0) from xlk (by decide +kernel)) rfl ?_
      refine xw_iadd (n := 929) (show xlook 228 928 = some (928, .iadd, 1, 0, 0, 0, 0) from xlk (by decide +kernel)) rfl ?_
      obtain ⟨q1, t⟩ := t
      refine xw_sald (show xlook 228 929 = some (929, .iaload, 1, 0, 0, 0, 0) from xlk (by decide +kernel)) hX q1 (n := 930) rfl ?_
      obtain ⟨j52, hj52, rr52, G52, hm52, hG52, t⟩ := t
      obtain ⟨y52, rfl, t⟩ := t
      refine xw_callv (dk := j52) (o := 131) (as := [vi (xsc X ((x3) + (1))), vi (xsc X ((x3) + (2))), vi (xsc X ((x3) + (3)))]) (show xlook 228 930 = some (930, .invokevirtual 121, 3, 218, 4, 0, 264) from xlk (by decide +kernel)) (by decide) hj52 ⟨Nat.le_of_ble_eq_true rfl, Nat.le_of_ble_eq_true rfl, Nat.le_of_ble_eq_true rfl⟩ ⟨xob_12.1, xob_12.2, by decide⟩ rfl hm52 (n := 933) rfl ?_
      show xW X d 228 933 [.ref xSC, .ref (0), .ref (131), vi (x3)] [vi (y52), vi (y51)] G52 (xqi Q)
      obtain ⟨q0, q1, t⟩ := t
      refine xw_icmp_eq (n := 936) (m := 1180) (show xlook 228 933 = some (933, .if_icmp .eq 247, 3, 1180, 0, 0, 0) from xlk (by decide +kernel)) rfl rfl q0 q1 ⟨fun c => ?_, fun c => ?_⟩
      · replace t := t.1 c
        refine xw_iinc (n := 1183) (show xlook 228 1180 = some (1180, .iinc 3 6, 3, 0, 0, 0, 0) from xlk (by decide +kernel)) rfl (ls' := [.ref xSC, .ref (0), .ref (131), vi (x3 + 6)]) rfl rfl ?_
        refine xw_goto (m := 18) (show xlook 228 1183 = some (1183, .goto (-1165), 3, 18, 0, 0, 0) from xlk (by decide +kernel)) rfl ?_
        exact t hG52
      · replace t := t.2 c
        refine xw_iconst (n := 937) (show xlook 228 936 = some (936, .iconst 0, 1, 0, 0, 0, 0) from xlk (by decide +kernel)) rfl ?_
        exact xw_zreturn hG52 (show xlook 228 937 = some (937, .ireturn, 1, 0, 0, 0, 0) from xlk (by decide +kernel)) rfl (by decide) (t hG52)
    · replace t := u26 e
      refine xw_tabIn (off := 905) (t := 938) (show xlook 228 33 = some (33, .tableswitch 1147 0 32 #[147, 210, 233, 256, 279, 302, 345, 358, 371, 394, 407, 440, 473, 506, 539, 572, 615, 648, 691, 704, 737, 760, 783, 796, 829, 862, 905, 928, 961, 984, 1007, 1030, 1124], 147, 0, 0, 0, 0) from xlk (by decide +kernel)) q1 hq (by show (#[147, 210, 233, 256, 279, 302, 345, 358, 371, 394, 407, 440, 473, 506, 539, 572, 615, 648, 691, 704, 737, 760, 783, 796, 829, 862, 905, 928, 961, 984, 1007, 1030, 1124] : Array Int)[((xand (xsc X (x3)) (63) : Int) - (0)).toNat]? = some (905); rw [e]; rfl) rfl ?_
      refine xw_aload_n (n := 939) (show xlook 228 938 = some (938, .aload_n 1, 1, 0, 0, 0, 0) from xlk (by decide +kernel)) rfl rfl ?_
      refine xw_aload_n (n := 940) (show xlook 228 939 = some (939, .aload_n 0, 1, 0, 0, 0, 0) from xlk (by decide +kernel)) rfl rfl ?_
      refine xw_iload_n (n := 941) (show xlook 228 940 = some (940, .iload_n 3, 1, 0, 0, 0, 0) from xlk (by decide +kernel)) rfl rfl ?_
      refine xw_iconst (n := 942) (show xlook 228 941 = some (941, .iconst 1, 1, 0, 0, 0, 0) from xlk (by decide +kernel)) rfl ?_
      refine xw_iadd (n := 943) (show xlook 228 942 = some (942, .iadd, 1, 0, 0, 0, 0) from xlk (by decide +kernel)) rfl ?_
      obtain ⟨q1, t⟩ := t
      refine xw_sald (show xlook 228 943 = some (943, .iaload, 1, 0, 0, 0, 0) from xlk (by decide +kernel)) hX q1 (n := 944) rfl ?_
      obtain ⟨j53, hj53, rr53, G53, hm53, hG53, t⟩ := t
      obtain ⟨y53, rfl, t⟩ := t
      refine xw_callv (dk := j53) (o := 0) (as := [vi (xsc X ((x3) + (1)))]) (show xlook 228 944 = some (944, .invokevirtual 122, 3, 120, 2, 0, 265) from xlk (by decide +kernel)) (by decide) hj53 ⟨Nat.le_of_ble_eq_true rfl, Nat.le_of_ble_eq_true rfl, Nat.le_of_ble_eq_true rfl⟩ ⟨xob_11.1, xob_11.2, by decide⟩ rfl hm53 (n := 947) rfl ?_
      show xW X d 228 947 [.ref xSC, .ref (0), .ref (131), vi (x3)] [vi (y53)] G53 (xqi Q)
      refine xw_aload_n (n := 948) (show xlook 228 947 = some (947, .aload_n 2, 1, 0, 0, 0, 0) from xlk (by decide +kernel)) rfl rfl ?_
      refine xw_aload_n (n := 949) (show xlook 228 948 = some (948, .aload_n 0, 1, 0, 0, 0, 0) from xlk (by decide +kernel)) rfl rfl ?_
      refine xw_iload_n (n := 950) (show xlook 228 949 = some (949, .iload_n 3, 1, 0, 0, 0, 0) from xlk (by decide +kernel)) rfl rfl ?_
      refine xw_iconst (n := 951) (show xlook 228 950 = some (950, .iconst 1, 1, 0, 0, 0, 0) from xlk (by decide +kernel)) rfl ?_
      refine xw_iadd (n := 952) (show xlook 228 951 = some (951, .iadd, 1, 0, 0, 0, 0) from xlk (by decide +kernel)) rfl ?_
      obtain ⟨q1, t⟩ := t
      refine xw_sald (show xlook 228 952 = some (952, .iaload, 1, 0, 0, 0, 0) from xlk (by decide +kernel)) hX q1 (n := 953) rfl ?_
      obtain ⟨j54, hj54, rr54, G54, hm54, hG54, t⟩ := t
      obtain ⟨y54, rfl, t⟩ := t
      refine xw_callv (dk := j54) (o := 131) (as := [vi (xsc X ((x3) + (1)))]) (show xlook 228 953 = some (953, .invokevirtual 125, 3, 212, 2, 0, 266) from xlk (by decide +kernel)) (by decide) hj54 ⟨Nat.le_of_ble_eq_true rfl, Nat.le_of_ble_eq_true rfl, Nat.le_of_ble_eq_true rfl⟩ ⟨xob_12.1, xob_12.2, by decide⟩ rfl hm54 (n := 956) rfl ?_
      show xW X d 228 956 [.ref xSC, .ref (0), .ref (131), vi (x3)] [vi (y54), vi (y53)] G54 (xqi Q)
      obtain ⟨q0, q1, t⟩ := t
      refine xw_icmp_eq (n := 959) (m := 1180) (show xlook 228 956 = some (956, .if_icmp .eq 224, 3, 1180, 0, 0, 0) from xlk (by decide +kernel)) rfl rfl q0 q1 ⟨fun c => ?_, fun c => ?_⟩
      · replace t := t.1 c
        refine xw_iinc (n := 1183) (show xlook 228 1180 = some (1180, .iinc 3 6, 3, 0, 0, 0, 0) from xlk (by decide +kernel)) rfl (ls' := [.ref xSC, .ref (0), .ref (131), vi (x3 + 6)]) rfl rfl ?_
        refine xw_goto (m := 18) (show xlook 228 1183 = some (1183, .goto (-1165), 3, 18, 0, 0, 0) from xlk (by decide +kernel)) rfl ?_
        exact t hG54
      · replace t := t.2 c
        refine xw_iconst (n := 960) (show xlook 228 959 = some (959, .iconst 0, 1, 0, 0, 0, 0) from xlk (by decide +kernel)) rfl ?_
        exact xw_zreturn hG54 (show xlook 228 960 = some (960, .ireturn, 1, 0, 0, 0, 0) from xlk (by decide +kernel)) rfl (by decide) (t hG54)
    · replace t := u27 e
      refine xw_tabIn (off := 928) (t := 961) (show xlook 228 33 = some (33, .tableswitch 1147 0 32 #[147, 210, 233, 256, 279, 302, 345, 358, 371, 394, 407, 440, 473, 506, 539, 572, 615, 648, 691, 704, 737, 760, 783, 796, 829, 862, 905, 928, 961, 984, 1007, 1030, 1124], 147, 0, 0, 0, 0) from xlk (by decide +kernel)) q1 hq (by show (#[147, 210, 233, 256, 279, 302, 345, 358, 371, 394, 407, 440, 473, 506, 539, 572, 615, 648, 691, 704, 737, 760, 783, 796, 829, 862, 905, 928, 961, 984, 1007, 1030, 1124] : Array Int)[((xand (xsc X (x3)) (63) : Int) - (0)).toNat]? = some (928); rw [e]; rfl) rfl ?_
      refine xw_aload_n (n := 962) (show xlook 228 961 = some (961, .aload_n 1, 1, 0, 0, 0, 0) from xlk (by decide +kernel)) rfl rfl ?_
      refine xw_aload_n (n := 963) (show xlook 228 962 = some (962, .aload_n 0, 1, 0, 0, 0, 0) from xlk (by decide +kernel)) rfl rfl ?_
      refine xw_iload_n (n := 964) (show xlook 228 963 = some (963, .iload_n 3, 1, 0, 0, 0, 0) from xlk (by decide +kernel)) rfl rfl ?_
      refine xw_iconst (n := 965) (show xlook 228 964 = some (964, .iconst 1, 1, 0, 0, 0, 0) from xlk (by decide +kernel)) rfl ?_
      refine xw_iadd (n := 966) (show xlook 228 965 = some (965, .iadd, 1, 0, 0, 0, 0) from xlk (by decide +kernel)) rfl ?_
      obtain ⟨q1, t⟩ := t
      refine xw_sald (show xlook 228 966 = some (966, .iaload, 1, 0, 0, 0, 0) from xlk (by decide +kernel)) hX q1 (n := 967) rfl ?_
      refine xw_aload_n (n := 968) (show xlook 228 967 = some (967, .aload_n 0, 1, 0, 0, 0, 0) from xlk (by decide +kernel)) rfl rfl ?_
      refine xw_iload_n (n := 969) (show xlook 228 968 = some (968, .iload_n 3, 1, 0, 0, 0, 0) from xlk (by decide +kernel)) rfl rfl ?_
      refine xw_iconst (n := 970) (show xlook 228 969 = some (969, .iconst 2, 1, 0, 0, 0, 0) from xlk (by decide +kernel)) rfl ?_
      refine xw_iadd (n := 971) (show xlook 228 970 = some (970, .iadd, 1, 0, 0, 0, 0) from xlk (by decide +kernel)) rfl ?_
      obtain ⟨q1, t⟩ := t
      refine xw_sald (show xlook 228 971 = some (971, .iaload, 1, 0, 0, 0, 0) from xlk (by decide +kernel)) hX q1 (n := 972) rfl ?_
      obtain ⟨j55, hj55, rr55, G55, hm55, hG55, t⟩ := t
      obtain ⟨y55, rfl, t⟩ := t
      refine xw_callv (dk := j55) (o := 0) (as := [vi (xsc X ((x3) + (1))), vi (xsc X ((x3) + (2)))]) (show xlook 228 972 = some (972, .invokevirtual 126, 3, 121, 3, 0, 267) from xlk (by decide +kernel)) (by decide) hj55 ⟨Nat.le_of_ble_eq_true rfl, Nat.le_of_ble_eq_true rfl, Nat.le_of_ble_eq_true rfl⟩ ⟨xob_11.1, xob_11.2, by decide⟩ rfl hm55 (n := 975) rfl ?_
      show xW X d 228 975 [.ref xSC, .ref (0), .ref (131), vi (x3)] [vi (y55)] G55 (xqi Q)
      refine xw_aload_n (n := 976) (show xlook 228 975 = some (975, .aload_n 2, 1, 0, 0, 0, 0) from xlk (by decide +kernel)) rfl rfl ?_
      refine xw_aload_n (n := 977) (show xlook 228 976 = some (976, .aload_n 0, 1, 0, 0, 0, 0) from xlk (by decide +kernel)) rfl rfl ?_
      refine xw_iload_n (n := 978) (show xlook 228 977 = some (977, .iload_n 3, 1, 0, 0, 0, 0) from xlk (by decide +kernel)) rfl rfl ?_
      refine xw_iconst (n := 979) (show xlook 228 978 = some (978, .iconst 1, 1, 0, 0, 0, 0) from xlk (by decide +kernel)) rfl ?_
      refine xw_iadd (n := 980) (show xlook 228 979 = some (979, .iadd, 1, 0, 0, 0, 0) from xlk (by decide +kernel)) rfl ?_
      obtain ⟨q1, t⟩ := t
      refine xw_sald (show xlook 228 980 = some (980, .iaload, 1, 0, 0, 0, 0) from xlk (by decide +kernel)) hX q1 (n := 981) rfl ?_
      refine xw_aload_n (n := 982) (show xlook 228 981 = some (981, .aload_n 0, 1, 0, 0, 0, 0) from xlk (by decide +kernel)) rfl rfl ?_
      refine xw_iload_n (n := 983) (show xlook 228 982 = some (982, .iload_n 3, 1, 0, 0, 0, 0) from xlk (by decide +kernel)) rfl rfl ?_
      refine xw_iconst (n := 984) (show xlook 228 983 = some (983, .iconst 2, 1, 0, 0, 0, 0) from xlk (by decide +kernel)) rfl ?_
      refine xw_iadd (n := 985) (show xlook 228 984 = some (984, .iadd, 1, 0, 0, 0, 0) from xlk (by decide +kernel)) rfl ?_
      obtain ⟨q1, t⟩ := t
      refine xw_sald (show xlook 228 985 = some (985, .iaload, 1, 0, 0, 0, 0) from xlk (by decide +kernel)) hX q1 (n := 986) rfl ?_
      obtain ⟨j56, hj56, rr56, G56, hm56, hG56, t⟩ := t
      obtain ⟨y56, rfl, t⟩ := t
      refine xw_callv (dk := j56) (o := 131) (as := [vi (xsc X ((x3) + (1))), vi (xsc X ((x3) + (2)))]) (show xlook 228 986 = some (986, .invokevirtual 129, 3, 213, 3, 0, 268) from xlk (by decide +kernel)) (by decide) hj56 ⟨Nat.le_of_ble_eq_true rfl, Nat.le_of_ble_eq_true rfl, Nat.le_of_ble_eq_true rfl⟩ ⟨xob_12.1, xob_12.2, by decide⟩ rfl hm56 (n := 989) rfl ?_
      show xW X d 228 989 [.ref xSC, .ref (0), .ref (131), vi (x3)] [vi (y56), vi (y55)] G56 (xqi Q)
      obtain ⟨q0, q1, t⟩ := t
      refine xw_icmp_eq (n := 992) (m := 1180) (show xlook 228 989 = some (989, .if_icmp .eq 191, 3, 1180, 0, 0, 0) from xlk (by decide +kernel)) rfl rfl q0 q1 ⟨fun c => ?_, fun c => ?_⟩
      · replace t := t.1 c
        refine xw_iinc (n := 1183) (show xlook 228 1180 = some (1180, .iinc 3 6, 3, 0, 0, 0, 0) from xlk (by decide +kernel)) rfl (ls' := [.ref xSC, .ref (0), .ref (131), vi (x3 + 6)]) rfl rfl ?_
        refine xw_goto (m := 18) (show xlook 228 1183 = some (1183, .goto (-1165), 3, 18, 0, 0, 0) from xlk (by decide +kernel)) rfl ?_
        exact t hG56
      · replace t := t.2 c
        refine xw_iconst (n := 993) (show xlook 228 992 = some (992, .iconst 0, 1, 0, 0, 0, 0) from xlk (by decide +kernel)) rfl ?_
        exact xw_zreturn hG56 (show xlook 228 993 = some (993, .ireturn, 1, 0, 0, 0, 0) from xlk (by decide +kernel)) rfl (by decide) (t hG56)
    · replace t := u28 e
      refine xw_tabIn (off := 961) (t := 994) (show xlook 228 33 = some (33, .tableswitch 1147 0 32 #[147, 210, 233, 256, 279, 302, 345, 358, 371, 394, 407, 440, 473, 506, 539, 572, 615, 648, 691, 704, 737, 760, 783, 796, 829, 862, 905, 928, 961, 984, 1007, 1030, 1124], 147, 0, 0, 0, 0) from xlk (by decide +kernel)) q1 hq (by show (#[147, 210, 233, 256, 279, 302, 345, 358, 371, 394, 407, 440, 473, 506, 539, 572, 615, 648, 691, 704, 737, 760, 783, 796, 829, 862, 905, 928, 961, 984, 1007, 1030, 1124] : Array Int)[((xand (xsc X (x3)) (63) : Int) - (0)).toNat]? = some (961); rw [e]; rfl) rfl ?_
      refine xw_aload_n (n := 995) (show xlook 228 994 = some (994, .aload_n 1, 1, 0, 0, 0, 0) from xlk (by decide +kernel)) rfl rfl ?_
      refine xw_aload_n (n := 996) (show xlook 228 995 = some (995, .aload_n 0, 1, 0, 0, 0, 0) from xlk (by decide +kernel)) rfl rfl ?_
      refine xw_iload_n (n := 997) (show xlook 228 996 = some (996, .iload_n 3, 1, 0, 0, 0, 0) from xlk (by decide +kernel)) rfl rfl ?_
      refine xw_iconst (n := 998) (show xlook 228 997 = some (997, .iconst 1, 1, 0, 0, 0, 0) from xlk (by decide +kernel)) rfl ?_
      refine xw_iadd (n := 999) (show xlook 228 998 = some (998, .iadd, 1, 0, 0, 0, 0) from xlk (by decide +kernel)) rfl ?_
      obtain ⟨q1, t⟩ := t
      refine xw_sald (show xlook 228 999 = some (999, .iaload, 1, 0, 0, 0, 0) from xlk (by decide +kernel)) hX q1 (n := 1000) rfl ?_
      obtain ⟨j57, hj57, rr57, G57, hm57, hG57, t⟩ := t
      obtain ⟨y57, rfl, t⟩ := t
      refine xw_callv (dk := j57) (o := 0) (as := [vi (xsc X ((x3) + (1)))]) (show xlook 228 1000 = some (1000, .invokevirtual 130, 3, 122, 2, 0, 269) from xlk (by decide +kernel)) (by decide) hj57 ⟨Nat.le_of_ble_eq_true rfl, Nat.le_of_ble_eq_true rfl, Nat.le_of_ble_eq_true rfl⟩ ⟨xob_11.1, xob_11.2, by decide⟩ rfl hm57 (n := 1003) rfl ?_
      show xW X d 228 1003 [.ref xSC, .ref (0), .ref (131), vi (x3)] [vi (y57)] G57 (xqi Q)
      refine xw_aload_n (n := 1004) (show xlook 228 1003 = some (1003, .aload_n 2, 1, 0, 0, 0, 0) from xlk (by decide +kernel)) rfl rfl ?_
      refine xw_aload_n (n := 1005) (show xlook 228 1004 = some (1004, .aload_n 0, 1, 0, 0, 0, 0) from xlk (by decide +kernel)) rfl rfl ?_
      refine xw_iload_n (n := 1006) (show xlook 228 1005 = some (1005, .iload_n 3, 1, 0, 0, 0, 0) from xlk (by decide +kernel)) rfl rfl ?_
      refine xw_iconst (n := 1007) (show xlook 228 1006 = some (1006, .iconst 1, 1, 0, 0, 0, 0) from xlk (by decide +kernel)) rfl ?_
      refine xw_iadd (n := 1008) (show xlook 228 1007 = some (1007, .iadd, 1, 0, 0, 0, 0) from xlk (by decide +kernel)) rfl ?_
      obtain ⟨q1, t⟩ := t
      refine xw_sald (show xlook 228 1008 = some (1008, .iaload, 1, 0, 0, 0, 0) from xlk (by decide +kernel)) hX q1 (n := 1009) rfl ?_
      obtain ⟨j58, hj58, rr58, G58, hm58, hG58, t⟩ := t
      obtain ⟨y58, rfl, t⟩ := t
      refine xw_callv (dk := j58) (o := 131) (as := [vi (xsc X ((x3) + (1)))]) (show xlook 228 1009 = some (1009, .invokevirtual 133, 3, 214, 2, 0, 270) from xlk (by decide +kernel)) (by decide) hj58 ⟨Nat.le_of_ble_eq_true rfl, Nat.le_of_ble_eq_true rfl, Nat.le_of_ble_eq_true rfl⟩ ⟨xob_12.1, xob_12.2, by decide⟩ rfl hm58 (n := 1012) rfl ?_
      show xW X d 228 1012 [.ref xSC, .ref (0), .ref (131), vi (x3)] [vi (y58), vi (y57)] G58 (xqi Q)
      obtain ⟨q0, q1, t⟩ := t
      refine xw_icmp_eq (n := 1015) (m := 1180) (show xlook 228 1012 = some (1012, .if_icmp .eq 168, 3, 1180, 0, 0, 0) from xlk (by decide +kernel)) rfl rfl q0 q1 ⟨fun c => ?_, fun c => ?_⟩
      · replace t := t.1 c
        refine xw_iinc (n := 1183) (show xlook 228 1180 = some (1180, .iinc 3 6, 3, 0, 0, 0, 0) from xlk (by decide +kernel)) rfl (ls' := [.ref xSC, .ref (0), .ref (131), vi (x3 + 6)]) rfl rfl ?_
        refine xw_goto (m := 18) (show xlook 228 1183 = some (1183, .goto (-1165), 3, 18, 0, 0, 0) from xlk (by decide +kernel)) rfl ?_
        exact t hG58
      · replace t := t.2 c
        refine xw_iconst (n := 1016) (show xlook 228 1015 = some (1015, .iconst 0, 1, 0, 0, 0, 0) from xlk (by decide +kernel)) rfl ?_
        exact xw_zreturn hG58 (show xlook 228 1016 = some (1016, .ireturn, 1, 0, 0, 0, 0) from xlk (by decide +kernel)) rfl (by decide) (t hG58)
    · replace t := u29 e
      refine xw_tabIn (off := 984) (t := 1017) (show xlook 228 33 = some (33, .tableswitch 1147 0 32 #[147, 210, 233, 256, 279, 302, 345, 358, 371, 394, 407, 440, 473, 506, 539, 572, 615, 648, 691, 704, 737, 760, 783, 796, 829, 862, 905, 928, 961, 984, 1007, 1030, 1124], 147, 0, 0, 0, 0) from xlk (by decide +kernel)) q1 hq (by show (#[147, 210, 233, 256, 279, 302, 345, 358, 371, 394, 407, 440, 473, 506, 539, 572, 615, 648, 691, 704, 737, 760, 783, 796, 829, 862, 905, 928, 961, 984, 1007, 1030, 1124] : Array Int)[((xand (xsc X (x3)) (63) : Int) - (0)).toNat]? = some (984); rw [e]; rfl) rfl ?_
      refine xw_aload_n (n := 1018) (show xlook 228 1017 = some (1017, .aload_n 1, 1, 0, 0, 0, 0) from xlk (by decide +kernel)) rfl rfl ?_
      refine xw_aload_n (n := 1019) (show xlook 228 1018 = some (1018, .aload_n 0, 1, 0, 0, 0, 0) from xlk (by decide +kernel)) rfl rfl ?_
      refine xw_iload_n (n := 1020) (show xlook 228 1019 = some (1019, .iload_n 3, 1, 0, 0, 0, 0) from xlk (by decide +kernel)) rfl rfl ?_
      refine xw_iconst (n := 1021) (show xlook 228 1020 = some (1020, .iconst 1, 1, 0, 0, 0, 0) from xlk (by decide +kernel)) rfl ?_
      refine xw_iadd (n := 1022) (show xlook 228 1021 = some (1021, .iadd, 1, 0, 0, 0, 0) from xlk (by decide +kernel)) rfl ?_
      obtain ⟨q1, t⟩ := t
      refine xw_sald (show xlook 228 1022 = some (1022, .iaload, 1, 0, 0, 0, 0) from xlk (by decide +kernel)) hX q1 (n := 1023) rfl ?_
      obtain ⟨j59, hj59, rr59, G59, hm59, hG59, t⟩ := t
      obtain ⟨y59, rfl, t⟩ := t
      refine xw_callv (dk := j59) (o := 0) (as := [vi (xsc X ((x3) + (1)))]) (show xlook 228 1023 = some (1023, .invokevirtual 134, 3, 123, 2, 0, 271) from xlk (by decide +kernel)) (by decide) hj59 ⟨Nat.le_of_ble_eq_true rfl, Nat.le_of_ble_eq_true rfl, Nat.le_of_ble_eq_true rfl⟩ ⟨xob_11.1, xob_11.2, by decide⟩ rfl hm59 (n := 1026) rfl ?_
      show xW X d 228 1026 [.ref xSC, .ref (0), .ref (131), vi (x3)] [vi (y59)] G59 (xqi Q)
      refine xw_aload_n (n := 1027) (show xlook 228 1026 = some (1026, .aload_n 2, 1, 0, 0, 0, 0) from xlk (by decide +kernel)) rfl rfl ?_
      refine xw_aload_n (n := 1028) (show xlook 228 1027 = some (1027, .aload_n 0, 1, 0, 0, 0, 0) from xlk (by decide +kernel)) rfl rfl ?_
      refine xw_iload_n (n := 1029) (show xlook 228 1028 = some (1028, .iload_n 3, 1, 0, 0, 0, 0) from xlk (by decide +kernel)) rfl rfl ?_
      refine xw_iconst (n := 1030) (show xlook 228 1029 = some (1029, .iconst 1, 1, 0, 0, 0, 0) from xlk (by decide +kernel)) rfl ?_
      refine xw_iadd (n := 1031) (show xlook 228 1030 = some (1030, .iadd, 1, 0, 0, 0, 0) from xlk (by decide +kernel)) rfl ?_
      obtain ⟨q1, t⟩ := t
      refine xw_sald (show xlook 228 1031 = some (1031, .iaload, 1, 0, 0, 0, 0) from xlk (by decide +kernel)) hX q1 (n := 1032) rfl ?_
      obtain ⟨j60, hj60, rr60, G60, hm60, hG60, t⟩ := t
      obtain ⟨y60, rfl, t⟩ := t
      refine xw_callv (dk := j60) (o := 131) (as := [vi (xsc X ((x3) + (1)))]) (show xlook 228 1032 = some (1032, .invokevirtual 137, 3, 215, 2, 0, 272) from xlk (by decide +kernel)) (by decide) hj60 ⟨Nat.le_of_ble_eq_true rfl, Nat.le_of_ble_eq_true rfl, Nat.le_of_ble_eq_true rfl⟩ ⟨xob_12.1, xob_12.2, by decide⟩ rfl hm60 (n := 1035) rfl ?_
      show xW X d 228 1035 [.ref xSC, .ref (0), .ref (131), vi (x3)] [vi (y60), vi (y59)] G60 (xqi Q)
      obtain ⟨q0, q1, t⟩ := t
      refine xw_icmp_eq (n := 1038) (m := 1180) (show xlook 228 1035 = some (1035, .if_icmp .eq 145, 3, 1180, 0, 0, 0) from xlk (by decide +kernel)) rfl rfl q0 q1 ⟨fun c => ?_, fun c => ?_⟩
      · replace t := t.1 c
        refine xw_iinc (n := 1183) (show xlook 228 1180 = some (1180, .iinc 3 6, 3, 0, 0, 0, 0) from xlk (by decide +kernel)) rfl (ls' := [.ref xSC, .ref (0), .ref (131), vi (x3 + 6)]) rfl rfl ?_
        refine xw_goto (m := 18) (show xlook 228 1183 = some (1183, .goto (-1165), 3, 18, 0, 0, 0) from xlk (by decide +kernel)) rfl ?_
        exact t hG60
      · replace t := t.2 c
        refine xw_iconst (n := 1039) (show xlook 228 1038 = some (1038, .iconst 0, 1, 0, 0, 0, 0) from xlk (by decide +kernel)) rfl ?_
        exact xw_zreturn hG60 (show xlook 228 1039 = some (1039, .ireturn, 1, 0, 0, 0, 0) from xlk (by decide +kernel)) rfl (by decide) (t hG60)
    · replace t := u30 e
      refine xw_tabIn (off := 1007) (t := 1040) (show xlook 228 33 = some (33, .tableswitch 1147 0 32 #[147, 210, 233, 256, 279, 302, 345, 358, 371, 394, 407, 440, 473, 506, 539, 572, 615, 648, 691, 704, 737, 760, 783, 796, 829, 862, 905, 928, 961, 984, 1007, 1030, 1124], 147, 0, 0, 0, 0) from xlk (by decide +kernel)) q1 hq (by show (#[147, 210, 233, 256, 279, 302, 345, 358, 371, 394, 407, 440, 473, 506, 539, 572, 615, 648, 691, 704, 737, 760, 783, 796, 829, 862, 905, 928, 961, 984, 1007, 1030, 1124] : Array Int)[((xand (xsc X (x3)) (63) : Int) - (0)).toNat]? = some (1007); rw [e]; rfl) rfl ?_
      refine xw_aload_n (n := 1041) (show xlook 228 1040 = some (1040, .aload_n 1, 1, 0, 0, 0, 0) from xlk (by decide +kernel)) rfl rfl ?_
      refine xw_aload_n (n := 1042) (show xlook 228 1041 = some (1041, .aload_n 0, 1, 0, 0, 0, 0) from xlk (by decide +kernel)) rfl rfl ?_
      refine xw_iload_n (n := 1043) (show xlook 228 1042 = some (1042, .iload_n 3, 1, 0, 0, 0, 0) from xlk (by decide +kernel)) rfl rfl ?_
      refine xw_iconst (n := 1044) (show xlook 228 1043 = some (1043, .iconst 1, 1, 0, 0, 0, 0) from xlk (by decide +kernel)) rfl ?_
      refine xw_iadd (n := 1045) (show xlook 228 1044 = some (1044, .iadd, 1, 0, 0, 0, 0) from xlk (by decide +kernel)) rfl ?_
      obtain ⟨q1, t⟩ := t
      refine xw_sald (show xlook 228 1045 = some (1045, .iaload, 1, 0, 0, 0, 0) from xlk (by decide +kernel)) hX q1 (n := 1046) rfl ?_
      obtain ⟨j61, hj61, rr61, G61, hm61, hG61, t⟩ := t
      obtain ⟨y61, rfl, t⟩ := t
      refine xw_callv (dk := j61) (o := 0) (as := [vi (xsc X ((x3) + (1)))]) (show xlook 228 1046 = some (1046, .invokevirtual 138, 3, 124, 2, 0, 273) from xlk (by decide +kernel)) (by decide) hj61 ⟨Nat.le_of_ble_eq_true rfl, Nat.le_of_ble_eq_true rfl, Nat.le_of_ble_eq_true rfl⟩ ⟨xob_11.1, xob_11.2, by decide⟩ rfl hm61 (n := 1049) rfl ?_
      show xW X d 228 1049 [.ref xSC, .ref (0), .ref (131), vi (x3)] [vi (y61)] G61 (xqi Q)
      refine xw_aload_n (n := 1050) (show xlook 228 1049 = some (1049, .aload_n 2, 1, 0, 0, 0, 0) from xlk (by decide +kernel)) rfl rfl ?_
      refine xw_aload_n (n := 1051) (show xlook 228 1050 = some (1050, .aload_n 0, 1, 0, 0, 0, 0) from xlk (by decide +kernel)) rfl rfl ?_
      refine xw_iload_n (n := 1052) (show xlook 228 1051 = some (1051, .iload_n 3, 1, 0, 0, 0, 0) from xlk (by decide +kernel)) rfl rfl ?_
      refine xw_iconst (n := 1053) (show xlook 228 1052 = some (1052, .iconst 1, 1, 0, 0, 0, 0) from xlk (by decide +kernel)) rfl ?_
      refine xw_iadd (n := 1054) (show xlook 228 1053 = some (1053, .iadd, 1, 0, 0, 0, 0) from xlk (by decide +kernel)) rfl ?_
      obtain ⟨q1, t⟩ := t
      refine xw_sald (show xlook 228 1054 = some (1054, .iaload, 1, 0, 0, 0, 0) from xlk (by decide +kernel)) hX q1 (n := 1055) rfl ?_
      obtain ⟨j62, hj62, rr62, G62, hm62, hG62, t⟩ := t
      obtain ⟨y62, rfl, t⟩ := t
      refine xw_callv (dk := j62) (o := 131) (as := [vi (xsc X ((x3) + (1)))]) (show xlook 228 1055 = some (1055, .invokevirtual 141, 3, 217, 2, 0, 274) from xlk (by decide +kernel)) (by decide) hj62 ⟨Nat.le_of_ble_eq_true rfl, Nat.le_of_ble_eq_true rfl, Nat.le_of_ble_eq_true rfl⟩ ⟨xob_12.1, xob_12.2, by decide⟩ rfl hm62 (n := 1058) rfl ?_
      show xW X d 228 1058 [.ref xSC, .ref (0), .ref (131), vi (x3)] [vi (y62), vi (y61)] G62 (xqi Q)
      obtain ⟨q0, q1, t⟩ := t
      refine xw_icmp_eq (n := 1061) (m := 1180) (show xlook 228 1058 = some (1058, .if_icmp .eq 122, 3, 1180, 0, 0, 0) from xlk (by decide +kernel)) rfl rfl q0 q1 ⟨fun c => ?_, fun c => ?_⟩
      · replace t := t.1 c
        refine xw_iinc (n := 1183) (show xlook 228 1180 = some (1180, .iinc 3 6, 3, 0, 0, 0, 0) from xlk (by decide +kernel)) rfl (ls' := [.ref xSC, .ref (0), .ref (131), vi (x3 + 6)]) rfl rfl ?_
        refine xw_goto (m := 18) (show xlook 228 1183 = some (1183, .goto (-1165), 3, 18, 0, 0, 0) from xlk (by decide +kernel)) rfl ?_
        exact t hG62
      · replace t := t.2 c
        refine xw_iconst (n := 1062) (show xlook 228 1061 = some (1061, .iconst 0, 1, 0, 0, 0, 0) from xlk (by decide +kernel)) rfl ?_
        exact xw_zreturn hG62 (show xlook 228 1062 = some (1062, .ireturn, 1, 0, 0, 0, 0) from xlk (by decide +kernel)) rfl (by decide) (t hG62)
    · replace t := u31 e
      refine xw_tabIn (off := 1030) (t := 1063) (show xlook 228 33 = some (33, .tableswitch 1147 0 32 #[147, 210, 233, 256, 279, 302, 345, 358, 371, 394, 407, 440, 473, 506, 539, 572, 615, 648, 691, 704, 737, 760, 783, 796, 829, 862, 905, 928, 961, 984, 1007, 1030, 1124], 147, 0, 0, 0, 0) from xlk (by decide +kernel)) q1 hq (by show (#[147, 210, 233, 256, 279, 302, 345, 358, 371, 394, 407, 440, 473, 506, 539, 572, 615, 648, 691, 704, 737, 760, 783, 796, 829, 862, 905, 928, 961, 984, 1007, 1030, 1124] : Array Int)[((xand (xsc X (x3)) (63) : Int) - (0)).toNat]? = some (1030); rw [e]; rfl) rfl ?_
      refine xw_aload_n (n := 1064) (show xlook 228 1063 = some (1063, .aload_n 1, 1, 0, 0, 0, 0) from xlk (by decide +kernel)) rfl rfl ?_
      refine xw_aload_n (n := 1065) (show xlook 228 1064 = some (1064, .aload_n 0, 1, 0, 0, 0, 0) from xlk (by decide +kernel)) rfl rfl ?_
      refine xw_iload_n (n := 1066) (show xlook 228 1065 = some (1065, .iload_n 3, 1, 0, 0, 0, 0) from xlk (by decide +kernel)) rfl rfl ?_
      refine xw_iconst (n := 1067) (show xlook 228 1066 = some (1066, .iconst 1, 1, 0, 0, 0, 0) from xlk (by decide +kernel)) rfl ?_
      refine xw_iadd (n := 1068) (show xlook 228 1067 = some (1067, .iadd, 1, 0, 0, 0, 0) from xlk (by decide +kernel)) rfl ?_
      obtain ⟨q1, t⟩ := t
      refine xw_sald (show xlook 228 1068 = some (1068, .iaload, 1, 0, 0, 0, 0) from xlk (by decide +kernel)) hX q1 (n := 1069) rfl ?_
      obtain ⟨q1, t⟩ := t
      refine xw_i2l (n := 1070) (show xlook 228 1069 = some (1069, .i2l, 1, 0, 0, 0, 0) from xlk (by decide +kernel)) rfl q1 ?_
      refine xw_bipush (n := 1072) (show xlook 228 1070 = some (1070, .bipush 32, 2, 0, 0, 0, 0) from xlk (by decide +kernel)) rfl (by decide) ?_
      refine xw_lshl (n := 1073) (show xlook 228 1072 = some (1072, .lshl, 1, 0, 0, 0, 0) from xlk (by decide +kernel)) rfl ?_
      refine xw_aload_n (n := 1074) (show xlook 228 1073 = some (1073, .aload_n 0, 1, 0, 0, 0, 0) from xlk (by decide +kernel)) rfl rfl ?_
      refine xw_iload_n (n := 1075) (show xlook 228 1074 = some (1074, .iload_n 3, 1, 0, 0, 0, 0) from xlk (by decide +kernel)) rfl rfl ?_
      refine xw_iconst (n := 1076) (show xlook 228 1075 = some (1075, .iconst 2, 1, 0, 0, 0, 0) from xlk (by decide +kernel)) rfl ?_
      refine xw_iadd (n := 1077) (show xlook 228 1076 = some (1076, .iadd, 1, 0, 0, 0, 0) from xlk (by decide +kernel)) rfl ?_
      obtain ⟨q1, t⟩ := t
      refine xw_sald (show xlook 228 1077 = some (1077, .iaload, 1, 0, 0, 0, 0) from xlk (by decide +kernel)) hX q1 (n := 1078) rfl ?_
      obtain ⟨q1, t⟩ := t
      refine xw_i2l (n := 1079) (show xlook 228 1078 = some (1078, .i2l, 1, 0, 0, 0, 0) from xlk (by decide +kernel)) rfl q1 ?_
      refine xw_ldc2 (n := 1082) (show xlook 228 1079 = some (1079, .ldc2_w 142, 3, 0, 0, 4294967295, 21) from xlk (by decide +kernel)) rfl ?_
      refine xw_land (n := 1083) (show xlook 228 1082 = some (1082, .land, 1, 0, 0, 0, 0) from xlk (by decide +kernel)) rfl ?_
      refine xw_lor (n := 1084) (show xlook 228 1083 = some (1083, .lor, 1, 0, 0, 0, 0) from xlk (by decide +kernel)) rfl ?_
      refine xw_aload_n (n := 1085) (show xlook 228 1084 = some (1084, .aload_n 0, 1, 0, 0, 0, 0) from xlk (by decide +kernel)) rfl rfl ?_
      refine xw_iload_n (n := 1086) (show xlook 228 1085 = some (1085, .iload_n 3, 1, 0, 0, 0, 0) from xlk (by decide +kernel)) rfl rfl ?_
      refine xw_iconst (n := 1087) (show xlook 228 1086 = some (1086, .iconst 3, 1, 0, 0, 0, 0) from xlk (by decide +kernel)) rfl ?_
      refine xw_iadd (n := 1088) (show xlook 228 1087 = some (1087, .iadd, 1, 0, 0, 0, 0) from xlk (by decide +kernel)) rfl ?_
      obtain ⟨q1, t⟩ := t
      refine xw_sald (show xlook 228 1088 = some (1088, .iaload, 1, 0, 0, 0, 0) from xlk (by decide +kernel)) hX q1 (n := 1089) rfl ?_
      obtain ⟨q1, t⟩ := t
      refine xw_i2l (n := 1090) (show xlook 228 1089 = some (1089, .i2l, 1, 0, 0, 0, 0) from xlk (by decide +kernel)) rfl q1 ?_
      refine xw_bipush (n := 1092) (show xlook 228 1090 = some (1090, .bipush 32, 2, 0, 0, 0, 0) from xlk (by decide +kernel)) rfl (by decide) ?_
      refine xw_lshl (n := 1093) (show xlook 228 1092 = some (1092, .lshl, 1, 0, 0, 0, 0) from xlk (by decide +kernel)) rfl ?_
      refine xw_aload_n (n := 1094) (show xlook 228 1093 = some (1093, .aload_n 0, 1, 0, 0, 0, 0) from xlk (by decide +kernel)) rfl rfl ?_
      refine xw_iload_n (n := 1095) (show xlook 228 1094 = some (1094, .iload_n 3, 1, 0, 0, 0, 0) from xlk (by decide +kernel)) rfl rfl ?_
      refine xw_iconst (n := 1096) (show xlook 228 1095 = some (1095, .iconst 4, 1, 0, 0, 0, 0) from xlk (by decide +kernel)) rfl ?_
      refine xw_iadd (n := 1097) (show xlook 228 1096 = some (1096, .iadd, 1, 0, 0, 0, 0) from xlk (by decide +kernel)) rfl ?_
      obtain ⟨q1, t⟩ := t
      refine xw_sald (show xlook 228 1097 = some (1097, .iaload, 1, 0, 0, 0, 0) from xlk (by decide +kernel)) hX q1 (n := 1098) rfl ?_
      obtain ⟨q1, t⟩ := t
      refine xw_i2l (n := 1099) (show xlook 228 1098 = some (1098, .i2l, 1, 0, 0, 0, 0) from xlk (by decide +kernel)) rfl q1 ?_
      refine xw_ldc2 (n := 1102) (show xlook 228 1099 = some (1099, .ldc2_w 142, 3, 0, 0, 4294967295, 21) from xlk (by decide +kernel)) rfl ?_
      refine xw_land (n := 1103) (show xlook 228 1102 = some (1102, .land, 1, 0, 0, 0, 0) from xlk (by decide +kernel)) rfl ?_
      refine xw_lor (n := 1104) (show xlook 228 1103 = some (1103, .lor, 1, 0, 0, 0, 0) from xlk (by decide +kernel)) rfl ?_
      obtain ⟨j63, hj63, rr63, G63, hm63, hG63, t⟩ := t
      obtain ⟨y63, rfl, t⟩ := t
      refine xw_callv (dk := j63) (o := 0) (as := [vl (xlor (xlsh (xsc X ((x3) + (1))) (32)) (xlan (xsc X ((x3) + (2))) (4294967295))), vl (xlor (xlsh (xsc X ((x3) + (3))) (32)) (xlan (xsc X ((x3) + (4))) (4294967295)))]) (show xlook 228 1104 = some (1104, .invokevirtual 144, 3, 125, 3, 0, 275) from xlk (by decide +kernel)) (by decide) hj63 ⟨Nat.le_of_ble_eq_true rfl, Nat.le_of_ble_eq_true rfl, Nat.le_of_ble_eq_true rfl⟩ ⟨xob_11.1, xob_11.2, by decide⟩ rfl hm63 (n := 1107) rfl ?_
      show xW X d 228 1107 [.ref xSC, .ref (0), .ref (131), vi (x3)] [vl (y63)] G63 (xqi Q)
      refine xw_aload_n (n := 1108) (show xlook 228 1107 = some (1107, .aload_n 2, 1, 0, 0, 0, 0) from xlk (by decide +kernel)) rfl rfl ?_
      refine xw_aload_n (n := 1109) (show xlook 228 1108 = some (1108, .aload_n 0, 1, 0, 0, 0, 0) from xlk (by decide +kernel)) rfl rfl ?_
      refine xw_iload_n (n := 1110) (show xlook 228 1109 = some (1109, .iload_n 3, 1, 0, 0, 0, 0) from xlk (by decide +kernel)) rfl rfl ?_
      refine xw_iconst (n := 1111) (show xlook 228 1110 = some (1110, .iconst 1, 1, 0, 0, 0, 0) from xlk (by decide +kernel)) rfl ?_
      refine xw_iadd (n := 1112) (show xlook 228 1111 = some (1111, .iadd, 1, 0, 0, 0, 0) from xlk (by decide +kernel)) rfl ?_
      obtain ⟨q1, t⟩ := t
      refine xw_sald (show xlook 228 1112 = some (1112, .iaload, 1, 0, 0, 0, 0) from xlk (by decide +kernel)) hX q1 (n := 1113) rfl ?_
      obtain ⟨q1, t⟩ := t
      refine xw_i2l (n := 1114) (show xlook 228 1113 = some (1113, .i2l, 1, 0, 0, 0, 0) from xlk (by decide +kernel)) rfl q1 ?_
      refine xw_bipush (n := 1116) (show xlook 228 1114 = some (1114, .bipush 32, 2, 0, 0, 0, 0) from xlk (by decide +kernel)) rfl (by decide) ?_
      refine xw_lshl (n := 1117) (show xlook 228 1116 = some (1116, .lshl, 1, 0, 0, 0, 0) from xlk (by decide +kernel)) rfl ?_
      refine xw_aload_n (n := 1118) (show xlook 228 1117 = some (1117, .aload_n 0, 1, 0, 0, 0, 0) from xlk (by decide +kernel)) rfl rfl ?_
      refine xw_iload_n (n := 1119) (show xlook 228 1118 = some (1118, .iload_n 3, 1, 0, 0, 0, 0) from xlk (by decide +kernel)) rfl rfl ?_
      refine xw_iconst (n := 1120) (show xlook 228 1119 = some (1119, .iconst 2, 1, 0, 0, 0, 0) from xlk (by decide +kernel)) rfl ?_
      refine xw_iadd (n := 1121) (show xlook 228 1120 = some (1120, .iadd, 1, 0, 0, 0, 0) from xlk (by decide +kernel)) rfl ?_
      obtain ⟨q1, t⟩ := t
      refine xw_sald (show xlook 228 1121 = some (1121, .iaload, 1, 0, 0, 0, 0) from xlk (by decide +kernel)) hX q1 (n := 1122) rfl ?_
      obtain ⟨q1, t⟩ := t
      refine xw_i2l (n := 1123) (show xlook 228 1122 = some (1122, .i2l, 1, 0, 0, 0, 0) from xlk (by decide +kernel)) rfl q1 ?_
      refine xw_ldc2 (n := 1126) (show xlook 228 1123 = some (1123, .ldc2_w 142, 3, 0, 0, 4294967295, 21) from xlk (by decide +kernel)) rfl ?_
      refine xw_land (n := 1127) (show xlook 228 1126 = some (1126, .land, 1, 0, 0, 0, 0) from xlk (by decide +kernel)) rfl ?_
      refine xw_lor (n := 1128) (show xlook 228 1127 = some (1127, .lor, 1, 0, 0, 0, 0) from xlk (by decide +kernel)) rfl ?_
      refine xw_aload_n (n := 1129) (show xlook 228 1128 = some (1128, .aload_n 0, 1, 0, 0, 0, 0) from xlk (by decide +kernel)) rfl rfl ?_
      refine xw_iload_n (n := 1130) (show xlook 228 1129 = some (1129, .iload_n 3, 1, 0, 0, 0, 0) from xlk (by decide +kernel)) rfl rfl ?_
      refine xw_iconst (n := 1131) (show xlook 228 1130 = some (1130, .iconst 3, 1, 0, 0, 0, 0) from xlk (by decide +kernel)) rfl ?_
      refine xw_iadd (n := 1132) (show xlook 228 1131 = some (1131, .iadd, 1, 0, 0, 0, 0) from xlk (by decide +kernel)) rfl ?_
      obtain ⟨q1, t⟩ := t
      refine xw_sald (show xlook 228 1132 = some (1132, .iaload, 1, 0, 0, 0, 0) from xlk (by decide +kernel)) hX q1 (n := 1133) rfl ?_
      obtain ⟨q1, t⟩ := t
      refine xw_i2l (n := 1134) (show xlook 228 1133 = some (1133, .i2l, 1, 0, 0, 0, 0) from xlk (by decide +kernel)) rfl q1 ?_
      refine xw_bipush (n := 1136) (show xlook 228 1134 = some (1134, .bipush 32, 2, 0, 0, 0, 0) from xlk (by decide +kernel)) rfl (by decide) ?_
      refine xw_lshl (n := 1137) (show xlook 228 1136 = some (1136, .lshl, 1, 0, 0, 0, 0) from xlk (by decide +kernel)) rfl ?_
      refine xw_aload_n (n := 1138) (show xlook 228 1137 = some (1137, .aload_n 0, 1, 0, 0, 0, 0) from xlk (by decide +kernel)) rfl rfl ?_
      refine xw_iload_n (n := 1139) (show xlook 228 1138 = some (1138, .iload_n 3, 1, 0, 0, 0, 0) from xlk (by decide +kernel)) rfl rfl ?_
      refine xw_iconst (n := 1140) (show xlook 228 1139 = some (1139, .iconst 4, 1, 0, 0, 0, 0) from xlk (by decide +kernel)) rfl ?_
      refine xw_iadd (n := 1141) (show xlook 228 1140 = some (1140, .iadd, 1, 0, 0, 0, 0) from xlk (by decide +kernel)) rfl ?_
      obtain ⟨q1, t⟩ := t
      refine xw_sald (show xlook 228 1141 = some (1141, .iaload, 1, 0, 0, 0, 0) from xlk (by decide +kernel)) hX q1 (n := 1142) rfl ?_
      obtain ⟨q1, t⟩ := t
      refine xw_i2l (n := 1143) (show xlook 228 1142 = some (1142, .i2l, 1, 0, 0, 0, 0) from xlk (by decide +kernel)) rfl q1 ?_
      refine xw_ldc2 (n := 1146) (show xlook 228 1143 = some (1143, .ldc2_w 142, 3, 0, 0, 4294967295, 21) from xlk (by decide +kernel)) rfl ?_
      refine xw_land (n := 1147) (show xlook 228 1146 = some (1146, .land, 1, 0, 0, 0, 0) from xlk (by decide +kernel)) rfl ?_
      refine xw_lor (n := 1148) (show xlook 228 1147 = some (1147, .lor, 1, 0, 0, 0, 0) from xlk (by decide +kernel)) rfl ?_
      obtain ⟨j64, hj64, rr64, G64, hm64, hG64, t⟩ := t
      obtain ⟨y64, rfl, t⟩ := t
      refine xw_callv (dk := j64) (o := 131) (as := [vl (xlor (xlsh (xsc X ((x3) + (1))) (32)) (xlan (xsc X ((x3) + (2))) (4294967295))), vl (xlor (xlsh (xsc X ((x3) + (3))) (32)) (xlan (xsc X ((x3) + (4))) (4294967295)))]) (show xlook 228 1148 = some (1148, .invokevirtual 148, 3, 219, 3, 0, 276) from xlk (by decide +kernel)) (by decide) hj64 ⟨Nat.le_of_ble_eq_true rfl, Nat.le_of_ble_eq_true rfl, Nat.le_of_ble_eq_true rfl⟩ ⟨xob_12.1, xob_12.2, by decide⟩ rfl hm64 (n := 1151) rfl ?_
      show xW X d 228 1151 [.ref xSC, .ref (0), .ref (131), vi (x3)] [vl (y64), vl (y63)] G64 (xqi Q)
      obtain ⟨q1, q2, t⟩ := t
      refine xw_lcmp (n := 1152) (show xlook 228 1151 = some (1151, .lcmp, 1, 0, 0, 0, 0) from xlk (by decide +kernel)) rfl q1 q2 ?_
      obtain ⟨q0, t⟩ := t
      refine xw_if_eq (n := 1155) (m := 1180) (show xlook 228 1152 = some (1152, .ifCond .eq 28, 3, 1180, 0, 0, 0) from xlk (by decide +kernel)) rfl rfl q0 ⟨fun c => ?_, fun c => ?_⟩
      · replace t := t.1 c
        refine xw_iinc (n := 1183) (show xlook 228 1180 = some (1180, .iinc 3 6, 3, 0, 0, 0, 0) from xlk (by decide +kernel)) rfl (ls' := [.ref xSC, .ref (0), .ref (131), vi (x3 + 6)]) rfl rfl ?_
        refine xw_goto (m := 18) (show xlook 228 1183 = some (1183, .goto (-1165), 3, 18, 0, 0, 0) from xlk (by decide +kernel)) rfl ?_
        exact t hG64
      · replace t := t.2 c
        refine xw_iconst (n := 1156) (show xlook 228 1155 = some (1155, .iconst 0, 1, 0, 0, 0, 0) from xlk (by decide +kernel)) rfl ?_
        exact xw_zreturn hG64 (show xlook 228 1156 = some (1156, .ireturn, 1, 0, 0, 0, 0) from xlk (by decide +kernel)) rfl (by decide) (t hG64)
    · replace t := u32 e
      refine xw_tabIn (off := 1124) (t := 1157) (show xlook 228 33 = some (33, .tableswitch 1147 0 32 #[147, 210, 233, 256, 279, 302, 345, 358, 371, 394, 407, 440, 473, 506, 539, 572, 615, 648, 691, 704, 737, 760, 783, 796, 829, 862, 905, 928, 961, 984, 1007, 1030, 1124], 147, 0, 0, 0, 0) from xlk (by decide +kernel)) q1 hq (by show (#[147, 210, 233, 256, 279, 302, 345, 358, 371, 394, 407, 440, 473, 506, 539, 572, 615, 648, 691, 704, 737, 760, 783, 796, 829, 862, 905, 928, 961, 984, 1007, 1030, 1124] : Array Int)[((xand (xsc X (x3)) (63) : Int) - (0)).toNat]? = some (1124); rw [e]; rfl) rfl ?_
      refine xw_aload_n (n := 1158) (show xlook 228 1157 = some (1157, .aload_n 1, 1, 0, 0, 0, 0) from xlk (by decide +kernel)) rfl rfl ?_
      refine xw_aload_n (n := 1159) (show xlook 228 1158 = some (1158, .aload_n 0, 1, 0, 0, 0, 0) from xlk (by decide +kernel)) rfl rfl ?_
      refine xw_iload_n (n := 1160) (show xlook 228 1159 = some (1159, .iload_n 3, 1, 0, 0, 0, 0) from xlk (by decide +kernel)) rfl rfl ?_
      refine xw_iconst (n := 1161) (show xlook 228 1160 = some (1160, .iconst 1, 1, 0, 0, 0, 0) from xlk (by decide +kernel)) rfl ?_
      refine xw_iadd (n := 1162) (show xlook 228 1161 = some (1161, .iadd, 1, 0, 0, 0, 0) from xlk (by decide +kernel)) rfl ?_
      obtain ⟨q1, t⟩ := t
      refine xw_sald (show xlook 228 1162 = some (1162, .iaload, 1, 0, 0, 0, 0) from xlk (by decide +kernel)) hX q1 (n := 1163) rfl ?_
      obtain ⟨j65, hj65, rr65, G65, hm65, hG65, t⟩ := t
      obtain ⟨y65, rfl, t⟩ := t
      refine xw_callv (dk := j65) (o := 0) (as := [vi (xsc X ((x3) + (1)))]) (show xlook 228 1163 = some (1163, .invokevirtual 149, 3, 127, 2, 0, 277) from xlk (by decide +kernel)) (by decide) hj65 ⟨Nat.le_of_ble_eq_true rfl, Nat.le_of_ble_eq_true rfl, Nat.le_of_ble_eq_true rfl⟩ ⟨xob_11.1, xob_11.2, by decide⟩ rfl hm65 (n := 1166) rfl ?_
      show xW X d 228 1166 [.ref xSC, .ref (0), .ref (131), vi (x3)] [vi (y65)] G65 (xqi Q)
      refine xw_aload_n (n := 1167) (show xlook 228 1166 = some (1166, .aload_n 2, 1, 0, 0, 0, 0) from xlk (by decide +kernel)) rfl rfl ?_
      refine xw_aload_n (n := 1168) (show xlook 228 1167 = some (1167, .aload_n 0, 1, 0, 0, 0, 0) from xlk (by decide +kernel)) rfl rfl ?_
      refine xw_iload_n (n := 1169) (show xlook 228 1168 = some (1168, .iload_n 3, 1, 0, 0, 0, 0) from xlk (by decide +kernel)) rfl rfl ?_
      refine xw_iconst (n := 1170) (show xlook 228 1169 = some (1169, .iconst 1, 1, 0, 0, 0, 0) from xlk (by decide +kernel)) rfl ?_
      refine xw_iadd (n := 1171) (show xlook 228 1170 = some (1170, .iadd, 1, 0, 0, 0, 0) from xlk (by decide +kernel)) rfl ?_
      obtain ⟨q1, t⟩ := t
      refine xw_sald (show xlook 228 1171 = some (1171, .iaload, 1, 0, 0, 0, 0) from xlk (by decide +kernel)) hX q1 (n := 1172) rfl ?_
      obtain ⟨j66, hj66, rr66, G66, hm66, hG66, t⟩ := t
      obtain ⟨y66, rfl, t⟩ := t
      refine xw_callv (dk := j66) (o := 131) (as := [vi (xsc X ((x3) + (1)))]) (show xlook 228 1172 = some (1172, .invokevirtual 152, 3, 220, 2, 0, 278) from xlk (by decide +kernel)) (by decide) hj66 ⟨Nat.le_of_ble_eq_true rfl, Nat.le_of_ble_eq_true rfl, Nat.le_of_ble_eq_true rfl⟩ ⟨xob_12.1, xob_12.2, by decide⟩ rfl hm66 (n := 1175) rfl ?_
      show xW X d 228 1175 [.ref xSC, .ref (0), .ref (131), vi (x3)] [vi (y66), vi (y65)] G66 (xqi Q)
      obtain ⟨q0, q1, t⟩ := t
      refine xw_icmp_eq (n := 1178) (m := 1180) (show xlook 228 1175 = some (1175, .if_icmp .eq 5, 3, 1180, 0, 0, 0) from xlk (by decide +kernel)) rfl rfl q0 q1 ⟨fun c => ?_, fun c => ?_⟩
      · replace t := t.1 c
        refine xw_iinc (n := 1183) (show xlook 228 1180 = some (1180, .iinc 3 6, 3, 0, 0, 0, 0) from xlk (by decide +kernel)) rfl (ls' := [.ref xSC, .ref (0), .ref (131), vi (x3 + 6)]) rfl rfl ?_
        refine xw_goto (m := 18) (show xlook 228 1183 = some (1183, .goto (-1165), 3, 18, 0, 0, 0) from xlk (by decide +kernel)) rfl ?_
        exact t hG66
      · replace t := t.2 c
        refine xw_iconst (n := 1179) (show xlook 228 1178 = some (1178, .iconst 0, 1, 0, 0, 0, 0) from xlk (by decide +kernel)) rfl ?_
        exact xw_zreturn hG66 (show xlook 228 1179 = some (1179, .ireturn, 1, 0, 0, 0, 0) from xlk (by decide +kernel)) rfl (by decide) (t hG66)

