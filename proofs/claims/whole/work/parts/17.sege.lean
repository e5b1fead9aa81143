set_option maxHeartbeats 4000000
set_option maxRecDepth 100000
theorem s135_24 {X : List Int32} {d : Nat} {F : XF} {Q : Int → XF → Prop} {x1 : Int} {x2 : Int} {x3 : Int} {x4 : Int} {x5 : Int} {x6 : Int} {w7 : Value} (hPT : xPT F)  (t : inR (x6) ∧ ((((20) ≤ (x6)) → (xPT (F) → Q ((F) (131) 4) (F))) ∧ (¬ ((20) ≤ (x6)) → (inR (x6) ∧ ((((4) ≤ (x6)) → (inR (x6) ∧ ((((8) ≤ (x6)) → (inR (x6) ∧ ((((12) ≤ (x6)) → (inR (x6) ∧ ((((16) ≤ (x6)) → ((0 ≤ (x6 : Int) ∧ (x6 : Int) ≤ 2147483647) ∧ (0 < (4 : Int) ∧ (4 : Int) ≤ 2147483647) ∧ ((0 ≤ ((F) (131) 4) ∧ ((F) (131) 4) < 600) ∧ (xPT (xup (xup (F) (134) ((F) (131) 4) (xbyte (xbyte (xshr (x5) ((24) - ((8) * ((x6) % (4)))))))) (131) 4 (((F) (131) 4) + (1))) → xW X d 135 24 [.ref (131), vi (x1), vi (x2), vi (x3), vi (x4), vi (x5), vi (x6 + 1), vi (x5)] [] (xup (xup (F) (134) ((F) (131) 4) (xbyte (xbyte (xshr (x5) ((24) - ((8) * ((x6) % (4)))))))) (131) 4 (((F) (131) 4) + (1))) (xqi Q))))) ∧ (¬ ((16) ≤ (x6)) → ((0 ≤ (x6 : Int) ∧ (x6 : Int) ≤ 2147483647) ∧ (0 < (4 : Int) ∧ (4 : Int) ≤ 2147483647) ∧ ((0 ≤ ((F) (131) 4) ∧ ((F) (131) 4) < 600) ∧ (xPT (xup (xup (F) (134) ((F) (131) 4) (xbyte (xbyte (xshr (x4) ((24) - ((8) * ((x6) % (4)))))))) (131) 4 (((F) (131) 4) + (1))) → xW X d 135 24 [.ref (131), vi (x1), vi (x2), vi (x3), vi (x4), vi (x5), vi (x6 + 1), vi (x4)] [] (xup (xup (F) (134) ((F) (131) 4) (xbyte (xbyte (xshr (x4) ((24) - ((8) * ((x6) % (4)))))))) (131) 4 (((F) (131) 4) + (1))) (xqi Q)))))))) ∧ (¬ ((12) ≤ (x6)) → ((0 ≤ (x6 : Int) ∧ (x6 : Int) ≤ 2147483647) ∧ (0 < (4 : Int) ∧ (4 : Int) ≤ 2147483647) ∧ ((0 ≤ ((F) (131) 4) ∧ ((F) (131) 4) < 600) ∧ (xPT (xup (xup (F) (134) ((F) (131) 4) (xbyte (xbyte (xshr (x3) ((24) - ((8) * ((x6) % (4)))))))) (131) 4 (((F) (131) 4) + (1))) → xW X d 135 24 [.ref (131), vi (x1), vi (x2), vi (x3), vi (x4), vi (x5), vi (x6 + 1), vi (x3)] [] (xup (xup (F) (134) ((F) (131) 4) (xbyte (xbyte (xshr (x3) ((24) - ((8) * ((x6) % (4)))))))) (131) 4 (((F) (131) 4) + (1))) (xqi Q)))))))) ∧ (¬ ((8) ≤ (x6)) → ((0 ≤ (x6 : Int) ∧ (x6 : Int) ≤ 2147483647) ∧ (0 < (4 : Int) ∧ (4 : Int) ≤ 2147483647) ∧ ((0 ≤ ((F) (131) 4) ∧ ((F) (131) 4) < 600) ∧ (xPT (xup (xup (F) (134) ((F) (131) 4) (xbyte (xbyte (xshr (x2) ((24) - ((8) * ((x6) % (4)))))))) (131) 4 (((F) (131) 4) + (1))) → xW X d 135 24 [.ref (131), vi (x1), vi (x2), vi (x3), vi (x4), vi (x5), vi (x6 + 1), vi (x2)] [] (xup (xup (F) (134) ((F) (131) 4) (xbyte (xbyte (xshr (x2) ((24) - ((8) * ((x6) % (4)))))))) (131) 4 (((F) (131) 4) + (1))) (xqi Q)))))))) ∧ (¬ ((4) ≤ (x6)) → ((0 ≤ (x6 : Int) ∧ (x6 : Int) ≤ 2147483647) ∧ (0 < (4 : Int) ∧ (4 : Int) ≤ 2147483647) ∧ ((0 ≤ ((F) (131) 4) ∧ ((F) (131) 4) < 600) ∧ (xPT (xup (xup (F) (134) ((F) (131) 4) (xbyte (xbyte (xshr (x1) ((24) - ((8) * ((x6) % (4)))))))) (131) 4 (((F) (131) 4) + (1))) → xW X d 135 24 [.ref (131), vi (x1), vi (x2), vi (x3), vi (x4), vi (x5), vi (x6 + 1), vi (x1)] [] (xup (xup (F) (134) ((F) (131) 4) (xbyte (xbyte (xshr (x1) ((24) - ((8) * ((x6) % (4)))))))) (131) 4 (((F) (131) 4) + (1))) (xqi Q)))))))))) : xW X d 135 24 [.ref (131), vi (x1), vi (x2), vi (x3), vi (x4), vi (x5), vi (x6), w7] [] F (xqi Q) := by
  refine xw_iload (n := 26) (show xlook 135 24 = some (24, .iload 6, 2, 0, 0, 0, 0) from xlk (by decide +kernel)) rfl rfl ?_
  refine xw_bipush (n := 28) (show xlook 135 26 = some (26, .bipush 20, 2, 0, 0, 0, 0) from xlk (by decide +kernel)) rfl (by decide) ?_
  obtain ⟨q0, t⟩ := t
  refine xw_icmp_ge (n := 31) (m := 118) (show xlook 135 28 = some (28, .if_icmp .ge 90, 3, 118, 0, 0, 0) from xlk (by decide +kernel)) rfl rfl q0 ⟨by decide, by decide⟩ ⟨fun c => ?_, fun c => ?_⟩
  · replace t := t.1 c
    refine xw_aload_n (n := 119) (show xlook 135 118 = some (118, .aload_n 0, 1, 0, 0, 0, 0) from xlk (by decide +kernel)) rfl rfl ?_
    refine xw_geti (show xlook 135 119 = some (119, .getfield 67, 3, 12, 4, 0, 236) from xlk (by decide +kernel)) (by decide) (xobf xob_12 (by decide) (by decide)) rfl (n := 122) rfl ?_
    exact xw_ireturn hPT (show xlook 135 122 = some (122, .ireturn, 1, 0, 0, 0, 0) from xlk (by decide +kernel)) rfl (t hPT)
  · replace t := t.2 c
    refine xw_iload (n := 33) (show xlook 135 31 = some (31, .iload 6, 2, 0, 0, 0, 0) from xlk (by decide +kernel)) rfl rfl ?_
    refine xw_iconst (n := 34) (show xlook 135 33 = some (33, .iconst 4, 1, 0, 0, 0, 0) from xlk (by decide +kernel)) rfl ?_
    obtain ⟨q0, t⟩ := t
    refine xw_icmp_ge (n := 37) (m := 41) (show xlook 135 34 = some (34, .if_icmp .ge 7, 3, 41, 0, 0, 0) from xlk (by decide +kernel)) rfl rfl q0 ⟨by decide, by decide⟩ ⟨fun c => ?_, fun c => ?_⟩
    · replace t := t.1 c
      refine xw_iload (n := 43) (show xlook 135 41 = some (41, .iload 6, 2, 0, 0, 0, 0) from xlk (by decide +kernel)) rfl rfl ?_
      refine xw_bipush (n := 45) (show xlook 135 43 = some (43, .bipush 8, 2, 0, 0, 0, 0) from xlk (by decide +kernel)) rfl (by decide) ?_
      obtain ⟨q0, t⟩ := t
      refine xw_icmp_ge (n := 48) (m := 52) (show xlook 135 45 = some (45, .if_icmp .ge 7, 3, 52, 0, 0, 0) from xlk (by decide +kernel)) rfl rfl q0 ⟨by decide, by decide⟩ ⟨fun c => ?_, fun c => ?_⟩
      · replace t := t.1 c
        refine xw_iload (n := 54) (show xlook 135 52 = some (52, .iload 6, 2, 0, 0, 0, 0) from xlk (by decide +kernel)) rfl rfl ?_
        refine xw_bipush (n := 56) (show xlook 135 54 = some (54, .bipush 12, 2, 0, 0, 0, 0) from xlk (by decide +kernel)) rfl (by decide) ?_
        obtain ⟨q0, t⟩ := t
        refine xw_icmp_ge (n := 59) (m := 63) (show xlook 135 56 = some (56, .if_icmp .ge 7, 3, 63, 0, 0, 0) from xlk (by decide +kernel)) rfl rfl q0 ⟨by decide, by decide⟩ ⟨fun c => ?_, fun c => ?_⟩
        · replace t := t.1 c
          refine xw_iload (n := 65) (show xlook 135 63 = some (63, .iload 6, 2, 0, 0, 0, 0) from xlk (by decide +kernel)) rfl rfl ?_
          refine xw_bipush (n := 67) (show xlook 135 65 = some (65, .bipush 16, 2, 0, 0, 0, 0) from xlk (by decide +kernel)) rfl (by decide) ?_
          obtain ⟨q0, t⟩ := t
          refine xw_icmp_ge (n := 70) (m := 75) (show xlook 135 67 = some (67, .if_icmp .ge 8, 3, 75, 0, 0, 0) from xlk (by decide +kernel)) rfl rfl q0 ⟨by decide, by decide⟩ ⟨fun c => ?_, fun c => ?_⟩
          · replace t := t.1 c
            refine xw_iload (n := 77) (show xlook 135 75 = some (75, .iload 5, 2, 0, 0, 0, 0) from xlk (by decide +kernel)) rfl rfl ?_
            refine xw_istore (n := 79) (show xlook 135 77 = some (77, .istore 7, 2, 0, 0, 0, 0) from xlk (by decide +kernel)) rfl (ls' := [.ref (131), vi (x1), vi (x2), vi (x3), vi (x4), vi (x5), vi (x6), vi (x5)]) (Nat.le_of_ble_eq_true rfl) rfl ?_
            refine xw_aload_n (n := 80) (show xlook 135 79 = some (79, .aload_n 0, 1, 0, 0, 0, 0) from xlk (by decide +kernel)) rfl rfl ?_
            refine xw_getr (q := 134) (show xlook 135 80 = some (80, .getfield 20, 3, 12, 3, 0, 222) from xlk (by decide +kernel)) (by decide) (xobf xob_12 (by decide) (by decide)) rfl (xPT_get (k := 3) (f := 3) hPT xob_12 (by decide)) (by have := (xtg_12_3 _ xob_12.1 xob_12.2).1.1; omega) (n := 83) rfl ?_
            refine xw_aload_n (n := 84) (show xlook 135 83 = some (83, .aload_n 0, 1, 0, 0, 0, 0) from xlk (by decide +kernel)) rfl rfl ?_
            refine xw_geti (show xlook 135 84 = some (84, .getfield 67, 3, 12, 4, 0, 236) from xlk (by decide +kernel)) (by decide) (xobf xob_12 (by decide) (by decide)) rfl (n := 87) rfl ?_
            refine xw_iload (n := 89) (show xlook 135 87 = some (87, .iload 7, 2, 0, 0, 0, 0) from xlk (by decide +kernel)) rfl rfl ?_
            refine xw_bipush (n := 91) (show xlook 135 89 = some (89, .bipush 24, 2, 0, 0, 0, 0) from xlk (by decide +kernel)) rfl (by decide) ?_
            refine xw_bipush (n := 93) (show xlook 135 91 = some (91, .bipush 8, 2, 0, 0, 0, 0) from xlk (by decide +kernel)) rfl (by decide) ?_
            refine xw_iload (n := 95) (show xlook 135 93 = some (93, .iload 6, 2, 0, 0, 0, 0) from xlk (by decide +kernel)) rfl rfl ?_
            refine xw_iconst (n := 96) (show xlook 135 95 = some (95, .iconst 4, 1, 0, 0, 0, 0) from xlk (by decide +kernel)) rfl ?_
            obtain ⟨q1, q2, t⟩ := t
            refine xw_irem (n := 97) (show xlook 135 96 = some (96, .irem, 1, 0, 0, 0, 0) from xlk (by decide +kernel)) rfl q1 q2 ?_
            refine xw_imul (n := 98) (show xlook 135 97 = some (97, .imul, 1, 0, 0, 0, 0) from xlk (by decide +kernel)) rfl ?_
            refine xw_isub (n := 99) (show xlook 135 98 = some (98, .isub, 1, 0, 0, 0, 0) from xlk (by decide +kernel)) rfl ?_
            refine xw_ishr (n := 100) (show xlook 135 99 = some (99, .ishr, 1, 0, 0, 0, 0) from xlk (by decide +kernel)) rfl ?_
            refine xw_i2b (n := 101) (show xlook 135 100 = some (100, .i2b, 1, 0, 0, 0, 0) from xlk (by decide +kernel)) rfl ?_
            obtain ⟨q1, t⟩ := t
            refine xw_bast (show xlook 135 101 = some (101, .bastore, 1, 0, 0, 0, 0) from xlk (by decide +kernel)) (xtg_12_3 _ xob_12.1 xob_12.2).1 (by rw [(xtg_12_3 _ xob_12.1 xob_12.2).2]; exact q1) (n := 102) rfl ?_
            refine xw_aload_n (n := 103) (show xlook 135 102 = some (102, .aload_n 0, 1, 0, 0, 0, 0) from xlk (by decide +kernel)) rfl rfl ?_
            refine xw_dupr (n := 104) (show xlook 135 103 = some (103, .dup, 1, 0, 0, 0, 0) from xlk (by decide +kernel)) rfl ?_
            refine xw_geti2 (u := (F) (131) 4) (show xlook 135 104 = some (104, .getfield 67, 3, 12, 4, 0, 236) from xlk (by decide +kernel)) (by decide) (xobf xob_12 (by decide) (by decide)) rfl (xup_o (by decide)) (n := 107) rfl ?_
            refine xw_iconst (n := 108) (show xlook 135 107 = some (107, .iconst 1, 1, 0, 0, 0, 0) from xlk (by decide +kernel)) rfl ?_
            refine xw_iadd (n := 109) (show xlook 135 108 = some (108, .iadd, 1, 0, 0, 0, 0) from xlk (by decide +kernel)) rfl ?_
            refine xw_puti (show xlook 135 109 = some (109, .putfield 67, 3, 12, 4, 0, 236) from xlk (by decide +kernel)) (xobf xob_12 (by decide) (by decide)) rfl (n := 112) rfl ?_
            refine xw_iinc (n := 115) (show xlook 135 112 = some (112, .iinc 6 1, 3, 0, 0, 0, 0) from xlk (by decide +kernel)) rfl (ls' := [.ref (131), vi (x1), vi (x2), vi (x3), vi (x4), vi (x5), vi (x6 + 1), vi (x5)]) rfl rfl ?_
            refine xw_goto (m := 24) (show xlook 135 115 = some (115, .goto (-91), 3, 24, 0, 0, 0) from xlk (by decide +kernel)) rfl ?_
            exact t (xPT_fld (k := 4) (xPT_arr hPT (Or.inr (xtg_12_3 _ xob_12.1 xob_12.2).1.2)) xob_12 (by decide) (by decide))
          · replace t := t.2 c
            refine xw_iload (n := 72) (show xlook 135 70 = some (70, .iload 4, 2, 0, 0, 0, 0) from xlk (by decide +kernel)) rfl rfl ?_
            refine xw_goto (m := 77) (show xlook 135 72 = some (72, .goto 5, 3, 77, 0, 0, 0) from xlk (by decide +kernel)) rfl ?_
            refine xw_istore (n := 79) (show xlook 135 77 = some (77, .istore 7, 2, 0, 0, 0, 0) from xlk (by decide +kernel)) rfl (ls' := [.ref (131), vi (x1), vi (x2), vi (x3), vi (x4), vi (x5), vi (x6), vi (x4)]) (Nat.le_of_ble_eq_true rfl) rfl ?_
            refine xw_aload_n (n := 80) (show xlook 135 79 = some (79, .aload_n 0, 1, 0, 0, 0, 0) from xlk (by decide +kernel)) rfl rfl ?_
            refine xw_getr (q := 134) (show xlook 135 80 = some (80, .getfield 20, 3, 12, 3, 0, 222) from xlk (by decide +kernel)) (by decide) (xobf xob_12 (by decide) (by decide)) rfl (xPT_get (k := 3) (f := 3) hPT xob_12 (by decide)) (by have := (xtg_12_3 _ xob_12.1 xob_12.2).1.1; omega) (n := 83) rfl ?_
            refine xw_aload_n (n := 84) (show xlook 135 83 = some (83, .aload_n 0, 1, 0, 0, 0, 0) from xlk (by decide +kernel)) rfl rfl ?_
            refine xw_geti (show xlook 135 84 = some (84, .getfield 67, 3, 12, 4, 0, 236) from xlk (by decide +kernel)) (by decide) (xobf xob_12 (by decide) (by decide)) rfl (n := 87) rfl ?_
            refine xw_iload (n := 89) (show xlook 135 87 = some (87, .iload 7, 2, 0, 0, 0, 0) from xlk (by decide +kernel)) rfl rfl ?_
            refine xw_bipush (n := 91) (show xlook 135 89 = some (89, .bipush 24, 2, 0, 0, 0, 0) from xlk (by decide +kernel)) rfl (by decide) ?_
            refine xw_bipush (n := 93) (show xlook 135 91 = some (91, .bipush 8, 2, 0, 0, 0, 0) from xlk (by decide +kernel)) rfl (by decide) ?_
            refine xw_iload (n := 95) (show xlook 135 93 = some (93, .iload 6, 2, 0, 0, 0, 0) from xlk (by decide +kernel)) rfl rfl ?_
            refine xw_iconst (n := 96) (show xlook 135 95 = some (95, .iconst 4, 1, 0, 0, 0, 0) from xlk (by decide +kernel)) rfl ?_
            obtain ⟨q1, q2, t⟩ := t
            refine xw_irem (n := 97) (show xlook 135 96 = some (96, .irem, 1, 0, 0, 0, 0) from xlk (by decide +kernel)) rfl q1 q2 ?_
            refine xw_imul (n := 98) (show xlook 135 97 = some (97, .imul, 1, 0, 0, 0, 0) from xlk (by decide +kernel)) rfl ?_
            refine xw_isub (n := 99) (show xlook 135 98 = some (98, .isub, 1, 0, 0, 0, 0) from xlk (by decide +kernel)) rfl ?_
            refine xw_ishr (n := 100) (show xlook 135 99 = some (99, .ishr, 1, 0, 0, 0, 0) from xlk (by decide +kernel)) rfl ?_
            refine xw_i2b (n := 101) (show xlook 135 100 = some (100, .i2b, 1, 0, 0, 0, 0) from xlk (by decide +kernel)) rfl ?_
            obtain ⟨q1, t⟩ := t
            refine xw_bast (show xlook 135 101 = some (101, .bastore, 1, 0, 0, 0, 0) from xlk (by decide +kernel)) (xtg_12_3 _ xob_12.1 xob_12.2).1 (by rw [(xtg_12_3 _ xob_12.1 xob_12.2).2]; exact q1) (n := 102) rfl ?_
            refine xw_aload_n (n := 103) (show xlook 135 102 = some (102, .aload_n 0, 1, 0, 0, 0, 0) from xlk (by decide +kernel)) rfl rfl ?_
            refine xw_dupr (n := 104) (show xlook 135 103 = some (103, .dup, 1, 0, 0, 0, 0) from xlk (by decide +kernel)) rfl ?_
            refine xw_geti2 (u := (F) (131) 4) (show xlook 135 104 = some (104, .getfield 67, 3, 12, 4, 0, 236) from xlk (by decide +kernel)) (by decide) (xobf xob_12 (by decide) (by decide)) rfl (xup_o (by decide)) (n := 107) rfl ?_
            refine xw_iconst (n := 108) (show xlook 135 107 = some (107, .iconst 1, 1, 0, 0, 0, 0) from xlk (by decide +kernel)) rfl ?_
            refine xw_iadd (n := 109) (show xlook 135 108 = some (108, .iadd, 1, 0, 0, 0, 0) from xlk (by decide +kernel)) rfl ?_
            refine xw_puti (show xlook 135 109 = some (109, .putfield 67, 3, 12, 4, 0, 236) from xlk (by decide +kernel)) (xobf xob_12 (by decide) (by decide)) rfl (n := 112) rfl ?_
            refine xw_iinc (n := 115) (show xlook 135 112 = some (112, .iinc 6 1, 3, 0, 0, 0, 0) from xlk (by decide +kernel)) rfl (ls' := [.ref (131), vi (x1), vi (x2), vi (x3), vi (x4), vi (x5), vi (x6 + 1), vi (x4)]) rfl rfl ?_
            refine xw_goto (m := 24) (show xlook 135 115 = some (115, .goto (-91), 3, 24, 0, 0, 0) from xlk (by decide +kernel)) rfl ?_
            exact t (xPT_fld (k := 4) (xPT_arr hPT (Or.inr (xtg_12_3 _ xob_12.1 xob_12.2).1.2)) xob_12 (by decide) (by decide))
        · replace t := t.2 c
          refine xw_iload_n (n := 60) (show xlook 135 59 = some (59, .iload_n 3, 1, 0, 0, 0, 0) from xlk (by decide +kernel)) rfl rfl ?_
          refine xw_goto (m := 77) (show xlook 135 60 = some (60, .goto 17, 3, 77, 0, 0, 0) from xlk (by decide +kernel)) rfl ?_
          refine xw_istore (n := 79) (show xlook 135 77 = some (77, .istore 7, 2, 0, 0, 0, 0) from xlk (by decide +kernel)) rfl (ls' := [.ref (131), vi (x1), vi (x2), vi (x3), vi (x4), vi (x5), vi (x6), vi (x3)]) (Nat.le_of_ble_eq_true rfl) rfl ?_
          refine xw_aload_n (n := 80) (show xlook 135 79 = some (79, .aload_n 0, 1, 0, 0, 0, 0) from xlk (by decide +kernel)) rfl rfl ?_
          refine xw_getr (q := 134) (show xlook 135 80 = some (80, .getfield 20, 3, 12, 3, 0, 222) from xlk (by decide +kernel)) (by decide) (xobf xob_12 (by decide) (by decide)) rfl (xPT_get (k := 3) (f := 3) hPT xob_12 (by decide)) (by have := (xtg_12_3 _ xob_12.1 xob_12.2).1.1; omega) (n := 83) rfl ?_
          refine xw_aload_n (n := 84) (show xlook 135 83 = some (83, .aload_n 0, 1, 0, 0, 0, 0) from xlk (by decide +kernel)) rfl rfl ?_
          refine xw_geti (show xlook 135 84 = some (84, .getfield 67, 3, 12, 4, 0, 236) from xlk (by decide +kernel)) (by decide) (xobf xob_12 (by decide) (by decide)) rfl (n := 87) rfl ?_
          refine xw_iload (n := 89) (show xlook 135 87 = some (87, .iload 7, 2, 0, 0, 0, 0) from xlk (by decide +kernel)) rfl rfl ?_
          refine xw_bipush (n := 91) (show xlook 135 89 = some (89, .bipush 24, 2, 0, 0, 0, 0) from xlk (by decide +kernel)) rfl (by decide) ?_
          refine xw_bipush (n := 93) (show xlook 135 91 = some (91, .bipush 8, 2, 0, 0, 0, 0) from xlk (by decide +kernel)) rfl (by decide) ?_
          refine xw_iload (n := 95) (show xlook 135 93 = some (93, .iload 6, 2, 0, 0, 0, 0) from xlk (by decide +kernel)) rfl rfl ?_
          refine xw_iconst (n := 96) (show xlook 135 95 = some (95, .iconst 4, 1, 0, 0, 0, 0) from xlk (by decide +kernel)) rfl ?_
          obtain ⟨q1, q2, t⟩ := t
          refine xw_irem (n := 97) (show xlook 135 96 = some (96, .irem, 1, 0, 0, 0, 0) from xlk (by decide +kernel)) rfl q1 q2 ?_
          refine xw_imul (n := 98) (show xlook 135 97 = some (97, .imul, 1, 0, 0, 0, 0) from xlk (by decide +kernel)) rfl ?_
          refine xw_isub (n := 99) (show xlook 135 98 = some (98, .isub, 1, 0, 0, 0, 0) from xlk (by decide +kernel)) rfl ?_
          refine xw_ishr (n := 100) (show xlook 135 99 = some (99, .ishr, 1, 0, 0, 0, 0) from xlk (by decide +kernel)) rfl ?_
          refine xw_i2b (n := 101) (show xlook 135 100 = some (100, .i2b, 1, 0, 0, 0, 0) from xlk (by decide +kernel)) rfl ?_
          obtain ⟨q1, t⟩ := t
          refine xw_bast (show xlook 135 101 = some (101, .bastore, 1, 0, 0, 0, 0) from xlk (by decide +kernel)) (xtg_12_3 _ xob_12.1 xob_12.2).1 (by rw [(xtg_12_3 _ xob_12.1 xob_12.2).2]; exact q1) (n := 102) rfl ?_
          refine xw_aload_n (n := 103) (show xlook 135 102 = some (102, .aload_n 0, 1, 0, 0, 0, 0) from xlk (by decide +kernel)) rfl rfl ?_
          refine xw_dupr (n := 104) (show xlook 135 103 = some (103, .dup, 1, 0, 0, 0, 0) from xlk (by decide +kernel)) rfl ?_
          refine xw_geti2 (u := (F) (131) 4) (show xlook 135 104 = some (104, .getfield 67, 3, 12, 4, 0, 236) from xlk (by decide +kernel)) (by decide) (xobf xob_12 (by decide) (by decide)) rfl (xup_o (by decide)) (n := 107) rfl ?_
          refine xw_iconst (n := 108) (show xlook 135 107 = some (107, .iconst 1, 1, 0, 0, 0, 0) from xlk (by decide +kernel)) rfl ?_
          refine xw_iadd (n := 109) (show xlook 135 108 = some (108, .iadd, 1, 0, 0, 0, 0) from xlk (by decide +kernel)) rfl ?_
          refine xw_puti (show xlook 135 109 = some (109, .putfield 67, 3, 12, 4, 0, 236) from xlk (by decide +kernel)) (xobf xob_12 (by decide) (by decide)) rfl (n := 112) rfl ?_
          refine xw_iinc (n := 115) (show xlook 135 112 = some (112, .iinc 6 1, 3, 0, 0, 0, 0) from xlk (by decide +kernel)) rfl (ls' := [.ref (131), vi (x1), vi (x2), vi (x3), vi (x4), vi (x5), vi (x6 + 1), vi (x3)]) rfl rfl ?_
          refine xw_goto (m := 24) (show xlook 135 115 = some (115, .goto (-91), 3, 24, 0, 0, 0) from xlk (by decide +kernel)) rfl ?_
          exact t (xPT_fld (k := 4) (xPT_arr hPT (Or.inr (xtg_12_3 _ xob_12.1 xob_12.2).1.2)) xob_12 (by decide) (by decide))
      · replace t := t.2 c
        refine xw_iload_n (n := 49) (show xlook 135 48 = some (48, .iload_n 2, 1, 0, 0, 0, 0) from xlk (by decide +kernel)) rfl rfl ?_
        refine xw_goto (m := 77) (show xlook 135 49 = some (49, .goto 28, 3, 77, 0, 0, 0) from xlk (by decide +kernel)) rfl ?_
        refine xw_istore (n := 79) (show xlook 135 77 = some (77, .istore 7, 2, 0, 0, 0, 0) from xlk (by decide +kernel)) rfl (ls' := [.ref (131), vi (x1), vi (x2), vi (x3), vi (x4), vi (x5), vi (x6), vi (x2)]) (Nat.le_of_ble_eq_true rfl) rfl ?_
        refine xw_aload_n (n := 80) (show xlook 135 79 = some (79, .aload_n 0, 1, 0, 0, 0, 0) from xlk (by decide +kernel)) rfl rfl ?_
        refine xw_getr (q := 134) (show xlook 135 80 = some (80, .getfield 20, 3, 12, 3, 0, 222) from xlk (by decide +kernel)) (by decide) (xobf xob_12 (by decide) (by decide)) rfl (xPT_get (k := 3) (f := 3) hPT xob_12 (by decide)) (by have := (xtg_12_3 _ xob_12.1 xob_12.2).1.1; omega) (n := 83) rfl ?_
        refine xw_aload_n (n := 84) (show xlook 135 83 = some (83, .aload_n 0, 1, 0, 0, 0, 0) from xlk (by decide +kernel)) rfl rfl ?_
        refine xw_geti (show xlook 135 84 = some (84, .getfield 67, 3, 12, 4, 0, 236) from xlk (by decide +kernel)) (by decide) (xobf xob_12 (by decide) (by decide)) rfl (n := 87) rfl ?_
        refine xw_iload (n := 89) (show xlook 135 87 = some (87, .iload 7, 2, 0, 0, 0, 0) from xlk (by decide +kernel)) rfl rfl ?_
        refine xw_bipush (n := 91) (show xlook 135 89 = some (89, .bipush 24, 2, 0, 0, 0, 0) from xlk (by decide +kernel)) rfl (by decide) ?_
        refine xw_bipush (n := 93) (show xlook 135 91 = some (91, .bipush 8, 2, 0, 0, 0, 0) from xlk (by decide +kernel)) rfl (by decide) ?_
        refine xw_iload (n := 95) (show xlook 135 93 = some (93, .iload 6, 2, 0, 0, 0, 0) from xlk (by decide +kernel)) rfl rfl ?_
        refine xw_iconst (n := 96) (show xlook 135 95 = some (95, .iconst 4, 1, 0, 0, 0, 0) from xlk (by decide +kernel)) rfl ?_
        obtain ⟨q1, q2, t⟩ := t
        refine xw_irem (n := 97) (show xlook 135 96 = some (96, .irem, 1, 0, 0, 0, 0) from xlk (by decide +kernel)) rfl q1 q2 ?_
        refine xw_imul (n := 98) (show xlook 135 97 = some (97, .imul, 1, 0, 0, 0, 0) from xlk (by decide +kernel)) rfl ?_
        refine xw_isub (n := 99) (show xlook 135 98 = some (98, .isub, 1, 0, 0, 0, 0) from xlk (by decide +kernel)) rfl ?_
        refine xw_ishr (n := 100) (show xlook 135 99 = some (99, .ishr, 1, 0, 0, 0, 0) from xlk (by decide +kernel)) rfl ?_
        refine xw_i2b (n := 101) (show xlook 135 100 = some (100, .i2b, 1, 0, 0, 0, 0) from xlk (by decide +kernel)) rfl ?_
        obtain ⟨q1, t⟩ := t
        refine xw_bast (show xlook 135 101 = some (101, .bastore, 1, 0, 0, 0, 0) from xlk (by decide +kernel)) (xtg_12_3 _ xob_12.1 xob_12.2).1 (by rw [(xtg_12_3 _ xob_12.1 xob_12.2).2]; exact q1) (n := 102) rfl ?_
        refine xw_aload_n (n := 103) (show xlook 135 102 = some (102, .aload_n 0, 1, 0, 0, 0, 0) from xlk (by decide +kernel)) rfl rfl ?_
        refine xw_dupr (n := 104) (show xlook 135 103 = some (103, .dup, 1, 0, 0, 0, 0) from xlk (by decide +kernel)) rfl ?_
        refine xw_geti2 (u := (F) (131) 4) (show xlook 135 104 = some (104, .getfield 67, 3, 12, 4, 0, 236) from xlk (by decide +kernel)) (by decide) (xobf xob_12 (by decide) (by decide)) rfl (xup_o (by decide)) (n := 107) rfl ?_
        refine xw_iconst (n := 108) (show xlook 135 107 = some (107, .iconst 1, 1, 0, 0, 0, 0) from xlk (by decide +kernel)) rfl ?_
        refine xw_iadd (n := 109) (show xlook 135 108 = some (108, .iadd, 1, 0, 0, 0, 0) from xlk (by decide +kernel)) rfl ?_
        refine xw_puti (show xlook 135 109 = some (109, .putfield 67, 3, 12, 4, 0, 236) from xlk (by decide +kernel)) (xobf xob_12 (by decide) (by decide)) rfl (n := 112) rfl ?_
        refine xw_iinc (n := 115) (show xlook 135 112 = some (112, .iinc 6 1, 3, 0, 0, 0, 0) from xlk (by decide +kernel)) rfl (ls' := [.ref (131), vi (x1), vi (x2), vi (x3), vi (x4), vi (x5), vi (x6 + 1), vi (x2)]) rfl rfl ?_
        refine xw_goto (m := 24) (show xlook 135 115 = some (115, .goto (-91), 3, 24, 0, 0, 0) from xlk (by decide +kernel)) rfl ?_
        exact t (xPT_fld (k := 4) (xPT_arr hPT (Or.inr (xtg_12_3 _ xob_12.1 xob_12.2).1.2)) xob_12 (by decide) (by decide))
    · replace t := t.2 c
      refine xw_iload_n (n := 38) (show xlook 135 37 = some (37, .iload_n 1, 1, 0, 0, 0, 0) from xlk (by decide +kernel)) rfl rfl ?_
      refine xw_goto (m := 77) (show xlook 135 38 = some (38, .goto 39, 3, 77, 0, 0, 0) from xlk (by decide +kernel)) rfl ?_
      refine xw_istore (n := 79) (show xlook 135 77 = some (77, .istore 7, 2, 0, 0, 0, 0) from xlk (by decide +kernel)) rfl (ls' := [.ref (131), vi (x1), vi (x2), vi (x3), vi (x4), vi (x5), vi (x6), vi (x1)]) (Nat.le_of_ble_eq_true rfl) rfl ?_
      refine xw_aload_n (n := 80) (show xlook 135 79 = some (79, .aload_n 0, 1, 0, 0, 0, 0) from xlk (by decide +kernel)) rfl rfl ?_
      refine xw_getr (q := 134) (show xlook 135 80 = some (80, .getfield 20, 3, 12, 3, 0, 222) from xlk (by decide +kernel)) (by decide) (xobf xob_12 (by decide) (by decide)) rfl (xPT_get (k := 3) (f := 3) hPT xob_12 (by decide)) (by have := (xtg_12_3 _ xob_12.1 xob_12.2).1.1; omega) (n := 83) rfl ?_
      refine xw_aload_n (n := 84) (show xlook 135 83 = some (83, .aload_n 0, 1, 0, 0, 0, 0) from xlk (by decide +kernel)) rfl rfl ?_
      refine xw_geti (show xlook 135 84 = some (84, .getfield 67, 3, 12, 4, 0, 236) from xlk (by decide +kernel)) (by decide) (xobf xob_12 (by decide) (by decide)) rfl (n := 87) rfl ?_
      refine xw_iload (n := 89) (show xlook 135 87 = some (87, .iload 7, 2, 0, 0, 0, 0) from xlk (by decide +kernel)) rfl rfl ?_
      refine xw_bipush (n := 91) (show xlook 135 89 = some (89, .bipush 24, 2, 0, 0, 0, 0) from xlk (by decide +kernel)) rfl (by decide) ?_
      refine xw_bipush (n := 93) (show xlook 135 91 = some (91, .bipush 8, 2, 0, 0, 0, 0) from xlk (by decide +kernel)) rfl (by decide) ?_
      refine xw_iload (n := 95) (show xlook 135 93 = some (93, .iload 6, 2, 0, 0, 0, 0) from xlk (by decide +kernel)) rfl rfl ?_
      refine xw_iconst (n := 96) (show xlook 135 95 = some (95, .iconst 4, 1, 0, 0, 0, 0) from xlk (by decide +kernel)) rfl ?_
      obtain ⟨q1, q2, t⟩ := t
      refine xw_irem (n := 97) (show xlook 135 96 = some (96, .irem, 1, 0, 0, 0, 0) from xlk (by decide +kernel)) rfl q1 q2 ?_
      refine xw_imul (n := 98) (show xlook 135 97 = some (97, .imul, 1, 0, 0, 0, 0) from xlk (by decide +kernel)) rfl ?_
      refine xw_isub (n := 99) (show xlook 135 98 = some (98, .isub, 1, 0, 0, 0, 0) from xlk (by decide +kernel)) rfl ?_
      refine xw_ishr (n := 100) (show xlook 135 99 = some (99, .ishr, 1, 0, 0, 0, 0) from xlk (by decide +kernel)) rfl ?_
      refine xw_i2b (n := 101) (show xlook 135 100 = some (100, .i2b, 1, 0, 0, 0, 0) from xlk (by decide +kernel)) rfl ?_
      obtain ⟨q1, t⟩ := t
      refine xw_bast (show xlook 135 101 = some (101, .bastore, 1, 0, 0, 0, 0) from xlk (by decide +kernel)) (xtg_12_3 _ xob_12.1 xob_12.2).1 (by rw [(xtg_12_3 _ xob_12.1 xob_12.2).2]; exact q1) (n := 102) rfl ?_
      refine xw_aload_n (n := 103) (show xlook 135 102 = some (102, .aload_n 0, 1, 0, 0, 0, 0) from xlk (by decide +kernel)) rfl rfl ?_
      refine xw_dupr (n := 104) (show xlook 135 103 = some (103, .dup, 1, 0, 0, 0, 0) from xlk (by decide +kernel)) rfl ?_
      refine xw_geti2 (u := (F) (131) 4) (show xlook 135 104 = some (104, .getfield 67, 3, 12, 4, 0, 236) from xlk (by decide +kernel)) (by decide) (xobf xob_12 (by decide) (by decide)) rfl (xup_o (by decide)) (n := 107) rfl ?_
      refine xw_iconst (n := 108) (show xlook 135 107 = some (107, .iconst 1, 1, 0, 0, 0, 0) from xlk (by decide +kernel)) rfl ?_
      refine xw_iadd (n := 109) (show xlook 135 108 = some (108, .iadd, 1, 0, 0, 0, 0) from xlk (by decide +kernel)) rfl ?_
      refine xw_puti (show xlook 135 109 = some (109, .putfield 67, 3, 12, 4, 0, 236) from xlk (by decide +kernel)) (xobf xob_12 (by decide) (by decide)) rfl (n := 112) rfl ?_
      refine xw_iinc (n := 115) (show xlook 135 112 = some (112, .iinc 6 1, 3, 0, 0, 0, 0) from xlk (by decide +kernel)) rfl (ls' := [.ref (131), vi (x1), vi (x2), vi (x3), vi (x4), vi (x5), vi (x6 + 1), vi (x1)]) rfl rfl ?_
      refine xw_goto (m := 24) (show xlook 135 115 = some (115, .goto (-91), 3, 24, 0, 0, 0) from xlk (by decide +kernel)) rfl ?_
      exact t (xPT_fld (k := 4) (xPT_arr hPT (Or.inr (xtg_12_3 _ xob_12.1 xob_12.2).1.2)) xob_12 (by decide) (by decide))

theorem s136_0 {X : List Int32} {d : Nat} {F : XF} {Q : Int → XF → Prop}  (hPT : xPT F)  (t : inR ((F) (131) 6) ∧ inR ((F) (131) 5) ∧ (((((F) (131) 5) ≤ ((F) (131) 6)) → (xPT (F) → xW X d 136 38 [.ref (131)] [] (F) (xqi Q))) ∧ (¬ (((F) (131) 5) ≤ ((F) (131) 6)) → ((0 ≤ ((F) (131) 6) ∧ ((F) (131) 6) < 600) ∧ (inR ((F) (134) ((F) (131) 6)) ∧ (((¬ ((F) (134) ((F) (131) 6)) = (32)) → (xPT (F) → xW X d 136 38 [.ref (131)] [] (F) (xqi Q))) ∧ (¬ (¬ ((F) (134) ((F) (131) 6)) = (32)) → (xPT (xup (F) (131) 6 (((F) (131) 6) + (1))) → xW X d 136 0 [.ref (131)] [] (xup (F) (131) 6 (((F) (131) 6) + (1))) (xqi Q))))))))) : xW X d 136 0 [.ref (131)] [] F (xqi Q) := by
  refine xw_aload_n (n := 1) (show xlook 136 0 = some (0, .aload_n 0, 1, 0, 0, 0, 0) from xlk (by decide +kernel)) rfl rfl ?_
  refine xw_geti (show xlook 136 1 = some (1, .getfield 70, 3, 12, 6, 0, 237) from xlk (by decide +kernel)) (by decide) (xobf xob_12 (by decide) (by decide)) rfl (n := 4) rfl ?_
  refine xw_aload_n (n := 5) (show xlook 136 4 = some (4, .aload_n 0, 1, 0, 0, 0, 0) from xlk (by decide +kernel)) rfl rfl ?_
  refine xw_geti (show xlook 136 5 = some (5, .getfield 73, 3, 12, 5, 0, 238) from xlk (by decide +kernel)) (by decide) (xobf xob_12 (by decide) (by decide)) rfl (n := 8) rfl ?_
  obtain ⟨q0, q1, t⟩ := t
  refine xw_icmp_ge (n := 11) (m := 38) (show xlook 136 8 = some (8, .if_icmp .ge 30, 3, 38, 0, 0, 0) from xlk (by decide +kernel)) rfl rfl q0 q1 ⟨fun c => ?_, fun c => ?_⟩
  · replace t := t.1 c
    exact t hPT
  · replace t := t.2 c
    refine xw_aload_n (n := 12) (show xlook 136 11 = some (11, .aload_n 0, 1, 0, 0, 0, 0) from xlk (by decide +kernel)) rfl rfl ?_
    refine xw_getr (q := 134) (show xlook 136 12 = some (12, .getfield 20, 3, 12, 3, 0, 222) from xlk (by decide +kernel)) (by decide) (xobf xob_12 (by decide) (by decide)) rfl (xPT_get (k := 3) (f := 3) hPT xob_12 (by decide)) (by have := (xtg_12_3 _ xob_12.1 xob_12.2).1.1; omega) (n := 15) rfl ?_
    refine xw_aload_n (n := 16) (show xlook 136 15 = some (15, .aload_n 0, 1, 0, 0, 0, 0) from xlk (by decide +kernel)) rfl rfl ?_
    refine xw_geti (show xlook 136 16 = some (16, .getfield 70, 3, 12, 6, 0, 237) from xlk (by decide +kernel)) (by decide) (xobf xob_12 (by decide) (by decide)) rfl (n := 19) rfl ?_
    obtain ⟨q1, t⟩ := t
    refine xw_bald (show xlook 136 19 = some (19, .baload, 1, 0, 0, 0, 0) from xlk (by decide +kernel)) (xtg_12_3 _ xob_12.1 xob_12.2).1 (by rw [(xtg_12_3 _ xob_12.1 xob_12.2).2]; exact q1) (n := 20) rfl ?_
    refine xw_bipush (n := 22) (show xlook 136 20 = some (20, .bipush 32, 2, 0, 0, 0, 0) from xlk (by decide +kernel)) rfl (by decide) ?_
    obtain ⟨q0, t⟩ := t
    refine xw_icmp_ne (n := 25) (m := 38) (show xlook 136 22 = some (22, .if_icmp .ne 16, 3, 38, 0, 0, 0) from xlk (by decide +kernel)) rfl rfl q0 ⟨by decide, by decide⟩ ⟨fun c => ?_, fun c => ?_⟩
    · replace t := t.1 c
      exact t hPT
    · replace t := t.2 c
      refine xw_aload_n (n := 26) (show xlook 136 25 = some (25, .aload_n 0, 1, 0, 0, 0, 0) from xlk (by decide +kernel)) rfl rfl ?_
      refine xw_dupr (n := 27) (show xlook 136 26 = some (26, .dup, 1, 0, 0, 0, 0) from xlk (by decide +kernel)) rfl ?_
      refine xw_geti (show xlook 136 27 = some (27, .getfield 70, 3, 12, 6, 0, 237) from xlk (by decide +kernel)) (by decide) (xobf xob_12 (by decide) (by decide)) rfl (n := 30) rfl ?_
      refine xw_iconst (n := 31) (show xlook 136 30 = some (30, .iconst 1, 1, 0, 0, 0, 0) from xlk (by decide +kernel)) rfl ?_
      refine xw_iadd (n := 32) (show xlook 136 31 = some (31, .iadd, 1, 0, 0, 0, 0) from xlk (by decide +kernel)) rfl ?_
      refine xw_puti (show xlook 136 32 = some (32, .putfield 70, 3, 12, 6, 0, 237) from xlk (by decide +kernel)) (xobf xob_12 (by decide) (by decide)) rfl (n := 35) rfl ?_
      refine xw_goto (m := 0) (show xlook 136 35 = some (35, .goto (-35), 3, 0, 0, 0, 0) from xlk (by decide +kernel)) rfl ?_
      exact t (xPT_fld (k := 6) hPT xob_12 (by decide) (by decide))
theorem m136 {X : List Int32} {d : Nat} {F : XF} {Q : Int → XF → Prop}  (hPT : xPT F)  (t : inR ((F) (131) 6) ∧ inR ((F) (131) 5) ∧ (((((F) (131) 5) ≤ ((F) (131) 6)) → (xPT (F) → xW X d 136 38 [.ref (131)] [] (F) (xqi Q))) ∧ (¬ (((F) (131) 5) ≤ ((F) (131) 6)) → ((0 ≤ ((F) (131) 6) ∧ ((F) (131) 6) < 600) ∧ (inR ((F) (134) ((F) (131) 6)) ∧ (((¬ ((F) (134) ((F) (131) 6)) = (32)) → (xPT (F) → xW X d 136 38 [.ref (131)] [] (F) (xqi Q))) ∧ (¬ (¬ ((F) (134) ((F) (131) 6)) = (32)) → (xPT (xup (F) (131) 6 (((F) (131) 6) + (1))) → xW X d 136 0 [.ref (131)] [] (xup (F) (131) 6 (((F) (131) 6) + (1))) (xqi Q))))))))) : xMI X d 136 [.ref (131)] F Q := by
  show xW X d 136 0 [.ref (131)] [] F (xqi Q)
  exact s136_0 hPT  t

theorem s136_38 {X : List Int32} {d : Nat} {F : XF} {Q : Int → XF → Prop}  (hPT : xPT F)  (t : inR ((F) (131) 6) ∧ inR ((F) (131) 5) ∧ (((((F) (131) 5) ≤ ((F) (131) 6)) → (xPT (F) → Q ((-1)) (F))) ∧ (¬ (((F) (131) 5) ≤ ((F) (131) 6)) → ((0 ≤ ((F) (131) 6) ∧ ((F) (131) 6) < 600) ∧ (xPT (F) → Q (xand ((F) (134) ((F) (131) 6)) (255)) (F)))))) : xW X d 136 38 [.ref (131)] [] F (xqi Q) := by
  refine xw_aload_n (n := 39) (show xlook 136 38 = some (38, .aload_n 0, 1, 0, 0, 0, 0) from xlk (by decide +kernel)) rfl rfl ?_
  refine xw_geti (show xlook 136 39 = some (39, .getfield 70, 3, 12, 6, 0, 237) from xlk (by decide +kernel)) (by decide) (xobf xob_12 (by decide) (by decide)) rfl (n := 42) rfl ?_
  refine xw_aload_n (n := 43) (show xlook 136 42 = some (42, .aload_n 0, 1, 0, 0, 0, 0) from xlk (by decide +kernel)) rfl rfl ?_
  refine xw_geti (show xlook 136 43 = some (43, .getfield 73, 3, 12, 5, 0, 238) from xlk (by decide +kernel)) (by decide) (xobf xob_12 (by decide) (by decide)) rfl (n := 46) rfl ?_
  obtain ⟨q0, q1, t⟩ := t
  refine xw_icmp_ge (n := 49) (m := 65) (show xlook 136 46 = some (46, .if_icmp .ge 19, 3, 65, 0, 0, 0) from xlk (by decide +kernel)) rfl rfl q0 q1 ⟨fun c => ?_, fun c => ?_⟩
  · replace t := t.1 c
    refine xw_iconst (n := 66) (show xlook 136 65 = some (65, .iconst (-1), 1, 0, 0, 0, 0) from xlk (by decide +kernel)) rfl ?_
    exact xw_ireturn hPT (show xlook 136 66 = some (66, .ireturn, 1, 0, 0, 0, 0) from xlk (by decide +kernel)) rfl (t hPT)
  · replace t := t.2 c
    refine xw_aload_n (n := 50) (show xlook 136 49 = some (49, .aload_n 0, 1, 0, 0, 0, 0) from xlk (by decide +kernel)) rfl rfl ?_
    refine xw_getr (q := 134) (show xlook 136 50 = some (50, .getfield 20, 3, 12, 3, 0, 222) from xlk (by decide +kernel)) (by decide) (xobf xob_12 (by decide) (by decide)) rfl (xPT_get (k := 3) (f := 3) hPT xob_12 (by decide)) (by have := (xtg_12_3 _ xob_12.1 xob_12.2).1.1; omega) (n := 53) rfl ?_
    refine xw_aload_n (n := 54) (show xlook 136 53 = some (53, .aload_n 0, 1, 0, 0, 0, 0) from xlk (by decide +kernel)) rfl rfl ?_
    refine xw_geti (show xlook 136 54 = some (54, .getfield 70, 3, 12, 6, 0, 237) from xlk (by decide +kernel)) (by decide) (xobf xob_12 (by decide) (by decide)) rfl (n := 57) rfl ?_
    obtain ⟨q1, t⟩ := t
    refine xw_bald (show xlook 136 57 = some (57, .baload, 1, 0, 0, 0, 0) from xlk (by decide +kernel)) (xtg_12_3 _ xob_12.1 xob_12.2).1 (by rw [(xtg_12_3 _ xob_12.1 xob_12.2).2]; exact q1) (n := 58) rfl ?_
    refine xw_sipush (n := 61) (show xlook 136 58 = some (58, .sipush 255, 3, 0, 0, 0, 0) from xlk (by decide +kernel)) rfl (by decide) ?_
    refine xw_iand (n := 62) (show xlook 136 61 = some (61, .iand, 1, 0, 0, 0, 0) from xlk (by decide +kernel)) rfl ?_
    refine xw_goto (m := 66) (show xlook 136 62 = some (62, .goto 4, 3, 66, 0, 0, 0) from xlk (by decide +kernel)) rfl ?_
    exact xw_ireturn hPT (show xlook 136 66 = some (66, .ireturn, 1, 0, 0, 0, 0) from xlk (by decide +kernel)) rfl (t hPT)

theorem s137_0 {X : List Int32} {d : Nat} {F : XF} {Q : XF → Prop} {x1 : Int} {x2 : Int} (hPT : xPT F)  (t : inR ((F) (131) 7) ∧ (((((F) (131) 7) = (0)) → (xPT (xup (xup (F) (131) 7 (x1)) (131) 8 (x2)) → Q (xup (xup (F) (131) 7 (x1)) (131) 8 (x2)))) ∧ (¬ (((F) (131) 7) = (0)) → (xPT (F) → Q (F))))) : xW X d 137 0 [.ref (131), vi (x1), vi (x2)] [] F (xqv Q) := by
  refine xw_aload_n (n := 1) (show xlook 137 0 = some (0, .aload_n 0, 1, 0, 0, 0, 0) from xlk (by decide +kernel)) rfl rfl ?_
  refine xw_geti (show xlook 137 1 = some (1, .getfield 76, 3, 12, 7, 0, 239) from xlk (by decide +kernel)) (by decide) (xobf xob_12 (by decide) (by decide)) rfl (n := 4) rfl ?_
  obtain ⟨q0, t⟩ := t
  refine xw_if_eq (n := 7) (m := 8) (show xlook 137 4 = some (4, .ifCond .eq 4, 3, 8, 0, 0, 0) from xlk (by decide +kernel)) rfl rfl q0 ⟨fun c => ?_, fun c => ?_⟩
  · replace t := t.1 c
    refine xw_aload_n (n := 9) (show xlook 137 8 = some (8, .aload_n 0, 1, 0, 0, 0, 0) from xlk (by decide +kernel)) rfl rfl ?_
    refine xw_iload_n (n := 10) (show xlook 137 9 = some (9, .iload_n 1, 1, 0, 0, 0, 0) from xlk (by decide +kernel)) rfl rfl ?_
    refine xw_puti (show xlook 137 10 = some (10, .putfield 76, 3, 12, 7, 0, 239) from xlk (by decide +kernel)) (xobf xob_12 (by decide) (by decide)) rfl (n := 13) rfl ?_
    refine xw_aload_n (n := 14) (show xlook 137 13 = some (13, .aload_n 0, 1, 0, 0, 0, 0) from xlk (by decide +kernel)) rfl rfl ?_
    refine xw_iload_n (n := 15) (show xlook 137 14 = some (14, .iload_n 2, 1, 0, 0, 0, 0) from xlk (by decide +kernel)) rfl rfl ?_
    refine xw_puti (show xlook 137 15 = some (15, .putfield 24, 3, 12, 8, 0, 223) from xlk (by decide +kernel)) (xobf xob_12 (by decide) (by decide)) rfl (n := 18) rfl ?_
    exact xw_return (xPT_fld (k := 8) (xPT_fld (k := 7) hPT xob_12 (by decide) (by decide)) xob_12 (by decide) (by decide)) (show xlook 137 18 = some (18, .return_, 1, 0, 0, 0, 0) from xlk (by decide +kernel)) rfl (t (xPT_fld (k := 8) (xPT_fld (k := 7) hPT xob_12 (by decide) (by decide)) xob_12 (by decide) (by decide)))
  · replace t := t.2 c
    exact xw_return hPT (show xlook 137 7 = some (7, .return_, 1, 0, 0, 0, 0) from xlk (by decide +kernel)) rfl (t hPT)
theorem m137 {X : List Int32} {d : Nat} {F : XF} {Q : XF → Prop} {x1 : Int} {x2 : Int} (hPT : xPT F)  (t : inR ((F) (131) 7) ∧ (((((F) (131) 7) = (0)) → (xPT (xup (xup (F) (131) 7 (x1)) (131) 8 (x2)) → Q (xup (xup (F) (131) 7 (x1)) (131) 8 (x2)))) ∧ (¬ (((F) (131) 7) = (0)) → (xPT (F) → Q (F))))) : xMV X d 137 [.ref (131), vi (x1), vi (x2)] F Q := by
  show xW X d 137 0 [.ref (131), vi (x1), vi (x2)] [] F (xqv Q)
  exact s137_0 hPT  t

theorem s138_0 {X : List Int32} {d : Nat} {F : XF} {Q : Int → XF → Prop} {x0 : Int} (hPT : xPT F)  (t : (inR (x0)) ∧ (∃ (j1 : Nat), j1 < d ∧ xMI X j1 132 [vl (x0), vl (97), vl (122)] (F) (fun (y1 : Int) (G1 : XF) => (((y1 : Int) = 0 ∨ (y1 : Int) = 1) ∧ (xPT (G1) → Q (y1) (G1)))))) : xW X d 138 0 [vi (x0)] [] F (xqi Q) := by
  refine xw_iload_n (n := 1) (show xlook 138 0 = some (0, .iload_n 0, 1, 0, 0, 0, 0) from xlk (by decide +kernel)) rfl rfl ?_
  obtain ⟨q1, t⟩ := t
  refine xw_i2l (n := 2) (show xlook 138 1 = some (1, .i2l, 1, 0, 0, 0, 0) from xlk (by decide +kernel)) rfl q1 ?_
  refine xw_ldc2 (n := 5) (show xlook 138 2 = some (2, .ldc2_w 79, 3, 0, 0, 97, 4) from xlk (by decide +kernel)) rfl ?_
  refine xw_ldc2 (n := 8) (show xlook 138 5 = some (5, .ldc2_w 81, 3, 0, 0, 122, 5) from xlk (by decide +kernel)) rfl ?_
  obtain ⟨j1, hj1, rr1, G1, hm1, hG1, t⟩ := t
  obtain ⟨y1, rfl, t⟩ := t
  refine xw_calls (dk := j1) (as := [vl (x0), vl (97), vl (122)]) (show xlook 138 8 = some (8, .invokestatic 83, 3, 132, 3, 0, 151) from xlk (by decide +kernel)) (by decide) hj1 ⟨Nat.le_of_ble_eq_true rfl, Nat.le_of_ble_eq_true rfl, Nat.le_of_ble_eq_true rfl, by decide⟩ rfl hm1 (n := 11) rfl ?_
  show xW X d 138 11 [vi (x0)] [vi (y1)] G1 (xqi Q)
  obtain ⟨q1, t⟩ := t
  exact xw_zreturn hG1 (show xlook 138 11 = some (11, .ireturn, 1, 0, 0, 0, 0) from xlk (by decide +kernel)) rfl q1 (t hG1)
theorem m138 {X : List Int32} {d : Nat} {F : XF} {Q : Int → XF → Prop} {x0 : Int} (hPT : xPT F)  (t : (inR (x0)) ∧ (∃ (j1 : Nat), j1 < d ∧ xMI X j1 132 [vl (x0), vl (97), vl (122)] (F) (fun (y1 : Int) (G1 : XF) => (((y1 : Int) = 0 ∨ (y1 : Int) = 1) ∧ (xPT (G1) → Q (y1) (G1)))))) : xMI X d 138 [vi (x0)] F Q := by
  show xW X d 138 0 [vi (x0)] [] F (xqi Q)
  exact s138_0 hPT  t

theorem s139_0 {X : List Int32} {d : Nat} {F : XF} {Q : Int → XF → Prop} {x0 : Int} (hPT : xPT F)  (t : (inR (x0)) ∧ (∃ (j1 : Nat), j1 < d ∧ xMI X j1 132 [vl (x0), vl (48), vl (57)] (F) (fun (y1 : Int) (G1 : XF) => (((y1 : Int) = 0 ∨ (y1 : Int) = 1) ∧ (xPT (G1) → Q (y1) (G1)))))) : xW X d 139 0 [vi (x0)] [] F (xqi Q) := by
  refine xw_iload_n (n := 1) (show xlook 139 0 = some (0, .iload_n 0, 1, 0, 0, 0, 0) from xlk (by decide +kernel)) rfl rfl ?_
  obtain ⟨q1, t⟩ := t
  refine xw_i2l (n := 2) (show xlook 139 1 = some (1, .i2l, 1, 0, 0, 0, 0) from xlk (by decide +kernel)) rfl q1 ?_
  refine xw_ldc2 (n := 5) (show xlook 139 2 = some (2, .ldc2_w 87, 3, 0, 0, 48, 6) from xlk (by decide +kernel)) rfl ?_
  refine xw_ldc2 (n := 8) (show xlook 139 5 = some (5, .ldc2_w 89, 3, 0, 0, 57, 7) from xlk (by decide +kernel)) rfl ?_
  obtain ⟨j1, hj1, rr1, G1, hm1, hG1, t⟩ := t
  obtain ⟨y1, rfl, t⟩ := t
  refine xw_calls (dk := j1) (as := [vl (x0), vl (48), vl (57)]) (show xlook 139 8 = some (8, .invokestatic 83, 3, 132, 3, 0, 151) from xlk (by decide +kernel)) (by decide) hj1 ⟨Nat.le_of_ble_eq_true rfl, Nat.le_of_ble_eq_true rfl, Nat.le_of_ble_eq_true rfl, by decide⟩ rfl hm1 (n := 11) rfl ?_
  show xW X d 139 11 [vi (x0)] [vi (y1)] G1 (xqi Q)
  obtain ⟨q1, t⟩ := t
  exact xw_zreturn hG1 (show xlook 139 11 = some (11, .ireturn, 1, 0, 0, 0, 0) from xlk (by decide +kernel)) rfl q1 (t hG1)
theorem m139 {X : List Int32} {d : Nat} {F : XF} {Q : Int → XF → Prop} {x0 : Int} (hPT : xPT F)  (t : (inR (x0)) ∧ (∃ (j1 : Nat), j1 < d ∧ xMI X j1 132 [vl (x0), vl (48), vl (57)] (F) (fun (y1 : Int) (G1 : XF) => (((y1 : Int) = 0 ∨ (y1 : Int) = 1) ∧ (xPT (G1) → Q (y1) (G1)))))) : xMI X d 139 [vi (x0)] F Q := by
  show xW X d 139 0 [vi (x0)] [] F (xqi Q)
  exact s139_0 hPT  t

theorem s140_0 {X : List Int32} {d : Nat} {F : XF} {Q : Int → XF → Prop} {w1 : Value} {w2 : Value} {w3 : Value} {w4 : Value} {w5 : Value} {w6 : Value} (hPT : xPT F)  (t : inR ((F) (131) 7) ∧ (((¬ ((F) (131) 7) = (0)) → (xPT (F) → Q ((-1)) (F))) ∧ (¬ (¬ ((F) (131) 7) = (0)) → (∃ (j1 : Nat), j1 < d ∧ xMI X j1 136 [.ref (131)] (F) (fun (y1 : Int) (G1 : XF) => (∃ (j2 : Nat), j2 < d ∧ xMI X j2 138 [vi (y1)] (G1) (fun (y2 : Int) (G2 : XF) => (inR (y2) ∧ (((¬ (y2) = (0)) → (xPT (G2) → xW X d 140 21 [.ref (131), vi (0), w2, w3, w4, w5, w6] [] (G2) (xqi Q))) ∧ (¬ (¬ (y2) = (0)) → (xPT (G2) → Q ((-1)) (G2)))))))))))) : xW X d 140 0 [.ref (131), w1, w2, w3, w4, w5, w6] [] F (xqi Q) := by
  refine xw_aload_n (n := 1) (show xlook 140 0 = some (0, .aload_n 0, 1, 0, 0, 0, 0) from xlk (by decide +kernel)) rfl rfl ?_
  refine xw_geti (show xlook 140 1 = some (1, .getfield 76, 3, 12, 7, 0, 239) from xlk (by decide +kernel)) (by decide) (xobf xob_12 (by decide) (by decide)) rfl (n := 4) rfl ?_
  obtain ⟨q0, t⟩ := t
  refine xw_if_ne (n := 7) (m := 17) (show xlook 140 4 = some (4, .ifCond .ne 13, 3, 17, 0, 0, 0) from xlk (by decide +kernel)) rfl rfl q0 ⟨fun c => ?_, fun c => ?_⟩
  · replace t := t.1 c
    refine xw_iconst (n := 18) (show xlook 140 17 = some (17, .iconst (-1), 1, 0, 0, 0, 0) from xlk (by decide +kernel)) rfl ?_
    exact xw_ireturn hPT (show xlook 140 18 = some (18, .ireturn, 1, 0, 0, 0, 0) from xlk (by decide +kernel)) rfl (t hPT)
  · replace t := t.2 c
    refine xw_aload_n (n := 8) (show xlook 140 7 = some (7, .aload_n 0, 1, 0, 0, 0, 0) from xlk (by decide +kernel)) rfl rfl ?_
    obtain ⟨j1, hj1, rr1, G1, hm1, hG1, t⟩ := t
    obtain ⟨y1, rfl, t⟩ := t
    refine xw_callv (dk := j1) (o := 131) (as := []) (show xlook 140 8 = some (8, .invokevirtual 91, 3, 136, 1, 0, 152) from xlk (by decide +kernel)) (by decide) hj1 ⟨Nat.le_of_ble_eq_true rfl, Nat.le_of_ble_eq_true rfl, Nat.le_of_ble_eq_true rfl⟩ ⟨xob_12.1, xob_12.2, by decide⟩ rfl hm1 (n := 11) rfl ?_
    show xW X d 140 11 [.ref (131), w1, w2, w3, w4, w5, w6] [vi (y1)] G1 (xqi Q)
    obtain ⟨j2, hj2, rr2, G2, hm2, hG2, t⟩ := t
    obtain ⟨y2, rfl, t⟩ := t
    refine xw_calls (dk := j2) (as := [vi (y1)]) (show xlook 140 11 = some (11, .invokestatic 95, 3, 138, 1, 0, 153) from xlk (by decide +kernel)) (by decide) hj2 ⟨Nat.le_of_ble_eq_true rfl, Nat.le_of_ble_eq_true rfl, Nat.le_of_ble_eq_true rfl, by decide⟩ rfl hm2 (n := 14) rfl ?_
    show xW X d 140 14 [.ref (131), w1, w2, w3, w4, w5, w6] [vi (y2)] G2 (xqi Q)
    obtain ⟨q0, t⟩ := t
    refine xw_if_ne (n := 17) (m := 19) (show xlook 140 14 = some (14, .ifCond .ne 5, 3, 19, 0, 0, 0) from xlk (by decide +kernel)) rfl rfl q0 ⟨fun c => ?_, fun c => ?_⟩
    · replace t := t.1 c
      refine xw_iconst (n := 20) (show xlook 140 19 = some (19, .iconst 0, 1, 0, 0, 0, 0) from xlk (by decide +kernel)) rfl ?_
      refine xw_istore_n (n := 21) (show xlook 140 20 = some (20, .istore_n 1, 1, 0, 0, 0, 0) from xlk (by decide +kernel)) rfl (ls' := [.ref (131), vi (0), w2, w3, w4, w5, w6]) (Nat.le_of_ble_eq_true rfl) rfl ?_
      exact t hG2
    · replace t := t.2 c
      refine xw_iconst (n := 18) (show xlook 140 17 = some (17, .iconst (-1), 1, 0, 0, 0, 0) from xlk (by decide +kernel)) rfl ?_
      exact xw_ireturn hG2 (show xlook 140 18 = some (18, .ireturn, 1, 0, 0, 0, 0) from xlk (by decide +kernel)) rfl (t hG2)
theorem m140 {X : List Int32} {d : Nat} {F : XF} {Q : Int → XF → Prop}  (hPT : xPT F)  (t : inR ((F) (131) 7) ∧ (((¬ ((F) (131) 7) = (0)) → (xPT (F) → Q ((-1)) (F))) ∧ (¬ (¬ ((F) (131) 7) = (0)) → (∃ (j1 : Nat), j1 < d ∧ xMI X j1 136 [.ref (131)] (F) (fun (y1 : Int) (G1 : XF) => (∃ (j2 : Nat), j2 < d ∧ xMI X j2 138 [vi (y1)] (G1) (fun (y2 : Int) (G2 : XF) => (inR (y2) ∧ (((¬ (y2) = (0)) → (xPT (G2) → xW X d 140 21 [.ref (131), vi (0), xU0, xU0, xU0, xU0, xU0] [] (G2) (xqi Q))) ∧ (¬ (¬ (y2) = (0)) → (xPT (G2) → Q ((-1)) (G2)))))))))))) : xMI X d 140 [.ref (131)] F Q := by
  show xW X d 140 0 [.ref (131), xU0, xU0, xU0, xU0, xU0, xU0] [] F (xqi Q)
  exact s140_0 hPT  t

theorem s140_21 {X : List Int32} {d : Nat} {F : XF} {Q : Int → XF → Prop} {x1 : Int} {w2 : Value} {w3 : Value} {w4 : Value} {w5 : Value} {w6 : Value} (hPT : xPT F)  (t : inR (((F) (131) 6) + (x1)) ∧ inR ((F) (131) 5) ∧ (((((F) (131) 5) ≤ (((F) (131) 6) + (x1))) → (xPT (F) → xW X d 140 61 [.ref (131), vi (x1), vi (0), vi (1), w4, w5, w6] [] (F) (xqi Q))) ∧ (¬ (((F) (131) 5) ≤ (((F) (131) 6) + (x1))) → ((0 ≤ (((F) (131) 6) + (x1)) ∧ (((F) (131) 6) + (x1)) < 600) ∧ (∃ (j1 : Nat), j1 < d ∧ xMI X j1 138 [vi ((F) (134) (((F) (131) 6) + (x1)))] (F) (fun (y1 : Int) (G1 : XF) => (inR (y1) ∧ ((((y1) = (0)) → (xPT (G1) → xW X d 140 61 [.ref (131), vi (x1), vi (0), vi (1), w4, w5, w6] [] (G1) (xqi Q))) ∧ (¬ ((y1) = (0)) → (xPT (G1) → xW X d 140 21 [.ref (131), vi (x1 + 1), w2, w3, w4, w5, w6] [] (G1) (xqi Q))))))))))) : xW X d 140 21 [.ref (131), vi (x1), w2, w3, w4, w5, w6] [] F (xqi Q) := by
  refine xw_aload_n (n := 22) (show xlook 140 21 = some (21, .aload_n 0, 1, 0, 0, 0, 0) from xlk (by decide +kernel)) rfl rfl ?_
  refine xw_geti (show xlook 140 22 = some (22, .getfield 70, 3, 12, 6, 0, 237) from xlk (by decide +kernel)) (by decide) (xobf xob_12 (by decide) (by decide)) rfl (n := 25) rfl ?_
  refine xw_iload_n (n := 26) (show xlook 140 25 = some (25, .iload_n 1, 1, 0, 0, 0, 0) from xlk (by decide +kernel)) rfl rfl ?_
  refine xw_iadd (n := 27) (show xlook 140 26 = some (26, .iadd, 1, 0, 0, 0, 0) from xlk (by decide +kernel)) rfl ?_
  refine xw_aload_n (n := 28) (show xlook 140 27 = some (27, .aload_n 0, 1, 0, 0, 0, 0) from xlk (by decide +kernel)) rfl rfl ?_
  refine xw_geti (show xlook 140 28 = some (28, .getfield 73, 3, 12, 5, 0, 238) from xlk (by decide +kernel)) (by decide) (xobf xob_12 (by decide) (by decide)) rfl (n := 31) rfl ?_
  obtain ⟨q0, q1, t⟩ := t
  refine xw_icmp_ge (n := 34) (m := 57) (show xlook 140 31 = some (31, .if_icmp .ge 26, 3, 57, 0, 0, 0) from xlk (by decide +kernel)) rfl rfl q0 q1 ⟨fun c => ?_, fun c => ?_⟩
  · replace t := t.1 c
    refine xw_iconst (n := 58) (show xlook 140 57 = some (57, .iconst 0, 1, 0, 0, 0, 0) from xlk (by decide +kernel)) rfl ?_
    refine xw_istore_n (n := 59) (show xlook 140 58 = some (58, .istore_n 2, 1, 0, 0, 0, 0) from xlk (by decide +kernel)) rfl (ls' := [.ref (131), vi (x1), vi (0), w3, w4, w5, w6]) (Nat.le_of_ble_eq_true rfl) rfl ?_
    refine xw_iconst (n := 60) (show xlook 140 59 = some (59, .iconst 1, 1, 0, 0, 0, 0) from xlk (by decide +kernel)) rfl ?_
    refine xw_istore_n (n := 61) (show xlook 140 60 = some (60, .istore_n 3, 1, 0, 0, 0, 0) from xlk (by decide +kernel)) rfl (ls' := [.ref (131), vi (x1), vi (0), vi (1), w4, w5, w6]) (Nat.le_of_ble_eq_true rfl) rfl ?_
    exact t hPT
  · replace t := t.2 c
    refine xw_aload_n (n := 35) (show xlook 140 34 = some (34, .aload_n 0, 1, 0, 0, 0, 0) from xlk (by decide +kernel)) rfl rfl ?_
    refine xw_getr (q := 134) (show xlook 140 35 = some (35, .getfield 20, 3, 12, 3, 0, 222) from xlk (by decide +kernel)) (by decide) (xobf xob_12 (by decide) (by decide)) rfl (xPT_get (k := 3) (f := 3) hPT xob_12 (by decide)) (by have := (xtg_12_3 _ xob_12.1 xob_12.2).1.1; omega) (n := 38) rfl ?_
    refine xw_aload_n (n := 39) (show xlook 140 38 = some (38, .aload_n 0, 1, 0, 0, 0, 0) from xlk (by decide +kernel)) rfl rfl ?_
    refine xw_geti (show xlook 140 39 = some (39, .getfield 70, 3, 12, 6, 0, 237) from xlk (by decide +kernel)) (by decide) (xobf xob_12 (by decide) (by decide)) rfl (n := 42) rfl ?_
    refine xw_iload_n (n := 43) (show xlook 140 42 = some (42, .iload_n 1, 1, 0, 0, 0, 0) from xlk (by decide +kernel)) rfl rfl ?_
    refine xw_iadd (n := 44) (show xlook 140 43 = some (43, .iadd, 1, 0, 0, 0, 0) from xlk (by decide +kernel)) rfl ?_
    obtain ⟨q1, t⟩ := t
    refine xw_bald (show xlook 140 44 = some (44, .baload, 1, 0, 0, 0, 0) from xlk (by decide +kernel)) (xtg_12_3 _ xob_12.1 xob_12.2).1 (by rw [(xtg_12_3 _ xob_12.1 xob_12.2).2]; exact q1) (n := 45) rfl ?_
    obtain ⟨j1, hj1, rr1, G1, hm1, hG1, t⟩ := t
    obtain ⟨y1, rfl, t⟩ := t
    refine xw_calls (dk := j1) (as := [vi ((F) (134) (((F) (131) 6) + (x1)))]) (show xlook 140 45 = some (45, .invokestatic 95, 3, 138, 1, 0, 153) from xlk (by decide +kernel)) (by decide) hj1 ⟨Nat.le_of_ble_eq_true rfl, Nat.le_of_ble_eq_true rfl, Nat.le_of_ble_eq_true rfl, by decide⟩ rfl hm1 (n := 48) rfl ?_
    show xW X d 140 48 [.ref (131), vi (x1), w2, w3, w4, w5, w6] [vi (y1)] G1 (xqi Q)
    obtain ⟨q0, t⟩ := t
    refine xw_if_eq (n := 51) (m := 57) (show xlook 140 48 = some (48, .ifCond .eq 9, 3, 57, 0, 0, 0) from xlk (by decide +kernel)) rfl rfl q0 ⟨fun c => ?_, fun c => ?_⟩
    · replace t := t.1 c
      refine xw_iconst (n := 58) (show xlook 140 57 = some (57, .iconst 0, 1, 0, 0, 0, 0) from xlk (by decide +kernel)) rfl ?_
      refine xw_istore_n (n := 59) (show xlook 140 58 = some (58, .istore_n 2, 1, 0, 0, 0, 0) from xlk (by decide +kernel)) rfl (ls' := [.ref (131), vi (x1), vi (0), w3, w4, w5, w6]) (Nat.le_of_ble_eq_true rfl) rfl ?_
      refine xw_iconst (n := 60) (show xlook 140 59 = some (59, .iconst 1, 1, 0, 0, 0, 0) from xlk (by decide +kernel)) rfl ?_
      refine xw_istore_n (n := 61) (show xlook 140 60 = some (60, .istore_n 3, 1, 0, 0, 0, 0) from xlk (by decide +kernel)) rfl (ls' := [.ref (131), vi (x1), vi (0), vi (1), w4, w5, w6]) (Nat.le_of_ble_eq_true rfl) rfl ?_
      exact t hG1
    · replace t := t.2 c
      refine xw_iinc (n := 54) (show xlook 140 51 = some (51, .iinc 1 1, 3, 0, 0, 0, 0) from xlk (by decide +kernel)) rfl (ls' := [.ref (131), vi (x1 + 1), w2, w3, w4, w5, w6]) rfl rfl ?_
      refine xw_goto (m := 21) (show xlook 140 54 = some (54, .goto (-33), 3, 21, 0, 0, 0) from xlk (by decide +kernel)) rfl ?_
      exact t hG1

theorem s140_61 {X : List Int32} {d : Nat} {F : XF} {Q : Int → XF → Prop} {x1 : Int} {x2 : Int} {x3 : Int} {w4 : Value} {w5 : Value} {w6 : Value} (hPT : xPT F)  (t : ∃ (j1 : Nat), j1 < d ∧ xMI X j1 221 [.ref (xSB + 2 * 18)] (F) (fun (y1 : Int) (G1 : XF) => (inR (x3) ∧ inR (y1) ∧ ((((y1) ≤ (x3)) → (xPT (G1) → Q ((-1)) (G1))) ∧ (¬ ((y1) ≤ (x3)) → (xPT (G1) → xW X d 140 73 [.ref (131), vi (x1), vi (x2), vi (x3), vi (x3), w5, w6] [] (G1) (xqi Q))))))) : xW X d 140 61 [.ref (131), vi (x1), vi (x2), vi (x3), w4, w5, w6] [] F (xqi Q) := by
  refine xw_iload_n (n := 62) (show xlook 140 61 = some (61, .iload_n 3, 1, 0, 0, 0, 0) from xlk (by decide +kernel)) rfl rfl ?_
  refine xw_ldcs (n := 64) (show xlook 140 62 = some (62, .ldc 99, 2, 18, 1, 0, 0) from xlk (by decide +kernel)) rfl (by decide) ?_
  obtain ⟨j1, hj1, rr1, G1, hm1, hG1, t⟩ := t
  obtain ⟨y1, rfl, t⟩ := t
  refine xw_callt (dk := j1) (k := 18) (as := []) (show xlook 140 64 = some (64, .invokevirtual 101, 3, 221, 1, 0, 154) from xlk (by decide +kernel)) (by decide) hj1 ⟨Nat.le_of_ble_eq_true rfl, Nat.le_of_ble_eq_true rfl, Nat.le_of_ble_eq_true rfl⟩ ⟨rfl, (by decide)⟩ rfl hm1 (n := 67) rfl ?_
  show xW X d 140 67 [.ref (131), vi (x1), vi (x2), vi (x3), w4, w5, w6] [vi (y1), vi (x3)] G1 (xqi Q)
  obtain ⟨q0, q1, t⟩ := t
  refine xw_icmp_ge (n := 70) (m := 175) (show xlook 140 67 = some (67, .if_icmp .ge 108, 3, 175, 0, 0, 0) from xlk (by decide +kernel)) rfl rfl q0 q1 ⟨fun c => ?_, fun c => ?_⟩
  · replace t := t.1 c
    refine xw_iconst (n := 176) (show xlook 140 175 = some (175, .iconst (-1), 1, 0, 0, 0, 0) from xlk (by decide +kernel)) rfl ?_
    exact xw_ireturn hG1 (show xlook 140 176 = some (176, .ireturn, 1, 0, 0, 0, 0) from xlk (by decide +kernel)) rfl (t hG1)
  · replace t := t.2 c
    refine xw_iload_n (n := 71) (show xlook 140 70 = some (70, .iload_n 3, 1, 0, 0, 0, 0) from xlk (by decide +kernel)) rfl rfl ?_
    refine xw_istore (n := 73) (show xlook 140 71 = some (71, .istore 4, 2, 0, 0, 0, 0) from xlk (by decide +kernel)) rfl (ls' := [.ref (131), vi (x1), vi (x2), vi (x3), vi (x3), w5, w6]) (Nat.le_of_ble_eq_true rfl) rfl ?_
    exact t hG1

theorem s140_73 {X : List Int32} {d : Nat} {F : XF} {Q : Int → XF → Prop} {x1 : Int} {x2 : Int} {x3 : Int} {x4 : Int} {w5 : Value} {w6 : Value} (hPT : xPT F)  (t : ∃ (j1 : Nat), j1 < d ∧ xMI X j1 222 [.ref (xSB + 2 * 18), vi (x4)] (F) (fun (y1 : Int) (G1 : XF) => (inR (y1) ∧ ((((y1) = (32)) → (inR ((x4) - (x3)) ∧ inR (x1) ∧ (((¬ ((x4) - (x3)) = (x1)) → (xPT (G1) → xW X d 140 109 [.ref (131), vi (x1), vi (x2), vi (x3), vi (x4), vi (0), vi (0)] [] (G1) (xqi Q))) ∧ (¬ (¬ ((x4) - (x3)) = (x1)) → (xPT (G1) → xW X d 140 109 [.ref (131), vi (x1), vi (x2), vi (x3), vi (x4), vi (1), vi (0)] [] (G1) (xqi Q)))))) ∧ (¬ ((y1) = (32)) → (xPT (G1) → xW X d 140 73 [.ref (131), vi (x1), vi (x2), vi (x3), vi (x4 + 1), w5, w6] [] (G1) (xqi Q))))))) : xW X d 140 73 [.ref (131), vi (x1), vi (x2), vi (x3), vi (x4), w5, w6] [] F (xqi Q) := by
  refine xw_ldcs (n := 75) (show xlook 140 73 = some (73, .ldc 99, 2, 18, 1, 0, 0) from xlk (by decide +kernel)) rfl (by decide) ?_
  refine xw_iload (n := 77) (show xlook 140 75 = some (75, .iload 4, 2, 0, 0, 0, 0) from xlk (by decide +kernel)) rfl rfl ?_
  obtain ⟨j1, hj1, rr1, G1, hm1, hG1, t⟩ := t
  obtain ⟨y1, rfl, t⟩ := t
  refine xw_callt (dk := j1) (k := 18) (as := [vi (x4)]) (show xlook 140 77 = some (77, .invokevirtual 106, 3, 222, 2, 0, 155) from xlk (by decide +kernel)) (by decide) hj1 ⟨Nat.le_of_ble_eq_true rfl, Nat.le_of_ble_eq_true rfl, Nat.le_of_ble_eq_true rfl⟩ ⟨rfl, (by decide)⟩ rfl hm1 (n := 80) rfl ?_
  show xW X d 140 80 [.ref (131), vi (x1), vi (x2), vi (x3), vi (x4), w5, w6] [vi (y1)] G1 (xqi Q)
  refine xw_bipush (n := 82) (show xlook 140 80 = some (80, .bipush 32, 2, 0, 0, 0, 0) from xlk (by decide +kernel)) rfl (by decide) ?_
  obtain ⟨q0, t⟩ := t
  refine xw_icmp_eq (n := 85) (m := 91) (show xlook 140 82 = some (82, .if_icmp .eq 9, 3, 91, 0, 0, 0) from xlk (by decide +kernel)) rfl rfl q0 ⟨by decide, by decide⟩ ⟨fun c => ?_, fun c => ?_⟩
  · replace t := t.1 c
    refine xw_iload (n := 93) (show xlook 140 91 = some (91, .iload 4, 2, 0, 0, 0, 0) from xlk (by decide +kernel)) rfl rfl ?_
    refine xw_iload_n (n := 94) (show xlook 140 93 = some (93, .iload_n 3, 1, 0, 0, 0, 0) from xlk (by decide +kernel)) rfl rfl ?_
    refine xw_isub (n := 95) (show xlook 140 94 = some (94, .isub, 1, 0, 0, 0, 0) from xlk (by decide +kernel)) rfl ?_
    refine xw_iload_n (n := 96) (show xlook 140 95 = some (95, .iload_n 1, 1, 0, 0, 0, 0) from xlk (by decide +kernel)) rfl rfl ?_
    obtain ⟨q0, q1, t⟩ := t
    refine xw_icmp_ne (n := 99) (m := 103) (show xlook 140 96 = some (96, .if_icmp .ne 7, 3, 103, 0, 0, 0) from xlk (by decide +kernel)) rfl rfl q0 q1 ⟨fun c => ?_, fun c => ?_⟩
    · replace t := t.1 c
      refine xw_iconst (n := 104) (show xlook 140 103 = some (103, .iconst 0, 1, 0, 0, 0, 0) from xlk (by decide +kernel)) rfl ?_
      refine xw_istore (n := 106) (show xlook 140 104 = some (104, .istore 5, 2, 0, 0, 0, 0) from xlk (by decide +kernel)) rfl (ls' := [.ref (131), vi (x1), vi (x2), vi (x3), vi (x4), vi (0), w6]) (Nat.le_of_ble_eq_true rfl) rfl ?_
      refine xw_iconst (n := 107) (show xlook 140 106 = some (106, .iconst 0, 1, 0, 0, 0, 0) from xlk (by decide +kernel)) rfl ?_
      refine xw_istore (n := 109) (show xlook 140 107 = some (107, .istore 6, 2, 0, 0, 0, 0) from xlk (by decide +kernel)) rfl (ls' := [.ref (131), vi (x1), vi (x2), vi (x3), vi (x4), vi (0), vi (0)]) (Nat.le_of_ble_eq_true rfl) rfl ?_
      exact t hG1
    · replace t := t.2 c
      refine xw_iconst (n := 100) (show xlook 140 99 = some (99, .iconst 1, 1, 0, 0, 0, 0) from xlk (by decide +kernel)) rfl ?_
      refine xw_goto (m := 104) (show xlook 140 100 = some (100, .goto 4, 3, 104, 0, 0, 0) from xlk (by decide +kernel)) rfl ?_
      refine xw_istore (n := 106) (show xlook 140 104 = some (104, .istore 5, 2, 0, 0, 0, 0) from xlk (by decide +kernel)) rfl (ls' := [.ref (131), vi (x1), vi (x2), vi (x3), vi (x4), vi (1), w6]) (Nat.le_of_ble_eq_true rfl) rfl ?_
      refine xw_iconst (n := 107) (show xlook 140 106 = some (106, .iconst 0, 1, 0, 0, 0, 0) from xlk (by decide +kernel)) rfl ?_
      refine xw_istore (n := 109) (show xlook 140 107 = some (107, .istore 6, 2, 0, 0, 0, 0) from xlk (by decide +kernel)) rfl (ls' := [.ref (131), vi (x1), vi (x2), vi (x3), vi (x4), vi (1), vi (0)]) (Nat.le_of_ble_eq_true rfl) rfl ?_
      exact t hG1
  · replace t := t.2 c
    refine xw_iinc (n := 88) (show xlook 140 85 = some (85, .iinc 4 1, 3, 0, 0, 0, 0) from xlk (by decide +kernel)) rfl (ls' := [.ref (131), vi (x1), vi (x2), vi (x3), vi (x4 + 1), w5, w6]) rfl rfl ?_
    refine xw_goto (m := 73) (show xlook 140 88 = some (88, .goto (-15), 3, 73, 0, 0, 0) from xlk (by decide +kernel)) rfl ?_
    exact t hG1

theorem s140_109 {X : List Int32} {d : Nat} {F : XF} {Q : Int → XF → Prop} {x1 : Int} {x2 : Int} {x3 : Int} {x4 : Int} {x5 : Int} {x6 : Int} (hPT : xPT F)  (t : inR (x6) ∧ inR (x1) ∧ ((((x1) ≤ (x6)) → (xPT (F) → xW X d 140 157 [.ref (131), vi (x1), vi (x2), vi (x3), vi (x4), vi (x5), vi (x6)] [] (F) (xqi Q))) ∧ (¬ ((x1) ≤ (x6)) → (inR (x5) ∧ ((((x5) = (0)) → (xPT (F) → xW X d 140 157 [.ref (131), vi (x1), vi (x2), vi (x3), vi (x4), vi (x5), vi (x6)] [] (F) (xqi Q))) ∧ (¬ ((x5) = (0)) → (∃ (j1 : Nat), j1 < d ∧ xMI X j1 222 [.ref (xSB + 2 * 18), vi ((x3) + (x6))] (F) (fun (y1 : Int) (G1 : XF) => ((0 ≤ (((G1) (131) 6) + (x6)) ∧ (((G1) (131) 6) + (x6)) < 600) ∧ (inR (y1) ∧ inR ((G1) (134) (((G1) (131) 6) + (x6))) ∧ (((¬ (y1) = ((G1) (134) (((G1) (131) 6) + (x6)))) → (xPT (G1) → xW X d 140 109 [.ref (131), vi (x1), vi (x2), vi (x3), vi (x4), vi (0), vi (x6 + 1)] [] (G1) (xqi Q))) ∧ (¬ (¬ (y1) = ((G1) (134) (((G1) (131) 6) + (x6)))) → (xPT (G1) → xW X d 140 109 [.ref (131), vi (x1), vi (x2), vi (x3), vi (x4), vi (1), vi (x6 + 1)] [] (G1) (xqi Q)))))))))))))) : xW X d 140 109 [.ref (131), vi (x1), vi (x2), vi (x3), vi (x4), vi (x5), vi (x6)] [] F (xqi Q) := by
  refine xw_iload (n := 111) (show xlook 140 109 = some (109, .iload 6, 2, 0, 0, 0, 0) from xlk (by decide +kernel)) rfl rfl ?_
  refine xw_iload_n (n := 112) (show xlook 140 111 = some (111, .iload_n 1, 1, 0, 0, 0, 0) from xlk (by decide +kernel)) rfl rfl ?_
  obtain ⟨q0, q1, t⟩ := t
  refine xw_icmp_ge (n := 115) (m := 157) (show xlook 140 112 = some (112, .if_icmp .ge 45, 3, 157, 0, 0, 0) from xlk (by decide +kernel)) rfl rfl q0 q1 ⟨fun c => ?_, fun c => ?_⟩
  · replace t := t.1 c
    exact t hPT
  · replace t := t.2 c
    refine xw_iload (n := 117) (show xlook 140 115 = some (115, .iload 5, 2, 0, 0, 0, 0) from xlk (by decide +kernel)) rfl rfl ?_
    obtain ⟨q0, t⟩ := t
    refine xw_if_eq (n := 120) (m := 157) (show xlook 140 117 = some (117, .ifCond .eq 40, 3, 157, 0, 0, 0) from xlk (by decide +kernel)) rfl rfl q0 ⟨fun c => ?_, fun c => ?_⟩
    · replace t := t.1 c
      exact t hPT
    · replace t := t.2 c
      refine xw_ldcs (n := 122) (show xlook 140 120 = some (120, .ldc 99, 2, 18, 1, 0, 0) from xlk (by decide +kernel)) rfl (by decide) ?_
      refine xw_iload_n (n := 123) (show xlook 140 122 = some (122, .iload_n 3, 1, 0, 0, 0, 0) from xlk (by decide +kernel)) rfl rfl ?_
      refine xw_iload (n := 125) (show xlook 140 123 = some (123, .iload 6, 2, 0, 0, 0, 0) from xlk (by decide +kernel)) rfl rfl ?_
      refine xw_iadd (n := 126) (show xlook 140 125 = some (125, .iadd, 1, 0, 0, 0, 0) from xlk (by decide +kernel)) rfl ?_
      obtain ⟨j1, hj1, rr1, G1, hm1, hG1, t⟩ := t
      obtain ⟨y1, rfl, t⟩ := t
      refine xw_callt (dk := j1) (k := 18) (as := [vi ((x3) + (x6))]) (show xlook 140 126 = some (126, .invokevirtual 106, 3, 222, 2, 0, 155) from xlk (by decide +kernel)) (by decide) hj1 ⟨Nat.le_of_ble_eq_true rfl, Nat.le_of_ble_eq_true rfl, Nat.le_of_ble_eq_true rfl⟩ ⟨rfl, (by decide)⟩ rfl hm1 (n := 129) rfl ?_
      show xW X d 140 129 [.ref (131), vi (x1), vi (x2), vi (x3), vi (x4), vi (x5), vi (x6)] [vi (y1)] G1 (xqi Q)
      refine xw_aload_n (n := 130) (show xlook 140 129 = some (129, .aload_n 0, 1, 0, 0, 0, 0) from xlk (by decide +kernel)) rfl rfl ?_
      refine xw_getr (q := 134) (show xlook 140 130 = some (130, .getfield 20, 3, 12, 3, 0, 222) from xlk (by decide +kernel)) (by decide) (xobf xob_12 (by decide) (by decide)) rfl (xPT_get (k := 3) (f := 3) hG1 xob_12 (by decide)) (by have := (xtg_12_3 _ xob_12.1 xob_12.2).1.1; omega) (n := 133) rfl ?_
      refine xw_aload_n (n := 134) (show xlook 140 133 = some (133, .aload_n 0, 1, 0, 0, 0, 0) from xlk (by decide +kernel)) rfl rfl ?_
      refine xw_geti (show xlook 140 134 = some (134, .getfield 70, 3, 12, 6, 0, 237) from xlk (by decide +kernel)) (by decide) (xobf xob_12 (by decide) (by decide)) rfl (n := 137) rfl ?_
      refine xw_iload (n := 139) (show xlook 140 137 = some (137, .iload 6, 2, 0, 0, 0, 0) from xlk (by decide +kernel)) rfl rfl ?_
      refine xw_iadd (n := 140) (show xlook 140 139 = some (139, .iadd, 1, 0, 0, 0, 0) from xlk (by decide +kernel)) rfl ?_
      obtain ⟨q1, t⟩ := t
      refine xw_bald (show xlook 140 140 = some (140, .baload, 1, 0, 0, 0, 0) from xlk (by decide +kernel)) (xtg_12_3 _ xob_12.1 xob_12.2).1 (by rw [(xtg_12_3 _ xob_12.1 xob_12.2).2]; exact q1) (n := 141) rfl ?_
      obtain ⟨q0, q1, t⟩ := t
      refine xw_icmp_ne (n := 144) (m := 148) (show xlook 140 141 = some (141, .if_icmp .ne 7, 3, 148, 0, 0, 0) from xlk (by decide +kernel)) rfl rfl q0 q1 ⟨fun c => ?_, fun c => ?_⟩
      · replace t := t.1 c
        refine xw_iconst (n := 149) (show xlook 140 148 = some (148, .iconst 0, 1, 0, 0, 0, 0) from xlk (by decide +kernel)) rfl ?_
        refine xw_istore (n := 151) (show xlook 140 149 = some (149, .istore 5, 2, 0, 0, 0, 0) from xlk (by decide +kernel)) rfl (ls' := [.ref (131), vi (x1), vi (x2), vi (x3), vi (x4), vi (0), vi (x6)]) (Nat.le_of_ble_eq_true rfl) rfl ?_
        refine xw_iinc (n := 154) (show xlook 140 151 = some (151, .iinc 6 1, 3, 0, 0, 0, 0) from xlk (by decide +kernel)) rfl (ls' := [.ref (131), vi (x1), vi (x2), vi (x3), vi (x4), vi (0), vi (x6 + 1)]) rfl rfl ?_
        refine xw_goto (m := 109) (show xlook 140 154 = some (154, .goto (-45), 3, 109, 0, 0, 0) from xlk (by decide +kernel)) rfl ?_
        exact t hG1
      · replace t := t.2 c
        refine xw_iconst (n := 145) (show xlook 140 144 = some (144, .iconst 1, 1, 0, 0, 0, 0) from xlk (by decide +kernel)) rfl ?_
        refine xw_goto (m := 149) (show xlook 140 145 = some (145, .goto 4, 3, 149, 0, 0, 0) from xlk (by decide +kernel)) rfl ?_
        refine xw_istore (n := 151) (show xlook 140 149 = some (149, .istore 5, 2, 0, 0, 0, 0) from xlk (by decide +kernel)) rfl (ls' := [.ref (131), vi (x1), vi (x2), vi (x3), vi (x4), vi (1), vi (x6)]) (Nat.le_of_ble_eq_true rfl) rfl ?_
        refine xw_iinc (n := 154) (show xlook 140 151 = some (151, .iinc 6 1, 3, 0, 0, 0, 0) from xlk (by decide +kernel)) rfl (ls' := [.ref (131), vi (x1), vi (x2), vi (x3), vi (x4), vi (1), vi (x6 + 1)]) rfl rfl ?_
        refine xw_goto (m := 109) (show xlook 140 154 = some (154, .goto (-45), 3, 109, 0, 0, 0) from xlk (by decide +kernel)) rfl ?_
        exact t hG1

theorem s140_157 {X : List Int32} {d : Nat} {F : XF} {Q : Int → XF → Prop} {x1 : Int} {x2 : Int} {x3 : Int} {x4 : Int} {x5 : Int} {x6 : Int} (hPT : xPT F)  (t : inR (x5) ∧ ((((x5) = (0)) → (xPT (F) → xW X d 140 61 [.ref (131), vi (x1), vi (x2 + 1), vi ((x4) + (1)), vi (x4), vi (x5), vi (x6)] [] (F) (xqi Q))) ∧ (¬ ((x5) = (0)) → (xPT (F) → Q (x2) (F))))) : xW X d 140 157 [.ref (131), vi (x1), vi (x2), vi (x3), vi (x4), vi (x5), vi (x6)] [] F (xqi Q) := by
  refine xw_iload (n := 159) (show xlook 140 157 = some (157, .iload 5, 2, 0, 0, 0, 0) from xlk (by decide +kernel)) rfl rfl ?_
  obtain ⟨q0, t⟩ := t
  refine xw_if_eq (n := 162) (m := 164) (show xlook 140 159 = some (159, .ifCond .eq 5, 3, 164, 0, 0, 0) from xlk (by decide +kernel)) rfl rfl q0 ⟨fun c => ?_, fun c => ?_⟩
  · replace t := t.1 c
    refine xw_iinc (n := 167) (show xlook 140 164 = some (164, .iinc 2 1, 3, 0, 0, 0, 0) from xlk (by decide +kernel)) rfl (ls' := [.ref (131), vi (x1), vi (x2 + 1), vi (x3), vi (x4), vi (x5), vi (x6)]) rfl rfl ?_
    refine xw_iload (n := 169) (show xlook 140 167 = some (167, .iload 4, 2, 0, 0, 0, 0) from xlk (by decide +kernel)) rfl rfl ?_
    refine xw_iconst (n := 170) (show xlook 140 169 = some (169, .iconst 1, 1, 0, 0, 0, 0) from xlk (by decide +kernel)) rfl ?_
    refine xw_iadd (n := 171) (show xlook 140 170 = some (170, .iadd, 1, 0, 0, 0, 0) from xlk (by decide +kernel)) rfl ?_
    refine xw_istore_n (n := 172) (show xlook 140 171 = some (171, .istore_n 3, 1, 0, 0, 0, 0) from xlk (by decide +kernel)) rfl (ls' := [.ref (131), vi (x1), vi (x2 + 1), vi ((x4) + (1)), vi (x4), vi (x5), vi (x6)]) (Nat.le_of_ble_eq_true rfl) rfl ?_
    refine xw_goto (m := 61) (show xlook 140 172 = some (172, .goto (-111), 3, 61, 0, 0, 0) from xlk (by decide +kernel)) rfl ?_
    exact t hPT
  · replace t := t.2 c
    refine xw_iload_n (n := 163) (show xlook 140 162 = some (162, .iload_n 2, 1, 0, 0, 0, 0) from xlk (by decide +kernel)) rfl rfl ?_
    exact xw_ireturn hPT (show xlook 140 163 = some (163, .ireturn, 1, 0, 0, 0, 0) from xlk (by decide +kernel)) rfl (t hPT)

theorem s141_0 {X : List Int32} {d : Nat} {F : XF} {Q : XF → Prop}  (hPT : xPT F)  (t : inR ((F) (131) 6) ∧ inR ((F) (131) 5) ∧ (((((F) (131) 5) ≤ ((F) (131) 6)) → (xPT (F) → Q (F))) ∧ (¬ (((F) (131) 5) ≤ ((F) (131) 6)) → ((0 ≤ ((F) (131) 6) ∧ ((F) (131) 6) < 600) ∧ (∃ (j1 : Nat), j1 < d ∧ xMI X j1 138 [vi ((F) (134) ((F) (131) 6))] (F) (fun (y1 : Int) (G1 : XF) => (inR (y1) ∧ ((((y1) = (0)) → (xPT (G1) → Q (G1))) ∧ (¬ ((y1) = (0)) → (xPT (xup (G1) (131) 6 (((G1) (131) 6) + (1))) → xW X d 141 0 [.ref (131)] [] (xup (G1) (131) 6 (((G1) (131) 6) + (1))) (xqv Q))))))))))) : xW X d 141 0 [.ref (131)] [] F (xqv Q) := by
  refine xw_aload_n (n := 1) (show xlook 141 0 = some (0, .aload_n 0, 1, 0, 0, 0, 0) from xlk (by decide +kernel)) rfl rfl ?_
  refine xw_geti (show xlook 141 1 = some (1, .getfield 70, 3, 12, 6, 0, 237) from xlk (by decide +kernel)) (by decide) (xobf xob_12 (by decide) (by decide)) rfl (n := 4) rfl ?_
  refine xw_aload_n (n := 5) (show xlook 141 4 = some (4, .aload_n 0, 1, 0, 0, 0, 0) from xlk (by decide +kernel)) rfl rfl ?_
  refine xw_geti (show xlook 141 5 = some (5, .getfield 73, 3, 12, 5, 0, 238) from xlk (by decide +kernel)) (by decide) (xobf xob_12 (by decide) (by decide)) rfl (n := 8) rfl ?_
  obtain ⟨q0, q1, t⟩ := t
  refine xw_icmp_ge (n := 11) (m := 39) (show xlook 141 8 = some (8, .if_icmp .ge 31, 3, 39, 0, 0, 0) from xlk (by decide +kernel)) rfl rfl q0 q1 ⟨fun c => ?_, fun c => ?_⟩
  · replace t := t.1 c
    exact xw_return hPT (show xlook 141 39 = some (39, .return_, 1, 0, 0, 0, 0) from xlk (by decide +kernel)) rfl (t hPT)
  · replace t := t.2 c
    refine xw_aload_n (n := 12) (show xlook 141 11 = some (11, .aload_n 0, 1, 0, 0, 0, 0) from xlk (by decide +kernel)) rfl rfl ?_
    refine xw_getr (q := 134) (show xlook 141 12 = some (12, .getfield 20, 3, 12, 3, 0, 222) from xlk (by decide +kernel)) (by decide) (xobf xob_12 (by decide) (by decide)) rfl (xPT_get (k := 3) (f := 3) hPT xob_12 (by decide)) (by have := (xtg_12_3 _ xob_12.1 xob_12.2).1.1; omega) (n := 15) rfl ?_
    refine xw_aload_n (n := 16) (show xlook 141 15 = some (15, .aload_n 0, 1, 0, 0, 0, 0) from xlk (by decide +kernel)) rfl rfl ?_
    refine xw_geti (show xlook 141 16 = some (16, .getfield 70, 3, 12, 6, 0, 237) from xlk (by decide +kernel)) (by decide) (xobf xob_12 (by decide) (by decide)) rfl (n := 19) rfl ?_
    obtain ⟨q1, t⟩ := t
    refine xw_bald (show xlook 141 19 = some (19, .baload, 1, 0, 0, 0, 0) from xlk (by decide +kernel)) (xtg_12_3 _ xob_12.1 xob_12.2).1 (by rw [(xtg_12_3 _ xob_12.1 xob_12.2).2]; exact q1) (n := 20) rfl ?_
    obtain ⟨j1, hj1, rr1, G1, hm1, hG1, t⟩ := t
    obtain ⟨y1, rfl, t⟩ := t
    refine xw_calls (dk := j1) (as := [vi ((F) (134) ((F) (131) 6))]) (show xlook 141 20 = some (20, .invokestatic 95, 3, 138, 1, 0, 153) from xlk (by decide +kernel)) (by decide) hj1 ⟨Nat.le_of_ble_eq_true rfl, Nat.le_of_ble_eq_true rfl, Nat.le_of_ble_eq_true rfl, by decide⟩ rfl hm1 (n := 23) rfl ?_
    show xW X d 141 23 [.ref (131)] [vi (y1)] G1 (xqv Q)
    obtain ⟨q0, t⟩ := t
    refine xw_if_eq (n := 26) (m := 39) (show xlook 141 23 = some (23, .ifCond .eq 16, 3, 39, 0, 0, 0) from xlk (by decide +kernel)) rfl rfl q0 ⟨fun c => ?_, fun c => ?_⟩
    · replace t := t.1 c
      exact xw_return hG1 (show xlook 141 39 = some (39, .return_, 1, 0, 0, 0, 0) from xlk (by decide +kernel)) rfl (t hG1)
    · replace t := t.2 c
      refine xw_aload_n (n := 27) (show xlook 141 26 = some (26, .aload_n 0, 1, 0, 0, 0, 0) from xlk (by decide +kernel)) rfl rfl ?_
      refine xw_dupr (n := 28) (show xlook 141 27 = some (27, .dup, 1, 0, 0, 0, 0) from xlk (by decide +kernel)) rfl ?_
      refine xw_geti (show xlook 141 28 = some (28, .getfield 70, 3, 12, 6, 0, 237) from xlk (by decide +kernel)) (by decide) (xobf xob_12 (by decide) (by decide)) rfl (n := 31) rfl ?_
      refine xw_iconst (n := 32) (show xlook 141 31 = some (31, .iconst 1, 1, 0, 0, 0, 0) from xlk (by decide +kernel)) rfl ?_
      refine xw_iadd (n := 33) (show xlook 141 32 = some (32, .iadd, 1, 0, 0, 0, 0) from xlk (by decide +kernel)) rfl ?_
      refine xw_puti (show xlook 141 33 = some (33, .putfield 70, 3, 12, 6, 0, 237) from xlk (by decide +kernel)) (xobf xob_12 (by decide) (by decide)) rfl (n := 36) rfl ?_
      refine xw_goto (m := 0) (show xlook 141 36 = some (36, .goto (-36), 3, 0, 0, 0, 0) from xlk (by decide +kernel)) rfl ?_
      exact t (xPT_fld (k := 6) hG1 xob_12 (by decide) (by decide))
theorem m141 {X : List Int32} {d : Nat} {F : XF} {Q : XF → Prop}  (hPT : xPT F)  (t : inR ((F) (131) 6) ∧ inR ((F) (131) 5) ∧ (((((F) (131) 5) ≤ ((F) (131) 6)) → (xPT (F) → Q (F))) ∧ (¬ (((F) (131) 5) ≤ ((F) (131) 6)) → ((0 ≤ ((F) (131) 6) ∧ ((F) (131) 6) < 600) ∧ (∃ (j1 : Nat), j1 < d ∧ xMI X j1 138 [vi ((F) (134) ((F) (131) 6))] (F) (fun (y1 : Int) (G1 : XF) => (inR (y1) ∧ ((((y1) = (0)) → (xPT (G1) → Q (G1))) ∧ (¬ ((y1) = (0)) → (xPT (xup (G1) (131) 6 (((G1) (131) 6) + (1))) → xW X d 141 0 [.ref (131)] [] (xup (G1) (131) 6 (((G1) (131) 6) + (1))) (xqv Q))))))))))) : xMV X d 141 [.ref (131)] F Q := by
  show xW X d 141 0 [.ref (131)] [] F (xqv Q)
  exact s141_0 hPT  t

theorem s142_0 {X : List Int32} {d : Nat} {F : XF} {Q : XF → Prop} {x1 : Int} (hPT : xPT F)  (t : inR ((F) (131) 7) ∧ (((((F) (131) 7) = (0)) → (∃ (j1 : Nat), j1 < d ∧ xMI X j1 140 [.ref (131)] (F) (fun (y1 : Int) (G1 : XF) => (inR (y1) ∧ inR (x1) ∧ (((¬ (y1) = (x1)) → (∃ (j2 : Nat), j2 < d ∧ xMV X j2 137 [.ref (131), vi (1), vi ((G1) (131) 6)] (G1) (fun (G2 : XF) => (xPT (G2) → Q (G2))))) ∧ (¬ (¬ (y1) = (x1)) → (∃ (j3 : Nat), j3 < d ∧ xMV X j3 141 [.ref (131)] (G1) (fun (G3 : XF) => (xPT (G3) → Q (G3)))))))))) ∧ (¬ (((F) (131) 7) = (0)) → (xPT (F) → Q (F))))) : xW X d 142 0 [.ref (131), vi (x1)] [] F (xqv Q) := by
  refine xw_aload_n (n := 1) (show xlook 142 0 = some (0, .aload_n 0, 1, 0, 0, 0, 0) from xlk (by decide +kernel)) rfl rfl ?_
  refine xw_geti (show xlook 142 1 = some (1, .getfield 76, 3, 12, 7, 0, 239) from xlk (by decide +kernel)) (by decide) (xobf xob_12 (by decide) (by decide)) rfl (n := 4) rfl ?_
  obtain ⟨q0, t⟩ := t
  refine xw_if_eq (n := 7) (m := 8) (show xlook 142 4 = some (4, .ifCond .eq 4, 3, 8, 0, 0, 0) from xlk (by decide +kernel)) rfl rfl q0 ⟨fun c => ?_, fun c => ?_⟩
  · replace t := t.1 c
    refine xw_aload_n (n := 9) (show xlook 142 8 = some (8, .aload_n 0, 1, 0, 0, 0, 0) from xlk (by decide +kernel)) rfl rfl ?_
    obtain ⟨j1, hj1, rr1, G1, hm1, hG1, t⟩ := t
    obtain ⟨y1, rfl, t⟩ := t
    refine xw_callv (dk := j1) (o := 131) (as := []) (show xlook 142 9 = some (9, .invokevirtual 110, 3, 140, 1, 0, 156) from xlk (by decide +kernel)) (by decide) hj1 ⟨Nat.le_of_ble_eq_true rfl, Nat.le_of_ble_eq_true rfl, Nat.le_of_ble_eq_true rfl⟩ ⟨xob_12.1, xob_12.2, by decide⟩ rfl hm1 (n := 12) rfl ?_
    show xW X d 142 12 [.ref (131), vi (x1)] [vi (y1)] G1 (xqv Q)
    refine xw_iload_n (n := 13) (show xlook 142 12 = some (12, .iload_n 1, 1, 0, 0, 0, 0) from xlk (by decide +kernel)) rfl rfl ?_
    obtain ⟨q0, q1, t⟩ := t
    refine xw_icmp_ne (n := 16) (m := 23) (show xlook 142 13 = some (13, .if_icmp .ne 10, 3, 23, 0, 0, 0) from xlk (by decide +kernel)) rfl rfl q0 q1 ⟨fun c => ?_, fun c => ?_⟩
    · replace t := t.1 c
      refine xw_aload_n (n := 24) (show xlook 142 23 = some (23, .aload_n 0, 1, 0, 0, 0, 0) from xlk (by decide +kernel)) rfl rfl ?_
      refine xw_iconst (n := 25) (show xlook 142 24 = some (24, .iconst 1, 1, 0, 0, 0, 0) from xlk (by decide +kernel)) rfl ?_
      refine xw_aload_n (n := 26) (show xlook 142 25 = some (25, .aload_n 0, 1, 0, 0, 0, 0) from xlk (by decide +kernel)) rfl rfl ?_
      refine xw_geti (show xlook 142 26 = some (26, .getfield 70, 3, 12, 6, 0, 237) from xlk (by decide +kernel)) (by decide) (xobf xob_12 (by decide) (by decide)) rfl (n := 29) rfl ?_
      obtain ⟨j2, hj2, rr2, G2, hm2, hG2, t⟩ := t
      obtain ⟨rfl, t⟩ := t
      refine xw_callv (dk := j2) (o := 131) (as := [vi (1), vi ((G1) (131) 6)]) (show xlook 142 29 = some (29, .invokevirtual 116, 3, 137, 3, 0, 158) from xlk (by decide +kernel)) (by decide) hj2 ⟨Nat.le_of_ble_eq_true rfl, Nat.le_of_ble_eq_true rfl, Nat.le_of_ble_eq_true rfl⟩ ⟨xob_12.1, xob_12.2, by decide⟩ rfl hm2 (n := 32) rfl ?_
      show xW X d 142 32 [.ref (131), vi (x1)] [] G2 (xqv Q)
      exact xw_return hG2 (show xlook 142 32 = some (32, .return_, 1, 0, 0, 0, 0) from xlk (by decide +kernel)) rfl (t hG2)
    · replace t := t.2 c
      refine xw_aload_n (n := 17) (show xlook 142 16 = some (16, .aload_n 0, 1, 0, 0, 0, 0) from xlk (by decide +kernel)) rfl rfl ?_
      obtain ⟨j3, hj3, rr3, G3, hm3, hG3, t⟩ := t
      obtain ⟨rfl, t⟩ := t
      refine xw_callv (dk := j3) (o := 131) (as := []) (show xlook 142 17 = some (17, .invokevirtual 113, 3, 141, 1, 0, 157) from xlk (by decide +kernel)) (by decide) hj3 ⟨Nat.le_of_ble_eq_true rfl, Nat.le_of_ble_eq_true rfl, Nat.le_of_ble_eq_true rfl⟩ ⟨xob_12.1, xob_12.2, by decide⟩ rfl hm3 (n := 20) rfl ?_
      show xW X d 142 20 [.ref (131), vi (x1)] [] G3 (xqv Q)
      refine xw_goto (m := 32) (show xlook 142 20 = some (20, .goto 12, 3, 32, 0, 0, 0) from xlk (by decide +kernel)) rfl ?_
      exact xw_return hG3 (show xlook 142 32 = some (32, .return_, 1, 0, 0, 0, 0) from xlk (by decide +kernel)) rfl (t hG3)
  · replace t := t.2 c
    exact xw_return hPT (show xlook 142 7 = some (7, .return_, 1, 0, 0, 0, 0) from xlk (by decide +kernel)) rfl (t hPT)
theorem m142 {X : List Int32} {d : Nat} {F : XF} {Q : XF → Prop} {x1 : Int} (hPT : xPT F)  (t : inR ((F) (131) 7) ∧ (((((F) (131) 7) = (0)) → (∃ (j1 : Nat), j1 < d ∧ xMI X j1 140 [.ref (131)] (F) (fun (y1 : Int) (G1 : XF) => (inR (y1) ∧ inR (x1) ∧ (((¬ (y1) = (x1)) → (∃ (j2 : Nat), j2 < d ∧ xMV X j2 137 [.ref (131), vi (1), vi ((G1) (131) 6)] (G1) (fun (G2 : XF) => (xPT (G2) → Q (G2))))) ∧ (¬ (¬ (y1) = (x1)) → (∃ (j3 : Nat), j3 < d ∧ xMV X j3 141 [.ref (131)] (G1) (fun (G3 : XF) => (xPT (G3) → Q (G3)))))))))) ∧ (¬ (((F) (131) 7) = (0)) → (xPT (F) → Q (F))))) : xMV X d 142 [.ref (131), vi (x1)] F Q := by
  show xW X d 142 0 [.ref (131), vi (x1)] [] F (xqv Q)
  exact s142_0 hPT  t

theorem s143_0 {X : List Int32} {d : Nat} {F : XF} {Q : Int → XF → Prop} {x1 : Int} {x2 : Int} {w3 : Value} (hPT : xPT F)  (t : inR ((F) (131) 7) ∧ (((((F) (131) 7) = (0)) → (∃ (j1 : Nat), j1 < d ∧ xMI X j1 136 [.ref (131)] (F) (fun (y1 : Int) (G1 : XF) => (∃ (j2 : Nat), j2 < d ∧ xMI X j2 139 [vi (y1)] (G1) (fun (y2 : Int) (G2 : XF) => (inR (y2) ∧ (((¬ (y2) = (0)) → (xPT (xup (G2) (131) 10 ((G2) (131) 6)) → xW X d 143 40 [.ref (131), vi (x1), vi (x2), vi (0)] [] (xup (G2) (131) 10 ((G2) (131) 6)) (xqi Q))) ∧ (¬ (¬ (y2) = (0)) → (∃ (j3 : Nat), j3 < d ∧ xMV X j3 137 [.ref (131), vi (1), vi ((G2) (131) 6)] (G2) (fun (G3 : XF) => (xPT (G3) → Q (x1) (G3)))))))))))) ∧ (¬ (((F) (131) 7) = (0)) → (xPT (F) → Q (x1) (F))))) : xW X d 143 0 [.ref (131), vi (x1), vi (x2), w3] [] F (xqi Q) := by
  refine xw_aload_n (n := 1) (show xlook 143 0 = some (0, .aload_n 0, 1, 0, 0, 0, 0) from xlk (by decide +kernel)) rfl rfl ?_
  refine xw_geti (show xlook 143 1 = some (1, .getfield 76, 3, 12, 7, 0, 239) from xlk (by decide +kernel)) (by decide) (xobf xob_12 (by decide) (by decide)) rfl (n := 4) rfl ?_
  obtain ⟨q0, t⟩ := t
  refine xw_if_eq (n := 7) (m := 9) (show xlook 143 4 = some (4, .ifCond .eq 5, 3, 9, 0, 0, 0) from xlk (by decide +kernel)) rfl rfl q0 ⟨fun c => ?_, fun c => ?_⟩
  · replace t := t.1 c
    refine xw_aload_n (n := 10) (show xlook 143 9 = some (9, .aload_n 0, 1, 0, 0, 0, 0) from xlk (by decide +kernel)) rfl rfl ?_
    obtain ⟨j1, hj1, rr1, G1, hm1, hG1, t⟩ := t
    obtain ⟨y1, rfl, t⟩ := t
    refine xw_callv (dk := j1) (o := 131) (as := []) (show xlook 143 10 = some (10, .invokevirtual 91, 3, 136, 1, 0, 152) from xlk (by decide +kernel)) (by decide) hj1 ⟨Nat.le_of_ble_eq_true rfl, Nat.le_of_ble_eq_true rfl, Nat.le_of_ble_eq_true rfl⟩ ⟨xob_12.1, xob_12.2, by decide⟩ rfl hm1 (n := 13) rfl ?_
    show xW X d 143 13 [.ref (131), vi (x1), vi (x2), w3] [vi (y1)] G1 (xqi Q)
    obtain ⟨j2, hj2, rr2, G2, hm2, hG2, t⟩ := t
    obtain ⟨y2, rfl, t⟩ := t
    refine xw_calls (dk := j2) (as := [vi (y1)]) (show xlook 143 13 = some (13, .invokestatic 120, 3, 139, 1, 0, 159) from xlk (by decide +kernel)) (by decide) hj2 ⟨Nat.le_of_ble_eq_true rfl, Nat.le_of_ble_eq_true rfl, Nat.le_of_ble_eq_true rfl, by decide⟩ rfl hm2 (n := 16) rfl ?_
    show xW X d 143 16 [.ref (131), vi (x1), vi (x2), w3] [vi (y2)] G2 (xqi Q)
    obtain ⟨q0, t⟩ := t
    refine xw_if_ne (n := 19) (m := 30) (show xlook 143 16 = some (16, .ifCond .ne 14, 3, 30, 0, 0, 0) from xlk (by decide +kernel)) rfl rfl q0 ⟨fun c => ?_, fun c => ?_⟩
    · replace t := t.1 c
      refine xw_aload_n (n := 31) (show xlook 143 30 = some (30, .aload_n 0, 1, 0, 0, 0, 0) from xlk (by decide +kernel)) rfl rfl ?_
      refine xw_aload_n (n := 32) (show xlook 143 31 = some (31, .aload_n 0, 1, 0, 0, 0, 0) from xlk (by decide +kernel)) rfl rfl ?_
      refine xw_geti (show xlook 143 32 = some (32, .getfield 70, 3, 12, 6, 0, 237) from xlk (by decide +kernel)) (by decide) (xobf xob_12 (by decide) (by decide)) rfl (n := 35) rfl ?_
      refine xw_puti (show xlook 143 35 = some (35, .putfield 123, 3, 12, 10, 0, 240) from xlk (by decide +kernel)) (xobf xob_12 (by decide) (by decide)) rfl (n := 38) rfl ?_
      refine xw_iconst (n := 39) (show xlook 143 38 = some (38, .iconst 0, 1, 0, 0, 0, 0) from xlk (by decide +kernel)) rfl ?_
      refine xw_istore_n (n := 40) (show xlook 143 39 = some (39, .istore_n 3, 1, 0, 0, 0, 0) from xlk (by decide +kernel)) rfl (ls' := [.ref (131), vi (x1), vi (x2), vi (0)]) (Nat.le_of_ble_eq_true rfl) rfl ?_
      exact t (xPT_fld (k := 10) hG2 xob_12 (by decide) (by decide))
    · replace t := t.2 c
      refine xw_aload_n (n := 20) (show xlook 143 19 = some (19, .aload_n 0, 1, 0, 0, 0, 0) from xlk (by decide +kernel)) rfl rfl ?_
      refine xw_iconst (n := 21) (show xlook 143 20 = some (20, .iconst 1, 1, 0, 0, 0, 0) from xlk (by decide +kernel)) rfl ?_
      refine xw_aload_n (n := 22) (show xlook 143 21 = some (21, .aload_n 0, 1, 0, 0, 0, 0) from xlk (by decide +kernel)) rfl rfl ?_
      refine xw_geti (show xlook 143 22 = some (22, .getfield 70, 3, 12, 6, 0, 237) from xlk (by decide +kernel)) (by decide) (xobf xob_12 (by decide) (by decide)) rfl (n := 25) rfl ?_
      obtain ⟨j3, hj3, rr3, G3, hm3, hG3, t⟩ := t
      obtain ⟨rfl, t⟩ := t
      refine xw_callv (dk := j3) (o := 131) (as := [vi (1), vi ((G2) (131) 6)]) (show xlook 143 25 = some (25, .invokevirtual 116, 3, 137, 3, 0, 158) from xlk (by decide +kernel)) (by decide) hj3 ⟨Nat.le_of_ble_eq_true rfl, Nat.le_of_ble_eq_true rfl, Nat.le_of_ble_eq_true rfl⟩ ⟨xob_12.1, xob_12.2, by decide⟩ rfl hm3 (n := 28) rfl ?_
      show xW X d 143 28 [.ref (131), vi (x1), vi (x2), w3] [] G3 (xqi Q)
      refine xw_iload_n (n := 29) (show xlook 143 28 = some (28, .iload_n 1, 1, 0, 0, 0, 0) from xlk (by decide +kernel)) rfl rfl ?_
      exact xw_ireturn hG3 (show xlook 143 29 = some (29, .ireturn, 1, 0, 0, 0, 0) from xlk (by decide +kernel)) rfl (t hG3)
  · replace t := t.2 c
    refine xw_iload_n (n := 8) (show xlook 143 7 = some (7, .iload_n 1, 1, 0, 0, 0, 0) from xlk (by decide +kernel)) rfl rfl ?_
    exact xw_ireturn hPT (show xlook 143 8 = some (8, .ireturn, 1, 0, 0, 0, 0) from xlk (by decide +kernel)) rfl (t hPT)
theorem m143 {X : List Int32} {d : Nat} {F : XF} {Q : Int → XF → Prop} {x1 : Int} {x2 : Int} (hPT : xPT F)  (t : inR ((F) (131) 7) ∧ (((((F) (131) 7) = (0)) → (∃ (j1 : Nat), j1 < d ∧ xMI X j1 136 [.ref (131)] (F) (fun (y1 : Int) (G1 : XF) => (∃ (j2 : Nat), j2 < d ∧ xMI X j2 139 [vi (y1)] (G1) (fun (y2 : Int) (G2 : XF) => (inR (y2) ∧ (((¬ (y2) = (0)) → (xPT (xup (G2) (131) 10 ((G2) (131) 6)) → xW X d 143 40 [.ref (131), vi (x1), vi (x2), vi (0)] [] (xup (G2) (131) 10 ((G2) (131) 6)) (xqi Q))) ∧ (¬ (¬ (y2) = (0)) → (∃ (j3 : Nat), j3 < d ∧ xMV X j3 137 [.ref (131), vi (1), vi ((G2) (131) 6)] (G2) (fun (G3 : XF) => (xPT (G3) → Q (x1) (G3)))))))))))) ∧ (¬ (((F) (131) 7) = (0)) → (xPT (F) → Q (x1) (F))))) : xMI X d 143 [.ref (131), vi (x1), vi (x2)] F Q := by
  show xW X d 143 0 [.ref (131), vi (x1), vi (x2), xU0] [] F (xqi Q)
  exact s143_0 hPT  t

theorem s143_40 {X : List Int32} {d : Nat} {F : XF} {Q : Int → XF → Prop} {x1 : Int} {x2 : Int} {x3 : Int} (hPT : xPT F)  (t : inR ((F) (131) 6) ∧ inR ((F) (131) 5) ∧ (((((F) (131) 5) ≤ ((F) (131) 6)) → (xPT (F) → xW X d 143 110 [.ref (131), vi (x1), vi (x2), vi (x3)] [] (F) (xqi Q))) ∧ (¬ (((F) (131) 5) ≤ ((F) (131) 6)) → ((0 ≤ ((F) (131) 6) ∧ ((F) (131) 6) < 600) ∧ (∃ (j1 : Nat), j1 < d ∧ xMI X j1 139 [vi ((F) (134) ((F) (131) 6))] (F) (fun (y1 : Int) (G1 : XF) => (inR (y1) ∧ ((((y1) = (0)) → (xPT (G1) → xW X d 143 110 [.ref (131), vi (x1), vi (x2), vi (x3)] [] (G1) (xqi Q))) ∧ (¬ ((y1) = (0)) → (inR (((G1) (131) 6) - ((G1) (131) 10)) ∧ ((((4) ≤ (((G1) (131) 6) - ((G1) (131) 10))) → (xPT (xup (G1) (131) 6 (((G1) (131) 6) + (1))) → xW X d 143 40 [.ref (131), vi (x1), vi (x2), vi (x3)] [] (xup (G1) (131) 6 (((G1) (131) 6) + (1))) (xqi Q))) ∧ (¬ ((4) ≤ (((G1) (131) 6) - ((G1) (131) 10))) → ((0 ≤ ((G1) (131) 6) ∧ ((G1) (131) 6) < 600) ∧ (xPT (xup (G1) (131) 6 (((G1) (131) 6) + (1))) → xW X d 143 40 [.ref (131), vi (x1), vi (x2), vi ((((10) * (x3)) + ((G1) (134) ((G1) (131) 6))) - (48))] [] (xup (G1) (131) 6 (((G1) (131) 6) + (1))) (xqi Q))))))))))))))) : xW X d 143 40 [.ref (131), vi (x1), vi (x2), vi (x3)] [] F (xqi Q) := by
  refine xw_aload_n (n := 41) (show xlook 143 40 = some (40, .aload_n 0, 1, 0, 0, 0, 0) from xlk (by decide +kernel)) rfl rfl ?_
  refine xw_geti (show xlook 143 41 = some (41, .getfield 70, 3, 12, 6, 0, 237) from xlk (by decide +kernel)) (by decide) (xobf xob_12 (by decide) (by decide)) rfl (n := 44) rfl ?_
  refine xw_aload_n (n := 45) (show xlook 143 44 = some (44, .aload_n 0, 1, 0, 0, 0, 0) from xlk (by decide +kernel)) rfl rfl ?_
  refine xw_geti (show xlook 143 45 = some (45, .getfield 73, 3, 12, 5, 0, 238) from xlk (by decide +kernel)) (by decide) (xobf xob_12 (by decide) (by decide)) rfl (n := 48) rfl ?_
  obtain ⟨q0, q1, t⟩ := t
  refine xw_icmp_ge (n := 51) (m := 110) (show xlook 143 48 = some (48, .if_icmp .ge 62, 3, 110, 0, 0, 0) from xlk (by decide +kernel)) rfl rfl q0 q1 ⟨fun c => ?_, fun c => ?_⟩
  · replace t := t.1 c
    exact t hPT
  · replace t := t.2 c
    refine xw_aload_n (n := 52) (show xlook 143 51 = some (51, .aload_n 0, 1, 0, 0, 0, 0) from xlk (by decide +kernel)) rfl rfl ?_
    refine xw_getr (q := 134) (show xlook 143 52 = some (52, .getfield 20, 3, 12, 3, 0, 222) from xlk (by decide +kernel)) (by decide) (xobf xob_12 (by decide) (by decide)) rfl (xPT_get (k := 3) (f := 3) hPT xob_12 (by decide)) (by have := (xtg_12_3 _ xob_12.1 xob_12.2).1.1; omega) (n := 55) rfl ?_
    refine xw_aload_n (n := 56) (show xlook 143 55 = some (55, .aload_n 0, 1, 0, 0, 0, 0) from xlk (by decide +kernel)) rfl rfl ?_
    refine xw_geti (show xlook 143 56 = some (56, .getfield 70, 3, 12, 6, 0, 237) from xlk (by decide +kernel)) (by decide) (xobf xob_12 (by decide) (by decide)) rfl (n := 59) rfl ?_
    obtain ⟨q1, t⟩ := t
    refine xw_bald (show xlook 143 59 = some (59, .baload, 1, 0, 0, 0, 0) from xlk (by decide +kernel)) (xtg_12_3 _ xob_12.1 xob_12.2).1 (by rw [(xtg_12_3 _ xob_12.1 xob_12.2).2]; exact q1) (n := 60) rfl ?_
    obtain ⟨j1, hj1, rr1, G1, hm1, hG1, t⟩ := t
    obtain ⟨y1, rfl, t⟩ := t
    refine xw_calls (dk := j1) (as := [vi ((F) (134) ((F) (131) 6))]) (show xlook 143 60 = some (60, .invokestatic 120, 3, 139, 1, 0, 159) from xlk (by decide +kernel)) (by decide) hj1 ⟨Nat.le_of_ble_eq_true rfl, Nat.le_of_ble_eq_true rfl, Nat.le_of_ble_eq_true rfl, by decide⟩ rfl hm1 (n := 63) rfl ?_
    show xW X d 143 63 [.ref (131), vi (x1), vi (x2), vi (x3)] [vi (y1)] G1 (xqi Q)
    obtain ⟨q0, t⟩ := t
    refine xw_if_eq (n := 66) (m := 110) (show xlook 143 63 = some (63, .ifCond .eq 47, 3, 110, 0, 0, 0) from xlk (by decide +kernel)) rfl rfl q0 ⟨fun c => ?_, fun c => ?_⟩
    · replace t := t.1 c
      exact t hG1
    · replace t := t.2 c
      refine xw_aload_n (n := 67) (show xlook 143 66 = some (66, .aload_n 0, 1, 0, 0, 0, 0) from xlk (by decide +kernel)) rfl rfl ?_
      refine xw_geti (show xlook 143 67 = some (67, .getfield 70, 3, 12, 6, 0, 237) from xlk (by decide +kernel)) (by decide) (xobf xob_12 (by decide) (by decide)) rfl (n := 70) rfl ?_
      refine xw_aload_n (n := 71) (show xlook 143 70 = some (70, .aload_n 0, 1, 0, 0, 0, 0) from xlk (by decide +kernel)) rfl rfl ?_
      refine xw_geti (show xlook 143 71 = some (71, .getfield 123, 3, 12, 10, 0, 240) from xlk (by decide +kernel)) (by decide) (xobf xob_12 (by decide) (by decide)) rfl (n := 74) rfl ?_
      refine xw_isub (n := 75) (show xlook 143 74 = some (74, .isub, 1, 0, 0, 0, 0) from xlk (by decide +kernel)) rfl ?_
      refine xw_iconst (n := 76) (show xlook 143 75 = some (75, .iconst 4, 1, 0, 0, 0, 0) from xlk (by decide +kernel)) rfl ?_
      obtain ⟨q0, t⟩ := t
      refine xw_icmp_ge (n := 79) (m := 97) (show xlook 143 76 = some (76, .if_icmp .ge 21, 3, 97, 0, 0, 0) from xlk (by decide +kernel)) rfl rfl q0 ⟨by decide, by decide⟩ ⟨fun c => ?_, fun c => ?_⟩
      · replace t := t.1 c
        refine xw_aload_n (n := 98) (show xlook 143 97 = some (97, .aload_n 0, 1, 0, 0, 0, 0) from xlk (by decide +kernel)) rfl rfl ?_
        refine xw_dupr (n := 99) (show xlook 143 98 = some (98, .dup, 1, 0, 0, 0, 0) from xlk (by decide +kernel)) rfl ?_
        refine xw_geti (show xlook 143 99 = some (99, .getfield 70, 3, 12, 6, 0, 237) from xlk (by decide +kernel)) (by decide) (xobf xob_12 (by decide) (by decide)) rfl (n := 102) rfl ?_
        refine xw_iconst (n := 103) (show xlook 143 102 = some (102, .iconst 1, 1, 0, 0, 0, 0) from xlk (by decide +kernel)) rfl ?_
        refine xw_iadd (n := 104) (show xlook 143 103 = some (103, .iadd, 1, 0, 0, 0, 0) from xlk (by decide +kernel)) rfl ?_
        refine xw_puti (show xlook 143 104 = some (104, .putfield 70, 3, 12, 6, 0, 237) from xlk (by decide +kernel)) (xobf xob_12 (by decide) (by decide)) rfl (n := 107) rfl ?_
        refine xw_goto (m := 40) (show xlook 143 107 = some (107, .goto (-67), 3, 40, 0, 0, 0) from xlk (by decide +kernel)) rfl ?_
        exact t (xPT_fld (k := 6) hG1 xob_12 (by decide) (by decide))
      · replace t := t.2 c
        refine xw_bipush (n := 81) (show xlook 143 79 = some (79, .bipush 10, 2, 0, 0, 0, 0) from xlk (by decide +kernel)) rfl (by decide) ?_
        refine xw_iload_n (n := 82) (show xlook 143 81 = some (81, .iload_n 3, 1, 0, 0, 0, 0) from xlk (by decide +kernel)) rfl rfl ?_
        refine xw_imul (n := 83) (show xlook 143 82 = some (82, .imul, 1, 0, 0, 0, 0) from xlk (by decide +kernel)) rfl ?_
        refine xw_aload_n (n := 84) (show xlook 143 83 = some (83, .aload_n 0, 1, 0, 0, 0, 0) from xlk (by decide +kernel)) rfl rfl ?_
        refine xw_getr (q := 134) (show xlook 143 84 = some (84, .getfield 20, 3, 12, 3, 0, 222) from xlk (by decide +kernel)) (by decide) (xobf xob_12 (by decide) (by decide)) rfl (xPT_get (k := 3) (f := 3) hG1 xob_12 (by decide)) (by have := (xtg_12_3 _ xob_12.1 xob_12.2).1.1; omega) (n := 87) rfl ?_
        refine xw_aload_n (n := 88) (show xlook 143 87 = some (87, .aload_n 0, 1, 0, 0, 0, 0) from xlk (by decide +kernel)) rfl rfl ?_
        refine xw_geti (show xlook 143 88 = some (88, .getfield 70, 3, 12, 6, 0, 237) from xlk (by decide +kernel)) (by decide) (xobf xob_12 (by decide) (by decide)) rfl (n := 91) rfl ?_
        obtain ⟨q1, t⟩ := t
        refine xw_bald (show xlook 143 91 = some (91, .baload, 1, 0, 0, 0, 0) from xlk (by decide +kernel)) (xtg_12_3 _ xob_12.1 xob_12.2).1 (by rw [(xtg_12_3 _ xob_12.1 xob_12.2).2]; exact q1) (n := 92) rfl ?_
        refine xw_iadd (n := 93) (show xlook 143 92 = some (92, .iadd, 1, 0, 0, 0, 0) from xlk (by decide +kernel)) rfl ?_
        refine xw_bipush (n := 95) (show xlook 143 93 = some (93, .bipush 48, 2, 0, 0, 0, 0) from xlk (by decide +kernel)) rfl (by decide) ?_
        refine xw_isub (n := 96) (show xlook 143 95 = some (95, .isub, 1, 0, 0, 0, 0) from xlk (by decide +kernel)) rfl ?_
        refine xw_istore_n (n := 97) (show xlook 143 96 = some (96, .istore_n 3, 1, 0, 0, 0, 0) from xlk (by decide +kernel)) rfl (ls' := [.ref (131), vi (x1), vi (x2), vi ((((10) * (x3)) + ((G1) (134) ((G1) (131) 6))) - (48))]) (Nat.le_of_ble_eq_true rfl) rfl ?_
        refine xw_aload_n (n := 98) (show xlook 143 97 = some (97, .aload_n 0, 1, 0, 0, 0, 0) from xlk (by decide +kernel)) rfl rfl ?_
        refine xw_dupr (n := 99) (show xlook 143 98 = some (98, .dup, 1, 0, 0, 0, 0) from xlk (by decide +kernel)) rfl ?_
        refine xw_geti (show xlook 143 99 = some (99, .getfield 70, 3, 12, 6, 0, 237) from xlk (by decide +kernel)) (by decide) (xobf xob_12 (by decide) (by decide)) rfl (n := 102) rfl ?_
        refine xw_iconst (n := 103) (show xlook 143 102 = some (102, .iconst 1, 1, 0, 0, 0, 0) from xlk (by decide +kernel)) rfl ?_
        refine xw_iadd (n := 104) (show xlook 143 103 = some (103, .iadd, 1, 0, 0, 0, 0) from xlk (by decide +kernel)) rfl ?_
        refine xw_puti (show xlook 143 104 = some (104, .putfield 70, 3, 12, 6, 0, 237) from xlk (by decide +kernel)) (xobf xob_12 (by decide) (by decide)) rfl (n := 107) rfl ?_
        refine xw_goto (m := 40) (show xlook 143 107 = some (107, .goto (-67), 3, 40, 0, 0, 0) from xlk (by decide +kernel)) rfl ?_
        exact t (xPT_fld (k := 6) hG1 xob_12 (by decide) (by decide))

theorem s143_110 {X : List Int32} {d : Nat} {F : XF} {Q : Int → XF → Prop} {x1 : Int} {x2 : Int} {x3 : Int} (hPT : xPT F)  (t : inR (((F) (131) 6) - ((F) (131) 10)) ∧ ((((4) < (((F) (131) 6) - ((F) (131) 10))) → (xPT (F) → xW X d 143 135 [.ref (131), vi (x1), vi (x2), vi (x3)] [] (F) (xqi Q))) ∧ (¬ ((4) < (((F) (131) 6) - ((F) (131) 10))) → ((inR (x3)) ∧ ((inR (x1)) ∧ ((inR (x2)) ∧ (∃ (j1 : Nat), j1 < d ∧ xMI X j1 132 [vl (x3), vl (x1), vl (x2)] (F) (fun (y1 : Int) (G1 : XF) => (inR (y1) ∧ (((¬ (y1) = (0)) → (inR ((G1) (131) 7) ∧ (((¬ ((G1) (131) 7) = (0)) → (xPT (G1) → Q (x1) (G1))) ∧ (¬ (¬ ((G1) (131) 7) = (0)) → (xPT (G1) → Q (x3) (G1)))))) ∧ (¬ (¬ (y1) = (0)) → (xPT (G1) → xW X d 143 135 [.ref (131), vi (x1), vi (x2), vi (x3)] [] (G1) (xqi Q))))))))))))) : xW X d 143 110 [.ref (131), vi (x1), vi (x2), vi (x3)] [] F (xqi Q) := by
  refine xw_aload_n (n := 111) (show xlook 143 110 = some (110, .aload_n 0, 1, 0, 0, 0, 0) from xlk (by decide +kernel)) rfl rfl ?_
  refine xw_geti (show xlook 143 111 = some (111, .getfield 70, 3, 12, 6, 0, 237) from xlk (by decide +kernel)) (by decide) (xobf xob_12 (by decide) (by decide)) rfl (n := 114) rfl ?_
  refine xw_aload_n (n := 115) (show xlook 143 114 = some (114, .aload_n 0, 1, 0, 0, 0, 0) from xlk (by decide +kernel)) rfl rfl ?_
  refine xw_geti (show xlook 143 115 = some (115, .getfield 123, 3, 12, 10, 0, 240) from xlk (by decide +kernel)) (by decide) (xobf xob_12 (by decide) (by decide)) rfl (n := 118) rfl ?_
  refine xw_isub (n := 119) (show xlook 143 118 = some (118, .isub, 1, 0, 0, 0, 0) from xlk (by decide +kernel)) rfl ?_
  refine xw_iconst (n := 120) (show xlook 143 119 = some (119, .iconst 4, 1, 0, 0, 0, 0) from xlk (by decide +kernel)) rfl ?_
  obtain ⟨q0, t⟩ := t
  refine xw_icmp_gt (n := 123) (m := 135) (show xlook 143 120 = some (120, .if_icmp .gt 15, 3, 135, 0, 0, 0) from xlk (by decide +kernel)) rfl rfl q0 ⟨by decide, by decide⟩ ⟨fun c => ?_, fun c => ?_⟩
  · replace t := t.1 c
    exact t hPT
  · replace t := t.2 c
    refine xw_iload_n (n := 124) (show xlook 143 123 = some (123, .iload_n 3, 1, 0, 0, 0, 0) from xlk (by decide +kernel)) rfl rfl ?_
    obtain ⟨q1, t⟩ := t
    refine xw_i2l (n := 125) (show xlook 143 124 = some (124, .i2l, 1, 0, 0, 0, 0) from xlk (by decide +kernel)) rfl q1 ?_
    refine xw_iload_n (n := 126) (show xlook 143 125 = some (125, .iload_n 1, 1, 0, 0, 0, 0) from xlk (by decide +kernel)) rfl rfl ?_
    obtain ⟨q1, t⟩ := t
    refine xw_i2l (n := 127) (show xlook 143 126 = some (126, .i2l, 1, 0, 0, 0, 0) from xlk (by decide +kernel)) rfl q1 ?_
    refine xw_iload_n (n := 128) (show xlook 143 127 = some (127, .iload_n 2, 1, 0, 0, 0, 0) from xlk (by decide +kernel)) rfl rfl ?_
    obtain ⟨q1, t⟩ := t
    refine xw_i2l (n := 129) (show xlook 143 128 = some (128, .i2l, 1, 0, 0, 0, 0) from xlk (by decide +kernel)) rfl q1 ?_
    obtain ⟨j1, hj1, rr1, G1, hm1, hG1, t⟩ := t
    obtain ⟨y1, rfl, t⟩ := t
    refine xw_calls (dk := j1) (as := [vl (x3), vl (x1), vl (x2)]) (show xlook 143 129 = some (129, .invokestatic 83, 3, 132, 3, 0, 151) from xlk (by decide +kernel)) (by decide) hj1 ⟨Nat.le_of_ble_eq_true rfl, Nat.le_of_ble_eq_true rfl, Nat.le_of_ble_eq_true rfl, by decide⟩ rfl hm1 (n := 132) rfl ?_
    show xW X d 143 132 [.ref (131), vi (x1), vi (x2), vi (x3)] [vi (y1)] G1 (xqi Q)
    obtain ⟨q0, t⟩ := t
    refine xw_if_ne (n := 135) (m := 144) (show xlook 143 132 = some (132, .ifCond .ne 12, 3, 144, 0, 0, 0) from xlk (by decide +kernel)) rfl rfl q0 ⟨fun c => ?_, fun c => ?_⟩
    · replace t := t.1 c
      refine xw_aload_n (n := 145) (show xlook 143 144 = some (144, .aload_n 0, 1, 0, 0, 0, 0) from xlk (by decide +kernel)) rfl rfl ?_
      refine xw_geti (show xlook 143 145 = some (145, .getfield 76, 3, 12, 7, 0, 239) from xlk (by decide +kernel)) (by decide) (xobf xob_12 (by decide) (by decide)) rfl (n := 148) rfl ?_
      obtain ⟨q0, t⟩ := t
      refine xw_if_ne (n := 151) (m := 155) (show xlook 143 148 = some (148, .ifCond .ne 7, 3, 155, 0, 0, 0) from xlk (by decide +kernel)) rfl rfl q0 ⟨fun c => ?_, fun c => ?_⟩
      · replace t := t.1 c
        refine xw_iload_n (n := 156) (show xlook 143 155 = some (155, .iload_n 1, 1, 0, 0, 0, 0) from xlk (by decide +kernel)) rfl rfl ?_
        exact xw_ireturn hG1 (show xlook 143 156 = some (156, .ireturn, 1, 0, 0, 0, 0) from xlk (by decide +kernel)) rfl (t hG1)
      · replace t := t.2 c
        refine xw_iload_n (n := 152) (show xlook 143 151 = some (151, .iload_n 3, 1, 0, 0, 0, 0) from xlk (by decide +kernel)) rfl rfl ?_
        refine xw_goto (m := 156) (show xlook 143 152 = some (152, .goto 4, 3, 156, 0, 0, 0) from xlk (by decide +kernel)) rfl ?_
        exact xw_ireturn hG1 (show xlook 143 156 = some (156, .ireturn, 1, 0, 0, 0, 0) from xlk (by decide +kernel)) rfl (t hG1)
    · replace t := t.2 c
      exact t hG1

theorem s143_135 {X : List Int32} {d : Nat} {F : XF} {Q : Int → XF → Prop} {x1 : Int} {x2 : Int} {x3 : Int} (hPT : xPT F)  (t : ∃ (j1 : Nat), j1 < d ∧ xMV X j1 137 [.ref (131), vi (2), vi ((F) (131) 10)] (F) (fun (G1 : XF) => (inR ((G1) (131) 7) ∧ (((¬ ((G1) (131) 7) = (0)) → (xPT (G1) → Q (x1) (G1))) ∧ (¬ (¬ ((G1) (131) 7) = (0)) → (xPT (G1) → Q (x3) (G1))))))) : xW X d 143 135 [.ref (131), vi (x1), vi (x2), vi (x3)] [] F (xqi Q) := by
  refine xw_aload_n (n := 136) (show xlook 143 135 = some (135, .aload_n 0, 1, 0, 0, 0, 0) from xlk (by decide +kernel)) rfl rfl ?_
  refine xw_iconst (n := 137) (show xlook 143 136 = some (136, .iconst 2, 1, 0, 0, 0, 0) from xlk (by decide +kernel)) rfl ?_
  refine xw_aload_n (n := 138) (show xlook 143 137 = some (137, .aload_n 0, 1, 0, 0, 0, 0) from xlk (by decide +kernel)) rfl rfl ?_
  refine xw_geti (show xlook 143 138 = some (138, .getfield 123, 3, 12, 10, 0, 240) from xlk (by decide +kernel)) (by decide) (xobf xob_12 (by decide) (by decide)) rfl (n := 141) rfl ?_
  obtain ⟨j1, hj1, rr1, G1, hm1, hG1, t⟩ := t
  obtain ⟨rfl, t⟩ := t
  refine xw_callv (dk := j1) (o := 131) (as := [vi (2), vi ((F) (131) 10)]) (show xlook 143 141 = some (141, .invokevirtual 116, 3, 137, 3, 0, 158) from xlk (by decide +kernel)) (by decide) hj1 ⟨Nat.le_of_ble_eq_true rfl, Nat.le_of_ble_eq_true rfl, Nat.le_of_ble_eq_true rfl⟩ ⟨xob_12.1, xob_12.2, by decide⟩ rfl hm1 (n := 144) rfl ?_
  show xW X d 143 144 [.ref (131), vi (x1), vi (x2), vi (x3)] [] G1 (xqi Q)
  refine xw_aload_n (n := 145) (show xlook 143 144 = some (144, .aload_n 0, 1, 0, 0, 0, 0) from xlk (by decide +kernel)) rfl rfl ?_
  refine xw_geti (show xlook 143 145 = some (145, .getfield 76, 3, 12, 7, 0, 239) from xlk (by decide +kernel)) (by decide) (xobf xob_12 (by decide) (by decide)) rfl (n := 148) rfl ?_
  obtain ⟨q0, t⟩ := t
  refine xw_if_ne (n := 151) (m := 155) (show xlook 143 148 = some (148, .ifCond .ne 7, 3, 155, 0, 0, 0) from xlk (by decide +kernel)) rfl rfl q0 ⟨fun c => ?_, fun c => ?_⟩
  · replace t := t.1 c
    refine xw_iload_n (n := 156) (show xlook 143 155 = some (155, .iload_n 1, 1, 0, 0, 0, 0) from xlk (by decide +kernel)) rfl rfl ?_
    exact xw_ireturn hG1 (show xlook 143 156 = some (156, .ireturn, 1, 0, 0, 0, 0) from xlk (by decide +kernel)) rfl (t hG1)
  · replace t := t.2 c
    refine xw_iload_n (n := 152) (show xlook 143 151 = some (151, .iload_n 3, 1, 0, 0, 0, 0) from xlk (by decide +kernel)) rfl rfl ?_
    refine xw_goto (m := 156) (show xlook 143 152 = some (152, .goto 4, 3, 156, 0, 0, 0) from xlk (by decide +kernel)) rfl ?_
    exact xw_ireturn hG1 (show xlook 143 156 = some (156, .ireturn, 1, 0, 0, 0, 0) from xlk (by decide +kernel)) rfl (t hG1)

theorem s144_0 {X : List Int32} {d : Nat} {F : XF} {Q : Int → XF → Prop} {x1 : Int} {x2 : Int} {x3 : Int} (hPT : xPT F)  (t : ∃ (j1 : Nat), j1 < d ∧ xMV X j1 142 [.ref (131), vi (x1)] (F) (fun (G1 : XF) => (∃ (j2 : Nat), j2 < d ∧ xMI X j2 143 [.ref (131), vi (x2), vi (x3)] (G1) (fun (y2 : Int) (G2 : XF) => (xPT (G2) → Q (y2) (G2)))))) : xW X d 144 0 [.ref (131), vi (x1), vi (x2), vi (x3)] [] F (xqi Q) := by
  refine xw_aload_n (n := 1) (show xlook 144 0 = some (0, .aload_n 0, 1, 0, 0, 0, 0) from xlk (by decide +kernel)) rfl rfl ?_
  refine xw_iload_n (n := 2) (show xlook 144 1 = some (1, .iload_n 1, 1, 0, 0, 0, 0) from xlk (by decide +kernel)) rfl rfl ?_
  obtain ⟨j1, hj1, rr1, G1, hm1, hG1, t⟩ := t
  obtain ⟨rfl, t⟩ := t
  refine xw_callv (dk := j1) (o := 131) (as := [vi (x1)]) (show xlook 144 2 = some (2, .invokevirtual 126, 3, 142, 2, 0, 160) from xlk (by decide +kernel)) (by decide) hj1 ⟨Nat.le_of_ble_eq_true rfl, Nat.le_of_ble_eq_true rfl, Nat.le_of_ble_eq_true rfl⟩ ⟨xob_12.1, xob_12.2, by decide⟩ rfl hm1 (n := 5) rfl ?_
  show xW X d 144 5 [.ref (131), vi (x1), vi (x2), vi (x3)] [] G1 (xqi Q)
  refine xw_aload_n (n := 6) (show xlook 144 5 = some (5, .aload_n 0, 1, 0, 0, 0, 0) from xlk (by decide +kernel)) rfl rfl ?_
  refine xw_iload_n (n := 7) (show xlook 144 6 = some (6, .iload_n 2, 1, 0, 0, 0, 0) from xlk (by decide +kernel)) rfl rfl ?_
  refine xw_iload_n (n := 8) (show xlook 144 7 = some (7, .iload_n 3, 1, 0, 0, 0, 0) from xlk (by decide +kernel)) rfl rfl ?_
  obtain ⟨j2, hj2, rr2, G2, hm2, hG2, t⟩ := t
  obtain ⟨y2, rfl, t⟩ := t
  refine xw_callv (dk := j2) (o := 131) (as := [vi (x2), vi (x3)]) (show xlook 144 8 = some (8, .invokevirtual 129, 3, 143, 3, 0, 161) from xlk (by decide +kernel)) (by decide) hj2 ⟨Nat.le_of_ble_eq_true rfl, Nat.le_of_ble_eq_true rfl, Nat.le_of_ble_eq_true rfl⟩ ⟨xob_12.1, xob_12.2, by decide⟩ rfl hm2 (n := 11) rfl ?_
  show xW X d 144 11 [.ref (131), vi (x1), vi (x2), vi (x3)] [vi (y2)] G2 (xqi Q)
  exact xw_ireturn hG2 (show xlook 144 11 = some (11, .ireturn, 1, 0, 0, 0, 0) from xlk (by decide +kernel)) rfl (t hG2)
theorem m144 {X : List Int32} {d : Nat} {F : XF} {Q : Int → XF → Prop} {x1 : Int} {x2 : Int} {x3 : Int} (hPT : xPT F)  (t : ∃ (j1 : Nat), j1 < d ∧ xMV X j1 142 [.ref (131), vi (x1)] (F) (fun (G1 : XF) => (∃ (j2 : Nat), j2 < d ∧ xMI X j2 143 [.ref (131), vi (x2), vi (x3)] (G1) (fun (y2 : Int) (G2 : XF) => (xPT (G2) → Q (y2) (G2)))))) : xMI X d 144 [.ref (131), vi (x1), vi (x2), vi (x3)] F Q := by
  show xW X d 144 0 [.ref (131), vi (x1), vi (x2), vi (x3)] [] F (xqi Q)
  exact s144_0 hPT  t

theorem s145_0 {X : List Int32} {d : Nat} {F : XF} {Q : XF → Prop} {x1 : Int} {w2 : Value} {w3 : Value} {w4 : Value} {w5 : Value} (hPT : xPT F)  (t : inR ((F) (133) 4) ∧ (((¬ ((F) (133) 4) = (10)) → (inR ((F) (133) 4) ∧ (((¬ ((F) (133) 4) = (0)) → ((0 ≤ (((8) + ((7) * ((F) (133) 4))) - (7)) ∧ (((8) + ((7) * ((F) (133) 4))) - (7)) < 163) ∧ ((0 ≤ (((8) + ((7) * ((F) (133) 4))) - (6)) ∧ (((8) + ((7) * ((F) (133) 4))) - (6)) < 163) ∧ (∃ (j1 : Nat), j1 < d ∧ xMI X j1 143 [.ref (131), vi (((F) (133) (((8) + ((7) * ((F) (133) 4))) - (7))) + ((F) (133) (((8) + ((7) * ((F) (133) 4))) - (6)))), vi (((F) (133) 0) - (1))] (F) (fun (y1 : Int) (G1 : XF) => ((0 ≤ ((8) + ((7) * ((F) (133) 4))) ∧ ((8) + ((7) * ((F) (133) 4))) < 163) ∧ ((0 ≤ ((8) + ((7) * ((F) (133) 4))) ∧ ((8) + ((7) * ((F) (133) 4))) < 163) ∧ (inR (((xup (G1) (133) ((8) + ((7) * ((F) (133) 4))) (y1)) (133) 0) - (y1)) ∧ ((((50) ≤ (((xup (G1) (133) ((8) + ((7) * ((F) (133) 4))) (y1)) (133) 0) - (y1))) → (∃ (j2 : Nat), j2 < d ∧ xMI X j2 144 [.ref (131), vi (9), vi (1), vi (50)] (xup (G1) (133) ((8) + ((7) * ((F) (133) 4))) (y1)) (fun (y2 : Int) (G2 : XF) => ((0 ≤ (((8) + ((7) * ((F) (133) 4))) + (1)) ∧ (((8) + ((7) * ((F) (133) 4))) + (1)) < 163) ∧ (∃ (j3 : Nat), j3 < d ∧ xMI X j3 144 [.ref (131), vi (10), vi (1), vi (200)] (xup (G2) (133) (((8) + ((7) * ((F) (133) 4))) + (1)) (y2)) (fun (y3 : Int) (G3 : XF) => ((0 ≤ (((8) + ((7) * ((F) (133) 4))) + (2)) ∧ (((8) + ((7) * ((F) (133) 4))) + (2)) < 163) ∧ ((0 ≤ (((8) + ((7) * ((F) (133) 4))) + (2)) ∧ (((8) + ((7) * ((F) (133) 4))) + (2)) < 163) ∧ (∃ (j4 : Nat), j4 < d ∧ xMI X j4 144 [.ref (131), vi (11), vi (0), vi ((y3) - (1))] (xup (G3) (133) (((8) + ((7) * ((F) (133) 4))) + (2)) (y3)) (fun (y4 : Int) (G4 : XF) => ((0 ≤ (((8) + ((7) * ((F) (133) 4))) + (3)) ∧ (((8) + ((7) * ((F) (133) 4))) + (3)) < 163) ∧ ((0 ≤ (((8) + ((7) * ((F) (133) 4))) + (3)) ∧ (((8) + ((7) * ((F) (133) 4))) + (3)) < 163) ∧ ((0 ≤ (((8) + ((7) * ((F) (133) 4))) + (2)) ∧ (((8) + ((7) * ((F) (133) 4))) + (2)) < 163) ∧ (∃ (j5 : Nat), j5 < d ∧ xMI X j5 144 [.ref (131), vi (12), vi ((y4) + (1)), vi ((G4) (133) (((8) + ((7) * ((F) (133) 4))) + (2)))] (xup (G4) (133) (((8) + ((7) * ((F) (133) 4))) + (3)) (y4)) (fun (y5 : Int) (G5 : XF) => ((0 ≤ (((8) + ((7) * ((F) (133) 4))) + (4)) ∧ (((8) + ((7) * ((F) (133) 4))) + (4)) < 163) ∧ (∃ (j6 : Nat), j6 < d ∧ xMI X j6 144 [.ref (131), vi (13), vi (0), vi (99)] (xup (G5) (133) (((8) + ((7) * ((F) (133) 4))) + (4)) (y5)) (fun (y6 : Int) (G6 : XF) => ((0 ≤ (((8) + ((7) * ((F) (133) 4))) + (5)) ∧ (((8) + ((7) * ((F) (133) 4))) + (5)) < 163) ∧ (∃ (j7 : Nat), j7 < d ∧ xMI X j7 144 [.ref (131), vi (14), vi (1), vi (20)] (xup (G6) (133) (((8) + ((7) * ((F) (133) 4))) + (5)) (y6)) (fun (y7 : Int) (G7 : XF) => ((0 ≤ (((8) + ((7) * ((F) (133) 4))) + (6)) ∧ (((8) + ((7) * ((F) (133) 4))) + (6)) < 163) ∧ (xPT (xup (xup (G7) (133) (((8) + ((7) * ((F) (133) 4))) + (6)) (y7)) (133) 4 (((xup (G7) (133) (((8) + ((7) * ((F) (133) 4))) + (6)) (y7)) (133) 4) + (1))) → Q (xup (xup (G7) (133) (((8) + ((7) * ((F) (133) 4))) + (6)) (y7)) (133) 4 (((xup (G7) (133) (((8) + ((7) * ((F) (133) 4))) + (6)) (y7)) (133) 4) + (1)))))))))))))))))))))))))) ∧ (¬ ((50) ≤ (((xup (G1) (133) ((8) + ((7) * ((F) (133) 4))) (y1)) (133) 0) - (y1))) → (∃ (j8 : Nat), j8 < d ∧ xMI X j8 144 [.ref (131), vi (9), vi (1), vi (((xup (G1) (133) ((8) + ((7) * ((F) (133) 4))) (y1)) (133) 0) - (y1))] (xup (G1) (133) ((8) + ((7) * ((F) (133) 4))) (y1)) (fun (y8 : Int) (G8 : XF) => ((0 ≤ (((8) + ((7) * ((F) (133) 4))) + (1)) ∧ (((8) + ((7) * ((F) (133) 4))) + (1)) < 163) ∧ (∃ (j9 : Nat), j9 < d ∧ xMI X j9 144 [.ref (131), vi (10), vi (1), vi (200)] (xup (G8) (133) (((8) + ((7) * ((F) (133) 4))) + (1)) (y8)) (fun (y9 : Int) (G9 : XF) => ((0 ≤ (((8) + ((7) * ((F) (133) 4))) + (2)) ∧ (((8) + ((7) * ((F) (133) 4))) + (2)) < 163) ∧ ((0 ≤ (((8) + ((7) * ((F) (133) 4))) + (2)) ∧ (((8) + ((7) * ((F) (133) 4))) + (2)) < 163) ∧ (∃ (j10 : Nat), j10 < d ∧ xMI X j10 144 [.ref (131), vi (11), vi (0), vi ((y9) - (1))] (xup (G9) (133) (((8) + ((7) * ((F) (133) 4))) + (2)) (y9)) (fun (y10 : Int) (G10 : XF) => ((0 ≤ (((8) + ((7) * ((F) (133) 4))) + (3)) ∧ (((8) + ((7) * ((F) (133) 4))) + (3)) < 163) ∧ ((0 ≤ (((8) + ((7) * ((F) (133) 4))) + (3)) ∧ (((8) + ((7) * ((F) (133) 4))) + (3)) < 163) ∧ ((0 ≤ (((8) + ((7) * ((F) (133) 4))) + (2)) ∧ (((8) + ((7) * ((F) (133) 4))) + (2)) < 163) ∧ (∃ (j11 : Nat), j11 < d ∧ xMI X j11 144 [.ref (131), vi (12), vi ((y10) + (1)), vi ((G10) (133) (((8) + ((7) * ((F) (133) 4))) + (2)))] (xup (G10) (133) (((8) + ((7) * ((F) (133) 4))) + (3)) (y10)) (fun (y11 : Int) (G11 : XF) => ((0 ≤ (((8) + ((7) * ((F) (133) 4))) + (4)) ∧ (((8) + ((7) * ((F) (133) 4))) + (4)) < 163) ∧ (∃ (j12 : Nat), j12 < d ∧ xMI X j12 144 [.ref (131), vi (13), vi (0), vi (99)] (xup (G11) (133) (((8) + ((7) * ((F) (133) 4))) + (4)) (y11)) (fun (y12 : Int) (G12 : XF) => ((0 ≤ (((8) + ((7) * ((F) (133) 4))) + (5)) ∧ (((8) + ((7) * ((F) (133) 4))) + (5)) < 163) ∧ (∃ (j13 : Nat), j13 < d ∧ xMI X j13 144 [.ref (131), vi (14), vi (1), vi (20)] (xup (G12) (133) (((8) + ((7) * ((F) (133) 4))) + (5)) (y12)) (fun (y13 : Int) (G13 : XF) => ((0 ≤ (((8) + ((7) * ((F) (133) 4))) + (6)) ∧ (((8) + ((7) * ((F) (133) 4))) + (6)) < 163) ∧ (xPT (xup (xup (G13) (133) (((8) + ((7) * ((F) (133) 4))) + (6)) (y13)) (133) 4 (((xup (G13) (133) (((8) + ((7) * ((F) (133) 4))) + (6)) (y13)) (133) 4) + (1))) → Q (xup (xup (G13) (133) (((8) + ((7) * ((F) (133) 4))) + (6)) (y13)) (133) 4 (((xup (G13) (133) (((8) + ((7) * ((F) (133) 4))) + (6)) (y13)) (133) 4) + (1))))))))))))))))))))))))))))))))))) ∧ (¬ (¬ ((F) (133) 4) = (0)) → (∃ (j14 : Nat), j14 < d ∧ xMI X j14 143 [.ref (131), vi (0), vi (((F) (133) 0) - (1))] (F) (fun (y14 : Int) (G14 : XF) => ((0 ≤ ((8) + ((7) * ((F) (133) 4))) ∧ ((8) + ((7) * ((F) (133) 4))) < 163) ∧ ((0 ≤ ((8) + ((7) * ((F) (133) 4))) ∧ ((8) + ((7) * ((F) (133) 4))) < 163) ∧ (inR (((xup (G14) (133) ((8) + ((7) * ((F) (133) 4))) (y14)) (133) 0) - (y14)) ∧ ((((50) ≤ (((xup (G14) (133) ((8) + ((7) * ((F) (133) 4))) (y14)) (133) 0) - (y14))) → (∃ (j15 : Nat), j15 < d ∧ xMI X j15 144 [.ref (131), vi (9), vi (1), vi (50)] (xup (G14) (133) ((8) + ((7) * ((F) (133) 4))) (y14)) (fun (y15 : Int) (G15 : XF) => ((0 ≤ (((8) + ((7) * ((F) (133) 4))) + (1)) ∧ (((8) + ((7) * ((F) (133) 4))) + (1)) < 163) ∧ (∃ (j16 : Nat), j16 < d ∧ xMI X j16 144 [.ref (131), vi (10), vi (1), vi (200)] (xup (G15) (133) (((8) + ((7) * ((F) (133) 4))) + (1)) (y15)) (fun (y16 : Int) (G16 : XF) => ((0 ≤ (((8) + ((7) * ((F) (133) 4))) + (2)) ∧ (((8) + ((7) * ((F) (133) 4))) + (2)) < 163) ∧ ((0 ≤ (((8) + ((7) * ((F) (133) 4))) + (2)) ∧ (((8) + ((7) * ((F) (133) 4))) + (2)) < 163) ∧ (∃ (j17 : Nat), j17 < d ∧ xMI X j17 144 [.ref (131), vi (11), vi (0), vi ((y16) - (1))] (xup (G16) (133) (((8) + ((7) * ((F) (133) 4))) + (2)) (y16)) (fun (y17 : Int) (G17 : XF) => ((0 ≤ (((8) + ((7) * ((F) (133) 4))) + (3)) ∧ (((8) + ((7) * ((F) (133) 4))) + (3)) < 163) ∧ ((0 ≤ (((8) + ((7) * ((F) (133) 4))) + (3)) ∧ (((8) + ((7) * ((F) (133) 4))) + (3)) < 163) ∧ ((0 ≤ (((8) + ((7) * ((F) (133) 4))) + (2)) ∧ (((8) + ((7) * ((F) (133) 4))) + (2)) < 163) ∧ (∃ (j18 : Nat), j18 < d ∧ xMI X j18 144 [.ref (131), vi (12), vi ((y17) + (1)), vi ((G17) (133) (((8) + ((7) * ((F) (133) 4))) + (2)))] (xup (G17) (133) (((8) + ((7) * ((F) (133) 4))) + (3)) (y17)) (fun (y18 : Int) (G18 : XF) => ((0 ≤ (((8) + ((7) * ((F) (133) 4))) + (4)) ∧ (((8) + ((7) * ((F) (133) 4))) + (4)) < 163) ∧ (∃ (j19 : Nat), j19 < d ∧ xMI X j19 144 [.ref (131), vi (13), vi (0), vi (99)] (xup (G18) (133) (((8) + ((7) * ((F) (133) 4))) + (4)) (y18)) (fun (y19 : Int) (G19 : XF) => ((0 ≤ (((8) + ((7) * ((F) (133) 4))) + (5)) ∧ (((8) + ((7) * ((F) (133) 4))) + (5)) < 163) ∧ (∃ (j20 : Nat), j20 < d ∧ xMI X j20 144 [.ref (131), vi (14), vi (1), vi (20)] (xup (G19) (133) (((8) + ((7) * ((F) (133) 4))) + (5)) (y19)) (fun (y20 : Int) (G20 : XF) => ((0 ≤ (((8) + ((7) * ((F) (133) 4))) + (6)) ∧ (((8) + ((7) * ((F) (133) 4))) + (6)) < 163) ∧ (xPT (xup (xup (G20) (133) (((8) + ((7) * ((F) (133) 4))) + (6)) (y20)) (133) 4 (((xup (G20) (133) (((8) + ((7) * ((F) (133) 4))) + (6)) (y20)) (133) 4) + (1))) → Q (xup (xup (G20) (133) (((8) + ((7) * ((F) (133) 4))) + (6)) (y20)) (133) 4 (((xup (G20) (133) (((8) + ((7) * ((F) (133) 4))) + (6)) (y20)) (133) 4) + (1)))))))))))))))))))))))))) ∧ (¬ ((50) ≤ (((xup (G14) (133) ((8) + ((7) * ((F) (133) 4))) (y14)) (133) 0) - (y14))) → (∃ (j21 : Nat), j21 < d ∧ xMI X j21 144 [.ref (131), vi (9), vi (1), vi (((xup (G14) (133) ((8) + ((7) * ((F) (133) 4))) (y14)) (133) 0) - (y14))] (xup (G14) (133) ((8) + ((7) * ((F) (133) 4))) (y14)) (fun (y21 : Int) (G21 : XF) => ((0 ≤ (((8) + ((7) * ((F) (133) 4))) + (1)) ∧ (((8) + ((7) * ((F) (133) 4))) + (1)) < 163) ∧ (∃ (j22 : Nat), j22 < d ∧ xMI X j22 144 [.ref (131), vi (10), vi (1), vi (200)] (xup (G21) (133) (((8) + ((7) * ((F) (133) 4))) + (1)) (y21)) (fun (y22 : Int) (G22 : XF) => ((0 ≤ (((8) + ((7) * ((F) (133) 4))) + (2)) ∧ (((8) + ((7) * ((F) (133) 4))) + (2)) < 163) ∧ ((0 ≤ (((8) + ((7) * ((F) (133) 4))) + (2)) ∧ (((8) + ((7) * ((F) (133) 4))) + (2)) < 163) ∧ (∃ (j23 : Nat), j23 < d ∧ xMI X j23 144 [.ref (131), vi (11), vi (0), vi ((y22) - (1))] (xup (G22) (133) (((8) + ((7) * ((F) (133) 4))) + (2)) (y22)) (fun (y23 : Int) (G23 : XF) => ((0 ≤ (((8) + ((7) * ((F) (133) 4))) + (3)) ∧ (((8) + ((7) * ((F) (133) 4))) + (3)) < 163) ∧ ((0 ≤ (((8) + ((7) * ((F) (133) 4))) + (3)) ∧ (((8) + ((7) * ((F) (133) 4))) + (3)) < 163) ∧ ((0 ≤ (((8) + ((7) * ((F) (133) 4))) + (2)) ∧ (((8) + ((7) * ((F) (133) 4))) + (2)) < 163) ∧ (∃ (j24 : Nat), j24 < d ∧ xMI X j24 144 [.ref (131), vi (12), vi ((y23) + (1)), vi ((G23) (133) (((8) + ((7) * ((F) (133) 4))) + (2)))] (xup (G23) (133) (((8) + ((7) * ((F) (133) 4))) + (3)) (y23)) (fun (y24 : Int) (G24 : XF) => ((0 ≤ (((8) + ((7) * ((F) (133) 4))) + (4)) ∧ (((8) + ((7) * ((F) (133) 4))) + (4)) < 163) ∧ (∃ (j25 : Nat), j25 < d ∧ xMI X j25 144 [.ref (131), vi (13), vi (0), vi (99)] (xup (G24) (133) (((8) + ((7) * ((F) (133) 4))) + (4)) (y24)) (fun (y25 : Int) (G25 : XF) => ((0 ≤ (((8) + ((7) * ((F) (133) 4))) + (5)) ∧ (((8) + ((7) * ((F) (133) 4))) + (5)) < 163) ∧ (∃ (j26 : Nat), j26 < d ∧ xMI X j26 144 [.ref (131), vi (14), vi (1), vi (20)] (xup (G25) (133) (((8) + ((7) * ((F) (133) 4))) + (5)) (y25)) (fun (y26 : Int) (G26 : XF) => ((0 ≤ (((8) + ((7) * ((F) (133) 4))) + (6)) ∧ (((8) + ((7) * ((F) (133) 4))) + (6)) < 163) ∧ (xPT (xup (xup (G26) (133) (((8) + ((7) * ((F) (133) 4))) + (6)) (y26)) (133) 4 (((xup (G26) (133) (((8) + ((7) * ((F) (133) 4))) + (6)) (y26)) (133) 4) + (1))) → Q (xup (xup (G26) (133) (((8) + ((7) * ((F) (133) 4))) + (6)) (y26)) (133) 4 (((xup (G26) (133) (((8) + ((7) * ((F) (133) 4))) + (6)) (y26)) (133) 4) + (1)))))))))))))))))))))))))))))))))))) ∧ (¬ (¬ ((F) (133) 4) = (10)) → (∃ (j27 : Nat), j27 < d ∧ xMV X j27 137 [.ref (131), vi (3), vi (x1)] (F) (fun (G27 : XF) => (xPT (G27) → Q (G27))))))) : xW X d 145 0 [.ref (131), vi (x1), w2, w3, w4, w5] [] F (xqv Q) := by
  refine xw_aload_n (n := 1) (show xlook 145 0 = some (0, .aload_n 0, 1, 0, 0, 0, 0) from xlk (by decide +kernel)) rfl rfl ?_
  refine xw_getr (q := 133) (show xlook 145 1 = some (1, .getfield 17, 3, 12, 2, 0, 221) from xlk (by decide +kernel)) (by decide) (xobf xob_12 (by decide) (by decide)) rfl (xPT_get (k := 2) (f := 2) hPT xob_12 (by decide)) (by have := (xtg_12_2 _ xob_12.1 xob_12.2).1.1; omega) (n := 4) rfl ?_
  refine xw_iconst (n := 5) (show xlook 145 4 = some (4, .iconst 4, 1, 0, 0, 0, 0) from xlk (by decide +kernel)) rfl ?_
  refine xw_iald (show xlook 145 5 = some (5, .iaload, 1, 0, 0, 0, 0) from xlk (by decide +kernel)) (xtg_12_2 _ xob_12.1 xob_12.2).1 (by rw [(xtg_12_2 _ xob_12.1 xob_12.2).2]; decide) (n := 6) rfl ?_
  refine xw_istore_n (n := 7) (show xlook 145 6 = some (6, .istore_n 2, 1, 0, 0, 0, 0) from xlk (by decide +kernel)) rfl (ls' := [.ref (131), vi (x1), vi ((F) (133) 4), w3, w4, w5]) (Nat.le_of_ble_eq_true rfl) rfl ?_
  refine xw_iload_n (n := 8) (show xlook 145 7 = some (7, .iload_n 2, 1, 0, 0, 0, 0) from xlk (by decide +kernel)) rfl rfl ?_
  refine xw_bipush (n := 10) (show xlook 145 8 = some (8, .bipush 10, 2, 0, 0, 0, 0) from xlk (by decide +kernel)) rfl (by decide) ?_
  obtain ⟨q0, t⟩ := t
  refine xw_icmp_ne (n := 13) (m := 20) (show xlook 145 10 = some (10, .if_icmp .ne 10, 3, 20, 0, 0, 0) from xlk (by decide +kernel)) rfl rfl q0 ⟨by decide, by decide⟩ ⟨fun c => ?_, fun c => ?_⟩
  · replace t := t.1 c
    refine xw_bipush (n := 22) (show xlook 145 20 = some (20, .bipush 8, 2, 0, 0, 0, 0) from xlk (by decide +kernel)) rfl (by decide) ?_
    refine xw_bipush (n := 24) (show xlook 145 22 = some (22, .bipush 7, 2, 0, 0, 0, 0) from xlk (by decide +kernel)) rfl (by decide) ?_
    refine xw_iload_n (n := 25) (show xlook 145 24 = some (24, .iload_n 2, 1, 0, 0, 0, 0) from xlk (by decide +kernel)) rfl rfl ?_
    refine xw_imul (n := 26) (show xlook 145 25 = some (25, .imul, 1, 0, 0, 0, 0) from xlk (by decide +kernel)) rfl ?_
    refine xw_iadd (n := 27) (show xlook 145 26 = some (26, .iadd, 1, 0, 0, 0, 0) from xlk (by decide +kernel)) rfl ?_
    refine xw_istore_n (n := 28) (show xlook 145 27 = some (27, .istore_n 3, 1, 0, 0, 0, 0) from xlk (by decide +kernel)) rfl (ls' := [.ref (131), vi (x1), vi ((F) (133) 4), vi ((8) + ((7) * ((F) (133) 4))), w4, w5]) (Nat.le_of_ble_eq_true rfl) rfl ?_
    refine xw_iload_n (n := 29) (show xlook 145 28 = some (28, .iload_n 2, 1, 0, 0, 0, 0) from xlk (by decide +kernel)) rfl rfl ?_
    obtain ⟨q0, t⟩ := t
    refine xw_if_ne (n := 32) (m := 36) (show xlook 145 29 = some (29, .ifCond .ne 7, 3, 36, 0, 0, 0) from xlk (by decide +kernel)) rfl rfl q0 ⟨fun c => ?_, fun c => ?_⟩
    · replace t := t.1 c
      refine xw_aload_n (n := 37) (show xlook 145 36 = some (36, .aload_n 0, 1, 0, 0, 0, 0) from xlk (by decide +kernel)) rfl rfl ?_
      refine xw_getr (q := 133) (show xlook 145 37 = some (37, .getfield 17, 3, 12, 2, 0, 221) from xlk (by decide +kernel)) (by decide) (xobf xob_12 (by decide) (by decide)) rfl (xPT_get (k := 2) (f := 2) hPT xob_12 (by decide)) (by have := (xtg_12_2 _ xob_12.1 xob_12.2).1.1; omega) (n := 40) rfl ?_
      refine xw_iload_n (n := 41) (show xlook 145 40 = some (40, .iload_n 3, 1, 0, 0, 0, 0) from xlk (by decide +kernel)) rfl rfl ?_
      refine xw_bipush (n := 43) (show xlook 145 41 = some (41, .bipush 7, 2, 0, 0, 0, 0) from xlk (by decide +kernel)) rfl (by decide) ?_
      refine xw_isub (n := 44) (show xlook 145 43 = some (43, .isub, 1, 0, 0, 0, 0) from xlk (by decide +kernel)) rfl ?_
      obtain ⟨q1, t⟩ := t
      refine xw_iald (show xlook 145 44 = some (44, .iaload, 1, 0, 0, 0, 0) from xlk (by decide +kernel)) (xtg_12_2 _ xob_12.1 xob_12.2).1 (by rw [(xtg_12_2 _ xob_12.1 xob_12.2).2]; exact q1) (n := 45) rfl ?_
      refine xw_aload_n (n := 46) (show xlook 145 45 = some (45, .aload_n 0, 1, 0, 0, 0, 0) from xlk (by decide +kernel)) rfl rfl ?_
      refine xw_getr (q := 133) (show xlook 145 46 = some (46, .getfield 17, 3, 12, 2, 0, 221) from xlk (by decide +kernel)) (by decide) (xobf xob_12 (by decide) (by decide)) rfl (xPT_get (k := 2) (f := 2) hPT xob_12 (by decide)) (by have := (xtg_12_2 _ xob_12.1 xob_12.2).1.1; omega) (n := 49) rfl ?_
      refine xw_iload_n (n := 50) (show xlook 145 49 = some (49, .iload_n 3, 1, 0, 0, 0, 0) from xlk (by decide +kernel)) rfl rfl ?_
      refine xw_bipush (n := 52) (show xlook 145 50 = some (50, .bipush 6, 2, 0, 0, 0, 0) from xlk (by decide +kernel)) rfl (by decide) ?_
      refine xw_isub (n := 53) (show xlook 145 52 = some (52, .isub, 1, 0, 0, 0, 0) from xlk (by decide +kernel)) rfl ?_
      obtain ⟨q1, t⟩ := t
      refine xw_iald (show xlook 145 53 = some (53, .iaload, 1, 0, 0, 0, 0) from xlk (by decide +kernel)) (xtg_12_2 _ xob_12.1 xob_12.2).1 (by rw [(xtg_12_2 _ xob_12.1 xob_12.2).2]; exact q1) (n := 54) rfl ?_
      refine xw_iadd (n := 55) (show xlook 145 54 = some (54, .iadd, 1, 0, 0, 0, 0) from xlk (by decide +kernel)) rfl ?_
      refine xw_istore (n := 57) (show xlook 145 55 = some (55, .istore 4, 2, 0, 0, 0, 0) from xlk (by decide +kernel)) rfl (ls' := [.ref (131), vi (x1), vi ((F) (133) 4), vi ((8) + ((7) * ((F) (133) 4))), vi (((F) (133) (((8) + ((7) * ((F) (133) 4))) - (7))) + ((F) (133) (((8) + ((7) * ((F) (133) 4))) - (6)))), w5]) (Nat.le_of_ble_eq_true rfl) rfl ?_
      refine xw_aload_n (n := 58) (show xlook 145 57 = some (57, .aload_n 0, 1, 0, 0, 0, 0) from xlk (by decide +kernel)) rfl rfl ?_
      refine xw_getr (q := 133) (show xlook 145 58 = some (58, .getfield 17, 3, 12, 2, 0, 221) from xlk (by decide +kernel)) (by decide) (xobf xob_12 (by decide) (by decide)) rfl (xPT_get (k := 2) (f := 2) hPT xob_12 (by decide)) (by have := (xtg_12_2 _ xob_12.1 xob_12.2).1.1; omega) (n := 61) rfl ?_
      refine xw_iload_n (n := 62) (show xlook 145 61 = some (61, .iload_n 3, 1, 0, 0, 0, 0) from xlk (by decide +kernel)) rfl rfl ?_
      refine xw_aload_n (n := 63) (show xlook 145 62 = some (62, .aload_n 0, 1, 0, 0, 0, 0) from xlk (by decide +kernel)) rfl rfl ?_
      refine xw_iload (n := 65) (show xlook 145 63 = some (63, .iload 4, 2, 0, 0, 0, 0) from xlk (by decide +kernel)) rfl rfl ?_
      refine xw_aload_n (n := 66) (show xlook 145 65 = some (65, .aload_n 0, 1, 0, 0, 0, 0) from xlk (by decide +kernel)) rfl rfl ?_
      refine xw_getr (q := 133) (show xlook 145 66 = some (66, .getfield 17, 3, 12, 2, 0, 221) from xlk (by decide +kernel)) (by decide) (xobf xob_12 (by decide) (by decide)) rfl (xPT_get (k := 2) (f := 2) hPT xob_12 (by decide)) (by have := (xtg_12_2 _ xob_12.1 xob_12.2).1.1; omega) (n := 69) rfl ?_
      refine xw_iconst (n := 70) (show xlook 145 69 = some (69, .iconst 0, 1, 0, 0, 0, 0) from xlk (by decide +kernel)) rfl ?_
      refine xw_iald (show xlook 145 70 = some (70, .iaload, 1, 0, 0, 0, 0) from xlk (by decide +kernel)) (xtg_12_2 _ xob_12.1 xob_12.2).1 (by rw [(xtg_12_2 _ xob_12.1 xob_12.2).2]; decide) (n := 71) rfl ?_
      refine xw_iconst (n := 72) (show xlook 145 71 = some (71, .iconst 1, 1, 0, 0, 0, 0) from xlk (by decide +kernel)) rfl ?_
      refine xw_isub (n := 73) (show xlook 145 72 = some (72, .isub, 1, 0, 0, 0, 0) from xlk (by decide +kernel)) rfl ?_
      obtain ⟨j1, hj1, rr1, G1, hm1, hG1, t⟩ := t
      obtain ⟨y1, rfl, t⟩ := t
      refine xw_callv (dk := j1) (o := 131) (as := [vi (((F) (133) (((8) + ((7) * ((F) (133) 4))) - (7))) + ((F) (133) (((8) + ((7) * ((F) (133) 4))) - (6)))), vi (((F) (133) 0) - (1))]) (show xlook 145 73 = some (73, .invokevirtual 129, 3, 143, 3, 0, 161) from xlk (by decide +kernel)) (by decide) hj1 ⟨Nat.le_of_ble_eq_true rfl, Nat.le_of_ble_eq_true rfl, Nat.le_of_ble_eq_true rfl⟩ ⟨xob_12.1, xob_12.2, by decide⟩ rfl hm1 (n := 76) rfl ?_
      show xW X d 145 76 [.ref (131), vi (x1), vi ((F) (133) 4), vi ((8) + ((7) * ((F) (133) 4))), vi (((F) (133) (((8) + ((7) * ((F) (133) 4))) - (7))) + ((F) (133) (((8) + ((7) * ((F) (133) 4))) - (6)))), w5] [vi (y1), vi ((8) + ((7) * ((F) (133) 4))), .ref (133)] G1 (xqv Q)
      obtain ⟨q1, t⟩ := t
      refine xw_iast (show xlook 145 76 = some (76, .iastore, 1, 0, 0, 0, 0) from xlk (by decide +kernel)) (xtg_12_2 _ xob_12.1 xob_12.2).1 (by rw [(xtg_12_2 _ xob_12.1 xob_12.2).2]; exact q1) (n := 77) rfl ?_
      refine xw_aload_n (n := 78) (show xlook 145 77 = some (77, .aload_n 0, 1, 0, 0, 0, 0) from xlk (by decide +kernel)) rfl rfl ?_
      refine xw_getr (q := 133) (show xlook 145 78 = some (78, .getfield 17, 3, 12, 2, 0, 221) from xlk (by decide +kernel)) (by decide) (xobf xob_12 (by decide) (by decide)) rfl (xPT_get (k := 2) (f := 2) (xPT_arr hG1 (Or.inl (xtg_12_2 _ xob_12.1 xob_12.2).1.2)) xob_12 (by decide)) (by have := (xtg_12_2 _ xob_12.1 xob_12.2).1.1; omega) (n := 81) rfl ?_
      refine xw_iconst (n := 82) (show xlook 145 81 = some (81, .iconst 0, 1, 0, 0, 0, 0) from xlk (by decide +kernel)) rfl ?_
      refine xw_iald (show xlook 145 82 = some (82, .iaload, 1, 0, 0, 0, 0) from xlk (by decide +kernel)) (xtg_12_2 _ xob_12.1 xob_12.2).1 (by rw [(xtg_12_2 _ xob_12.1 xob_12.2).2]; decide) (n := 83) rfl ?_
      refine xw_aload_n (n := 84) (show xlook 145 83 = some (83, .aload_n 0, 1, 0, 0, 0, 0) from xlk (by decide +kernel)) rfl rfl ?_
      refine xw_getr (q := 133) (show xlook 145 84 = some (84, .getfield 17, 3, 12, 2, 0, 221) from xlk (by decide +kernel)) (by decide) (xobf xob_12 (by decide) (by decide)) rfl (xPT_get (k := 2) (f := 2) (xPT_arr hG1 (Or.inl (xtg_12_2 _ xob_12.1 xob_12.2).1.2)) xob_12 (by decide)) (by have := (xtg_12_2 _ xob_12.1 xob_12.2).1.1; omega) (n := 87) rfl ?_
      refine xw_iload_n (n := 88) (show xlook 145 87 = some (87, .iload_n 3, 1, 0, 0, 0, 0) from xlk (by decide +kernel)) rfl rfl ?_
      obtain ⟨q1, t⟩ := t
      refine xw_iald2 (u := y1) (show xlook 145 88 = some (88, .iaload, 1, 0, 0, 0, 0) from xlk (by decide +kernel)) (xtg_12_2 _ xob_12.1 xob_12.2).1 (by rw [(xtg_12_2 _ xob_12.1 xob_12.2).2]; exact q1) (xup_s) (n := 89) rfl ?_
      refine xw_isub (n := 90) (show xlook 145 89 = some (89, .isub, 1, 0, 0, 0, 0) from xlk (by decide +kernel)) rfl ?_
      refine xw_istore (n := 92) (show xlook 145 90 = some (90, .istore 5, 2, 0, 0, 0, 0) from xlk (by decide +kernel)) rfl (ls' := [.ref (131), vi (x1), vi ((F) (133) 4), vi ((8) + ((7) * ((F) (133) 4))), vi (((F) (133) (((8) + ((7) * ((F) (133) 4))) - (7))) + ((F) (133) (((8) + ((7) * ((F) (133) 4))) - (6)))), vi (((xup (G1) (133) ((8) + ((7) * ((F) (133) 4))) (y1)) (133) 0) - (y1))]) (Nat.le_of_ble_eq_true rfl) rfl ?_
      refine xw_aload_n (n := 93) (show xlook 145 92 = some (92, .aload_n 0, 1, 0, 0, 0, 0) from xlk (by decide +kernel)) rfl rfl ?_
      refine xw_getr (q := 133) (show xlook 145 93 = some (93, .getfield 17, 3, 12, 2, 0, 221) from xlk (by decide +kernel)) (by decide) (xobf xob_12 (by decide) (by decide)) rfl (xPT_get (k := 2) (f := 2) (xPT_arr hG1 (Or.inl (xtg_12_2 _ xob_12.1 xob_12.2).1.2)) xob_12 (by decide)) (by have := (xtg_12_2 _ xob_12.1 xob_12.2).1.1; omega) (n := 96) rfl ?_
      refine xw_iload_n (n := 97) (show xlook 145 96 = some (96, .iload_n 3, 1, 0, 0, 0, 0) from xlk (by decide +kernel)) rfl rfl ?_
      refine xw_iconst (n := 98) (show xlook 145 97 = some (97, .iconst 1, 1, 0, 0, 0, 0) from xlk (by decide +kernel)) rfl ?_
      refine xw_iadd (n := 99) (show xlook 145 98 = some (98, .iadd, 1, 0, 0, 0, 0) from xlk (by decide +kernel)) rfl ?_
      refine xw_aload_n (n := 100) (show xlook 145 99 = some (99, .aload_n 0, 1, 0, 0, 0, 0) from xlk (by decide +kernel)) rfl rfl ?_
      refine xw_bipush (n := 102) (show xlook 145 100 = some (100, .bipush 9, 2, 0, 0, 0, 0) from xlk (by decide +kernel)) rfl (by decide) ?_
      refine xw_iconst (n := 103) (show xlook 145 102 = some (102, .iconst 1, 1, 0, 0, 0, 0) from xlk (by decide +kernel)) rfl ?_
      refine xw_iload (n := 105) (show xlook 145 103 = some (103, .iload 5, 2, 0, 0, 0, 0) from xlk (by decide +kernel)) rfl rfl ?_
      refine xw_bipush (n := 107) (show xlook 145 105 = some (105, .bipush 50, 2, 0, 0, 0, 0) from xlk (by decide +kernel)) rfl (by decide) ?_
      obtain ⟨q0, t⟩ := t
      refine xw_icmp_ge (n := 110) (m := 115) (show xlook 145 107 = some (107, .if_icmp .ge 8, 3, 115, 0, 0, 0) from xlk (by decide +kernel)) rfl rfl q0 ⟨by decide, by decide⟩ ⟨fun c => ?_, fun c => ?_⟩
      · replace t := t.1 c
        refine xw_bipush (n := 117) (show xlook 145 115 = some (115, .bipush 50, 2, 0, 0, 0, 0) from xlk (by decide +kernel)) rfl (by decide) ?_
        obtain ⟨j2, hj2, rr2, G2, hm2, hG2, t⟩ := t
        obtain ⟨y2, rfl, t⟩ := t
        refine xw_callv (dk := j2) (o := 131) (as := [vi (9), vi (1), vi (50)]) (show xlook 145 117 = some (117, .invokevirtual 133, 3, 144, 4, 0, 162) from xlk (by decide +kernel)) (by decide) hj2 ⟨Nat.le_of_ble_eq_true rfl, Nat.le_of_ble_eq_true rfl, Nat.le_of_ble_eq_true rfl⟩ ⟨xob_12.1, xob_12.2, by decide⟩ rfl hm2 (n := 120) rfl ?_
        show xW X d 145 120 [.ref (131), vi (x1), vi ((F) (133) 4), vi ((8) + ((7) * ((F) (133) 4))), vi (((F) (133) (((8) + ((7) * ((F) (133) 4))) - (7))) + ((F) (133) (((8) + ((7) * ((F) (133) 4))) - (6)))), vi (((xup (G1) (133) ((8) + ((7) * ((F) (133) 4))) (y1)) (133) 0) - (y1))] [vi (y2), vi (((8) + ((7) * ((F) (133) 4))) + (1)), .ref (133)] G2 (xqv Q)
        obtain ⟨q1, t⟩ := t
        refine xw_iast (show xlook 145 120 = some (120, .iastore, 1, 0, 0, 0, 0) from xlk (by decide +kernel)) (xtg_12_2 _ xob_12.1 xob_12.2).1 (by rw [(xtg_12_2 _ xob_12.1 xob_12.2).2]; exact q1) (n := 121) rfl ?_
        refine xw_aload_n (n := 122) (show xlook 145 121 = some (121, .aload_n 0, 1, 0, 0, 0, 0) from xlk (by decide +kernel)) rfl rfl ?_
        refine xw_getr (q := 133) (show xlook 145 122 = some (122, .getfield 17, 3, 12, 2, 0, 221) from xlk (by decide +kernel)) (by decide) (xobf xob_12 (by decide) (by decide)) rfl (xPT_get (k := 2) (f := 2) (xPT_arr hG2 (Or.inl (xtg_12_2 _ xob_12.1 xob_12.2).1.2)) xob_12 (by decide)) (by have := (xtg_12_2 _ xob_12.1 xob_12.2).1.1; omega) (n := 125) rfl ?_
        refine xw_iload_n (n := 126) (show xlook 145 125 = some (125, .iload_n 3, 1, 0, 0, 0, 0) from xlk (by decide +kernel)) rfl rfl ?_
        refine xw_iconst (n := 127) (show xlook 145 126 = some (126, .iconst 2, 1, 0, 0, 0, 0) from xlk (by decide +kernel)) rfl ?_
        refine xw_iadd (n := 128) (show xlook 145 127 = some (127, .iadd, 1, 0, 0, 0, 0) from xlk (by decide +kernel)) rfl ?_
        refine xw_aload_n (n := 129) (show xlook 145 128 = some (128, .aload_n 0, 1, 0, 0, 0, 0) from xlk (by decide +kernel)) rfl rfl ?_
        refine xw_bipush (n := 131) (show xlook 145 129 = some (129, .bipush 10, 2, 0, 0, 0, 0) from xlk (by decide +kernel)) rfl (by decide) ?_
        refine xw_iconst (n := 132) (show xlook 145 131 = some (131, .iconst 1, 1, 0, 0, 0, 0) from xlk (by decide +kernel)) rfl ?_
        refine xw_sipush (n := 135) (show xlook 145 132 = some (132, .sipush 200, 3, 0, 0, 0, 0) from xlk (by decide +kernel)) rfl (by decide) ?_
        obtain ⟨j3, hj3, rr3, G3, hm3, hG3, t⟩ := t
        obtain ⟨y3, rfl, t⟩ := t
        refine xw_callv (dk := j3) (o := 131) (as := [vi (10), vi (1), vi (200)]) (show xlook 145 135 = some (135, .invokevirtual 133, 3, 144, 4, 0, 162) from xlk (by decide +kernel)) (by decide) hj3 ⟨Nat.le_of_ble_eq_true rfl, Nat.le_of_ble_eq_true rfl, Nat.le_of_ble_eq_true rfl⟩ ⟨xob_12.1, xob_12.2, by decide⟩ rfl hm3 (n := 138) rfl ?_
        show xW X d 145 138 [.ref (131), vi (x1), vi ((F) (133) 4), vi ((8) + ((7) * ((F) (133) 4))), vi (((F) (133) (((8) + ((7) * ((F) (133) 4))) - (7))) + ((F) (133) (((8) + ((7) * ((F) (133) 4))) - (6)))), vi (((xup (G1) (133) ((8) + ((7) * ((F) (133) 4))) (y1)) (133) 0) - (y1))] [vi (y3), vi (((8) + ((7) * ((F) (133) 4))) + (2)), .ref (133)] G3 (xqv Q)
        obtain ⟨q1, t⟩ := t
        refine xw_iast (show xlook 145 138 = some (138, .iastore, 1, 0, 0, 0, 0) from xlk (by decide +kernel)) (xtg_12_2 _ xob_12.1 xob_12.2).1 (by rw [(xtg_12_2 _ xob_12.1 xob_12.2).2]; exact q1) (n := 139) rfl ?_
        refine xw_aload_n (n := 140) (show xlook 145 139 = some (139, .aload_n 0, 1, 0, 0, 0, 0) from xlk (by decide +kernel)) rfl rfl ?_
        refine xw_getr (q := 133) (show xlook 145 140 = some (140, .getfield 17, 3, 12, 2, 0, 221) from xlk (by decide +kernel)) (by decide) (xobf xob_12 (by decide) (by decide)) rfl (xPT_get (k := 2) (f := 2) (xPT_arr hG3 (Or.inl (xtg_12_2 _ xob_12.1 xob_12.2).1.2)) xob_12 (by decide)) (by have := (xtg_12_2 _ xob_12.1 xob_12.2).1.1; omega) (n := 143) rfl ?_
        refine xw_iload_n (n := 144) (show xlook 145 143 = some (143, .iload_n 3, 1, 0, 0, 0, 0) from xlk (by decide +kernel)) rfl rfl ?_
        refine xw_iconst (n := 145) (show xlook 145 144 = some (144, .iconst 3, 1, 0, 0, 0, 0) from xlk (by decide +kernel)) rfl ?_
        refine xw_iadd (n := 146) (show xlook 145 145 = some (145, .iadd, 1, 0, 0, 0, 0) from xlk (by decide +kernel)) rfl ?_
        refine xw_aload_n (n := 147) (show xlook 145 146 = some (146, .aload_n 0, 1, 0, 0, 0, 0) from xlk (by decide +kernel)) rfl rfl ?_
        refine xw_bipush (n := 149) (show xlook 145 147 = some (147, .bipush 11, 2, 0, 0, 0, 0) from xlk (by decide +kernel)) rfl (by decide) ?_
        refine xw_iconst (n := 150) (show xlook 145 149 = some (149, .iconst 0, 1, 0, 0, 0, 0) from xlk (by decide +kernel)) rfl ?_
        refine xw_aload_n (n := 151) (show xlook 145 150 = some (150, .aload_n 0, 1, 0, 0, 0, 0) from xlk (by decide +kernel)) rfl rfl ?_
        refine xw_getr (q := 133) (show xlook 145 151 = some (151, .getfield 17, 3, 12, 2, 0, 221) from xlk (by decide +kernel)) (by decide) (xobf xob_12 (by decide) (by decide)) rfl (xPT_get (k := 2) (f := 2) (xPT_arr hG3 (Or.inl (xtg_12_2 _ xob_12.1 xob_12.2).1.2)) xob_12 (by decide)) (by have := (xtg_12_2 _ xob_12.1 xob_12.2).1.1; omega) (n := 154) rfl ?_
        refine xw_iload_n (n := 155) (show xlook 145 154 = some (154, .iload_n 3, 1, 0, 0, 0, 0) from xlk (by decide +kernel)) rfl rfl ?_
        refine xw_iconst (n := 156) (show xlook 145 155 = some (155, .iconst 2, 1, 0, 0, 0, 0) from xlk (by decide +kernel)) rfl ?_
        refine xw_iadd (n := 157) (show xlook 145 156 = some (156, .iadd, 1, 0, 0, 0, 0) from xlk (by decide +kernel)) rfl ?_
        obtain ⟨q1, t⟩ := t
        refine xw_iald2 (u := y3) (show xlook 145 157 = some (157, .iaload, 1, 0, 0, 0, 0) from xlk (by decide +kernel)) (xtg_12_2 _ xob_12.1 xob_12.2).1 (by rw [(xtg_12_2 _ xob_12.1 xob_12.2).2]; exact q1) (xup_s) (n := 158) rfl ?_
        refine xw_iconst (n := 159) (show xlook 145 158 = some (158, .iconst 1, 1, 0, 0, 0, 0) from xlk (by decide +kernel)) rfl ?_
        refine xw_isub (n := 160) (show xlook 145 159 = some (159, .isub, 1, 0, 0, 0, 0) from xlk (by decide +kernel)) rfl ?_
        obtain ⟨j4, hj4, rr4, G4, hm4, hG4, t⟩ := t
        obtain ⟨y4, rfl, t⟩ := t
        refine xw_callv (dk := j4) (o := 131) (as := [vi (11), vi (0), vi ((y3) - (1))]) (show xlook 145 160 = some (160, .invokevirtual 133, 3, 144, 4, 0, 162) from xlk (by decide +kernel)) (by decide) hj4 ⟨Nat.le_of_ble_eq_true rfl, Nat.le_of_ble_eq_true rfl, Nat.le_of_ble_eq_true rfl⟩ ⟨xob_12.1, xob_12.2, by decide⟩ rfl hm4 (n := 163) rfl ?_
        show xW X d 145 163 [.ref (131), vi (x1), vi ((F) (133) 4), vi ((8) + ((7) * ((F) (133) 4))), vi (((F) (133) (((8) + ((7) * ((F) (133) 4))) - (7))) + ((F) (133) (((8) + ((7) * ((F) (133) 4))) - (6)))), vi (((xup (G1) (133) ((8) + ((7) * ((F) (133) 4))) (y1)) (133) 0) - (y1))] [vi (y4), vi (((8) + ((7) * ((F) (133) 4))) + (3)), .ref (133)] G4 (xqv Q)
        obtain ⟨q1, t⟩ := t
        refine xw_iast (show xlook 145 163 = some (163, .iastore, 1, 0, 0, 0, 0) from xlk (by decide +kernel)) (xtg_12_2 _ xob_12.1 xob_12.2).1 (by rw [(xtg_12_2 _ xob_12.1 xob_12.2).2]; exact q1) (n := 164) rfl ?_
        refine xw_aload_n (n := 165) (show xlook 145 164 = some (164, .aload_n 0, 1, 0, 0, 0, 0) from xlk (by decide +kernel)) rfl rfl ?_
        refine xw_getr (q := 133) (show xlook 145 165 = some (165, .getfield 17, 3, 12, 2, 0, 221) from xlk (by decide +kernel)) (by decide) (xobf xob_12 (by decide) (by decide)) rfl (xPT_get (k := 2) (f := 2) (xPT_arr hG4 (Or.inl (xtg_12_2 _ xob_12.1 xob_12.2).1.2)) xob_12 (by decide)) (by have := (xtg_12_2 _ xob_12.1 xob_12.2).1.1; omega) (n := 168) rfl ?_
        refine xw_iload_n (n := 169) (show xlook 145 168 = some (168, .iload_n 3, 1, 0, 0, 0, 0) from xlk (by decide +kernel)) rfl rfl ?_
        refine xw_iconst (n := 170) (show xlook 145 169 = some (169, .iconst 4, 1, 0, 0, 0, 0) from xlk (by decide +kernel)) rfl ?_
        refine xw_iadd (n := 171) (show xlook 145 170 = some (170, .iadd, 1, 0, 0, 0, 0) from xlk (by decide +kernel)) rfl ?_
        refine xw_aload_n (n := 172) (show xlook 145 171 = some (171, .aload_n 0, 1, 0, 0, 0, 0) from xlk (by decide +kernel)) rfl rfl ?_
        refine xw_bipush (n := 174) (show xlook 145 172 = some (172, .bipush 12, 2, 0, 0, 0, 0) from xlk (by decide +kernel)) rfl (by decide) ?_
        refine xw_aload_n (n := 175) (show xlook 145 174 = some (174, .aload_n 0, 1, 0, 0, 0, 0) from xlk (by decide +kernel)) rfl rfl ?_
        refine xw_getr (q := 133) (show xlook 145 175 = some (175, .getfield 17, 3, 12, 2, 0, 221) from xlk (by decide +kernel)) (by decide) (xobf xob_12 (by decide) (by decide)) rfl (xPT_get (k := 2) (f := 2) (xPT_arr hG4 (Or.inl (xtg_12_2 _ xob_12.1 xob_12.2).1.2)) xob_12 (by decide)) (by have := (xtg_12_2 _ xob_12.1 xob_12.2).1.1; omega) (n := 178) rfl ?_
        refine xw_iload_n (n := 179) (show xlook 145 178 = some (178, .iload_n 3, 1, 0, 0, 0, 0) from xlk (by decide +kernel)) rfl rfl ?_
        refine xw_iconst (n := 180) (show xlook 145 179 = some (179, .iconst 3, 1, 0, 0, 0, 0) from xlk (by decide +kernel)) rfl ?_
        refine xw_iadd (n := 181) (show xlook 145 180 = some (180, .iadd, 1, 0, 0, 0, 0) from xlk (by decide +kernel)) rfl ?_
        obtain ⟨q1, t⟩ := t
        refine xw_iald2 (u := y4) (show xlook 145 181 = some (181, .iaload, 1, 0, 0, 0, 0) from xlk (by decide +kernel)) (xtg_12_2 _ xob_12.1 xob_12.2).1 (by rw [(xtg_12_2 _ xob_12.1 xob_12.2).2]; exact q1) (xup_s) (n := 182) rfl ?_
        refine xw_iconst (n := 183) (show xlook 145 182 = some (182, .iconst 1, 1, 0, 0, 0, 0) from xlk (by decide +kernel)) rfl ?_
        refine xw_iadd (n := 184) (show xlook 145 183 = some (183, .iadd, 1, 0, 0, 0, 0) from xlk (by decide +kernel)) rfl ?_
        refine xw_aload_n (n := 185) (show xlook 145 184 = some (184, .aload_n 0, 1, 0, 0, 0, 0) from xlk (by decide +kernel)) rfl rfl ?_
        refine xw_getr (q := 133) (show xlook 145 185 = some (185, .getfield 17, 3, 12, 2, 0, 221) from xlk (by decide +kernel)) (by decide) (xobf xob_12 (by decide) (by decide)) rfl (xPT_get (k := 2) (f := 2) (xPT_arr hG4 (Or.inl (xtg_12_2 _ xob_12.1 xob_12.2).1.2)) xob_12 (by decide)) (by have := (xtg_12_2 _ xob_12.1 xob_12.2).1.1; omega) (n := 188) rfl ?_
        refine xw_iload_n (n := 189) (show xlook 145 188 = some (188, .iload_n 3, 1, 0, 0, 0, 0) from xlk (by decide +kernel)) rfl rfl ?_
        refine xw_iconst (n := 190) (show xlook 145 189 = some (189, .iconst 2, 1, 0, 0, 0, 0) from xlk (by decide +kernel)) rfl ?_
        refine xw_iadd (n := 191) (show xlook 145 190 = some (190, .iadd, 1, 0, 0, 0, 0) from xlk (by decide +kernel)) rfl ?_
        obtain ⟨q1, t⟩ := t
        refine xw_iald2 (u := (G4) (133) (((8) + ((7) * ((F) (133) 4))) + (2))) (show xlook 145 191 = some (191, .iaload, 1, 0, 0, 0, 0) from xlk (by decide +kernel)) (xtg_12_2 _ xob_12.1 xob_12.2).1 (by rw [(xtg_12_2 _ xob_12.1 xob_12.2).2]; exact q1) (xup_i (by omega)) (n := 192) rfl ?_
        obtain ⟨j5, hj5, rr5, G5, hm5, hG5, t⟩ := t
        obtain ⟨y5, rfl, t⟩ := t
        refine xw_callv (dk := j5) (o := 131) (as := [vi (12), vi ((y4) + (1)), vi ((G4) (133) (((8) + ((7) * ((F) (133) 4))) + (2)))]) (show xlook 145 192 = some (192, .invokevirtual 133, 3, 144, 4, 0, 162) from xlk (by decide +kernel)) (by decide) hj5 ⟨Nat.le_of_ble_eq_true rfl, Nat.le_of_ble_eq_true rfl, Nat.le_of_ble_eq_true rfl⟩ ⟨xob_12.1, xob_12.2, by decide⟩ rfl hm5 (n := 195) rfl ?_
        show xW X d 145 195 [.ref (131), vi (x1), vi ((F) (133) 4), vi ((8) + ((7) * ((F) (133) 4))), vi (((F) (133) (((8) + ((7) * ((F) (133) 4))) - (7))) + ((F) (133) (((8) + ((7) * ((F) (133) 4))) - (6)))), vi (((xup (G1) (133) ((8) + ((7) * ((F) (133) 4))) (y1)) (133) 0) - (y1))] [vi (y5), vi (((8) + ((7) * ((F) (133) 4))) + (4)), .ref (133)] G5 (xqv Q)
        obtain ⟨q1, t⟩ := t
        refine xw_iast (show xlook 145 195 = some (195, .iastore, 1, 0, 0, 0, 0) from xlk (by decide +kernel)) (xtg_12_2 _ xob_12.1 xob_12.2).1 (by rw [(xtg_12_2 _ xob_12.1 xob_12.2).2]; exact q1) (n := 196) rfl ?_
        refine xw_aload_n (n := 197) (show xlook 145 196 = some (196, .aload_n 0, 1, 0, 0, 0, 0) from xlk (by decide +kernel)) rfl rfl ?_
        refine xw_getr (q := 133) (show xlook 145 197 = some (197, .getfield 17, 3, 12, 2, 0, 221) from xlk (by decide +kernel)) (by decide) (xobf xob_12 (by decide) (by decide)) rfl (xPT_get (k := 2) (f := 2) (xPT_arr hG5 (Or.inl (xtg_12_2 _ xob_12.1 xob_12.2).1.2)) xob_12 (by decide)) (by have := (xtg_12_2 _ xob_12.1 xob_12.2).1.1; omega) (n := 200) rfl ?_
        refine xw_iload_n (n := 201) (show xlook 145 200 = some (200, .iload_n 3, 1, 0, 0, 0, 0) from xlk (by decide +kernel)) rfl rfl ?_
        refine xw_iconst (n := 202) (show xlook 145 201 = some (201, .iconst 5, 1, 0, 0, 0, 0) from xlk (by decide +kernel)) rfl ?_
        refine xw_iadd (n := 203) (show xlook 145 202 = some (202, .iadd, 1, 0, 0, 0, 0) from xlk (by decide +kernel)) rfl ?_
        refine xw_aload_n (n := 204) (show xlook 145 203 = some (203, .aload_n 0, 1, 0, 0, 0, 0) from xlk (by decide +kernel)) rfl rfl ?_
        refine xw_bipush (n := 206) (show xlook 145 204 = some (204, .bipush 13, 2, 0, 0, 0, 0) from xlk (by decide +kernel)) rfl (by decide) ?_
        refine xw_iconst (n := 207) (show xlook 145 206 = some (206, .iconst 0, 1, 0, 0, 0, 0) from xlk (by decide +kernel)) rfl ?_
        refine xw_bipush (n := 209) (show xlook 145 207 = some (207, .bipush 99, 2, 0, 0, 0, 0) from xlk (by decide +kernel)) rfl (by decide) ?_
        obtain ⟨j6, hj6, rr6, G6, hm6, hG6, t⟩ := t
        obtain ⟨y6, rfl, t⟩ := t
        refine xw_callv (dk := j6) (o := 131) (as := [vi (13), vi (0), vi (99)]) (show xlook 145 209 = some (209, .invokevirtual 133, 3, 144, 4, 0, 162) from xlk (by decide +kernel)) (by decide) hj6 ⟨Nat.le_of_ble_eq_true rfl, Nat.le_of_ble_eq_true rfl, Nat.le_of_ble_eq_true rfl⟩ ⟨xob_12.1, xob_12.2, by decide⟩ rfl hm6 (n := 212) rfl ?_
        show xW X d 145 212 [.ref (131), vi (x1), vi ((F) (133) 4), vi ((8) + ((7) * ((F) (133) 4))), vi (((F) (133) (((8) + ((7) * ((F) (133) 4))) - (7))) + ((F) (133) (((8) + ((7) * ((F) (133) 4))) - (6)))), vi (((xup (G1) (133) ((8) + ((7) * ((F) (133) 4))) (y1)) (133) 0) - (y1))] [vi (y6), vi (((8) + ((7) * ((F) (133) 4))) + (5)), .ref (133)] G6 (xqv Q)
        obtain ⟨q1, t⟩ := t
        refine xw_iast (show xlook 145 212 = some (212, .iastore, 1, 0, 0, 0, 0) from xlk (by decide +kernel)) (xtg_12_2 _ xob_12.1 xob_12.2).1 (by rw [(xtg_12_2 _ xob_12.1 xob_12.2).2]; exact q1) (n := 213) rfl ?_
        refine xw_aload_n (n := 214) (show xlook 145 213 = some (213, .aload_n 0, 1, 0, 0, 0, 0) from xlk (by decide +kernel)) rfl rfl ?_
        refine xw_getr (q := 133) (show xlook 145 214 = some (214, .getfield 17, 3, 12, 2, 0, 221) from xlk (by decide +kernel)) (by decide) (xobf xob_12 (by decide) (by decide)) rfl (xPT_get (k := 2) (f := 2) (xPT_arr hG6 (Or.inl (xtg_12_2 _ xob_12.1 xob_12.2).1.2)) xob_12 (by decide)) (by have := (xtg_12_2 _ xob_12.1 xob_12.2).1.1; omega) (n := 217) rfl ?_
        refine xw_iload_n (n := 218) (show xlook 145 217 = some (217, .iload_n 3, 1, 0, 0, 0, 0) from xlk (by decide +kernel)) rfl rfl ?_
        refine xw_bipush (n := 220) (show xlook 145 218 = some (218, .bipush 6, 2, 0, 0, 0, 0) from xlk (by decide +kernel)) rfl (by decide) ?_
        refine xw_iadd (n := 221) (show xlook 145 220 = some (220, .iadd, 1, 0, 0, 0, 0) from xlk (by decide +kernel)) rfl ?_
        refine xw_aload_n (n := 222) (show xlook 145 221 = some (221, .aload_n 0, 1, 0, 0, 0, 0) from xlk (by decide +kernel)) rfl rfl ?_
        refine xw_bipush (n := 224) (show xlook 145 222 = some (222, .bipush 14, 2, 0, 0, 0, 0) from xlk (by decide +kernel)) rfl (by decide) ?_
        refine xw_iconst (n := 225) (show xlook 145 224 = some (224, .iconst 1, 1, 0, 0, 0, 0) from xlk (by decide +kernel)) rfl ?_
        refine xw_bipush (n := 227) (show xlook 145 225 = some (225, .bipush 20, 2, 0, 0, 0, 0) from xlk (by decide +kernel)) rfl (by decide) ?_
        obtain ⟨j7, hj7, rr7, G7, hm7, hG7, t⟩ := t
        obtain ⟨y7, rfl, t⟩ := t
        refine xw_callv (dk := j7) (o := 131) (as := [vi (14), vi (1), vi (20)]) (show xlook 145 227 = some (227, .invokevirtual 133, 3, 144, 4, 0, 162) from xlk (by decide +kernel)) (by decide) hj7 ⟨Nat.le_of_ble_eq_true rfl, Nat.le_of_ble_eq_true rfl, Nat.le_of_ble_eq_true rfl⟩ ⟨xob_12.1, xob_12.2, by decide⟩ rfl hm7 (n := 230) rfl ?_
        show xW X d 145 230 [.ref (131), vi (x1), vi ((F) (133) 4), vi ((8) + ((7) * ((F) (133) 4))), vi (((F) (133) (((8) + ((7) * ((F) (133) 4))) - (7))) + ((F) (133) (((8) + ((7) * ((F) (133) 4))) - (6)))), vi (((xup (G1) (133) ((8) + ((7) * ((F) (133) 4))) (y1)) (133) 0) - (y1))] [vi (y7), vi (((8) + ((7) * ((F) (133) 4))) + (6)), .ref (133)] G7 (xqv Q)
        obtain ⟨q1, t⟩ := t
        refine xw_iast (show xlook 145 230 = some (230, .iastore, 1, 0, 0, 0, 0) from xlk (by decide +kernel)) (xtg_12_2 _ xob_12.1 xob_12.2).1 (by rw [(xtg_12_2 _ xob_12.1 xob_12.2).2]; exact q1) (n := 231) rfl ?_
        refine xw_aload_n (n := 232) (show xlook 145 231 = some (231, .aload_n 0, 1, 0, 0, 0, 0) from xlk (by decide +kernel)) rfl rfl ?_
        refine xw_getr (q := 133) (show xlook 145 232 = some (232, .getfield 17, 3, 12, 2, 0, 221) from xlk (by decide +kernel)) (by decide) (xobf xob_12 (by decide) (by decide)) rfl (xPT_get (k := 2) (f := 2) (xPT_arr hG7 (Or.inl (xtg_12_2 _ xob_12.1 xob_12.2).1.2)) xob_12 (by decide)) (by have := (xtg_12_2 _ xob_12.1 xob_12.2).1.1; omega) (n := 235) rfl ?_
        refine xw_iconst (n := 236) (show xlook 145 235 = some (235, .iconst 4, 1, 0, 0, 0, 0) from xlk (by decide +kernel)) rfl ?_
        refine xw_dup2 (n := 237) (show xlook 145 236 = some (236, .dup2, 1, 0, 0, 0, 0) from xlk (by decide +kernel)) rfl ?_
        refine xw_iald (show xlook 145 237 = some (237, .iaload, 1, 0, 0, 0, 0) from xlk (by decide +kernel)) (xtg_12_2 _ xob_12.1 xob_12.2).1 (by rw [(xtg_12_2 _ xob_12.1 xob_12.2).2]; decide) (n := 238) rfl ?_
        refine xw_iconst (n := 239) (show xlook 145 238 = some (238, .iconst 1, 1, 0, 0, 0, 0) from xlk (by decide +kernel)) rfl ?_
        refine xw_iadd (n := 240) (show xlook 145 239 = some (239, .iadd, 1, 0, 0, 0, 0) from xlk (by decide +kernel)) rfl ?_
        refine xw_iast (show xlook 145 240 = some (240, .iastore, 1, 0, 0, 0, 0) from xlk (by decide +kernel)) (xtg_12_2 _ xob_12.1 xob_12.2).1 (by rw [(xtg_12_2 _ xob_12.1 xob_12.2).2]; decide) (n := 241) rfl ?_
        exact xw_return (xPT_arr (xPT_arr hG7 (Or.inl (xtg_12_2 _ xob_12.1 xob_12.2).1.2)) (Or.inl (xtg_12_2 _ xob_12.1 xob_12.2).1.2)) (show xlook 145 241 = some (241, .return_, 1, 0, 0, 0, 0) from xlk (by decide +kernel)) rfl (t (xPT_arr (xPT_arr hG7 (Or.inl (xtg_12_2 _ xob_12.1 xob_12.2).1.2)) (Or.inl (xtg_12_2 _ xob_12.1 xob_12.2).1.2)))
      · replace t := t.2 c
        refine xw_iload (n := 112) (show xlook 145 110 = some (110, .iload 5, 2, 0, 0, 0, 0) from xlk (by decide +kernel)) rfl rfl ?_
        refine xw_goto (m := 117) (show xlook 145 112 = some (112, .goto 5, 3, 117, 0, 0, 0) from xlk (by decide +kernel)) rfl ?_
        obtain ⟨j8, hj8, rr8, G8, hm8, hG8, t⟩ := t
        obtain ⟨y8, rfl, t⟩ := t
        refine xw_callv (dk := j8) (o := 131) (as := [vi (9), vi (1), vi (((xup (G1) (133) ((8) + ((7) * ((F) (133) 4))) (y1)) (133) 0) - (y1))]) (show xlook 145 117 = some (117, .invokevirtual 133, 3, 144, 4, 0, 162) from xlk (by decide +kernel)) (by decide) hj8 ⟨Nat.le_of_ble_eq_true rfl, Nat.le_of_ble_eq_true rfl, Nat.le_of_ble_eq_true rfl⟩ ⟨xob_12.1, xob_12.2, by decide⟩ rfl hm8 (n := 120) rfl ?_
        show xW X d 145 120 [.ref (131), vi (x1), vi ((F) (133) 4), vi ((8) + ((7) * ((F) (133) 4))), vi (((F) (133) (((8) + ((7) * ((F) (133) 4))) - (7))) + ((F) (133) (((8) + ((7) * ((F) (133) 4))) - (6)))), vi (((xup (G1) (133) ((8) + ((7) * ((F) (133) 4))) (y1)) (133) 0) - (y1))] [vi (y8), vi (((8) + ((7) * ((F) (133) 4))) + (1)), .ref (133)] G8 (xqv Q)
        obtain ⟨q1, t⟩ := t
        refine xw_iast (show xlook 145 120 = some (120, .iastore, 1, 0, 0, 0, 0) from xlk (by decide +kernel)) (xtg_12_2 _ xob_12.1 xob_12.2).1 (by rw [(xtg_12_2 _ xob_12.1 xob_12.2).2]; exact q1) (n := 121) rfl ?_
        refine xw_aload_n (n := 122) (show xlook 145 121 = some (121, .aload_n 0, 1, 0, 0, 0, 0) from xlk (by decide +kernel)) rfl rfl ?_
        refine xw_getr (q := 133) (show xlook 145 122 = some (122, .getfield 17, 3, 12, 2, 0, 221) from xlk (by decide +kernel)) (by decide) (xobf xob_12 (by decide) (by decide)) rfl (xPT_get (k := 2) (f := 2) (xPT_arr hG8 (Or.inl (xtg_12_2 _ xob_12.1 xob_12.2).1.2)) xob_12 (by decide)) (by have := (xtg_12_2 _ xob_12.1 xob_12.2).1.1; omega) (n := 125) rfl ?_
        refine xw_iload_n (n := 126) (show xlook 145 125 = some (125, .iload_n 3, 1, 0, 0, 0, 0) from xlk (by decide +kernel)) rfl rfl ?_
        refine xw_iconst (n := 127) (show xlook 145 126 = some (126, .iconst 2, 1, 0, 0, 0, 0) from xlk (by decide +kernel)) rfl ?_
        refine xw_iadd (n := 128) (show xlook 145 127 = some (127, .iadd, 1, 0, 0, 0, 0) from xlk (by decide +kernel)) rfl ?_
        refine xw_aload_n (n := 129) (show xlook 145 128 = some (128, .aload_n 0, 1, 0, 0, 0, 0) from xlk (by decide +kernel)) rfl rfl ?_
        refine xw_bipush (n := 131) (show xlook 145 129 = some (129, .bipush 10, 2, 0, 0, 0, 0) from xlk (by decide +kernel)) rfl (by decide) ?_
        refine xw_iconst (n := 132) (show xlook 145 131 = some (131, .iconst 1, 1, 0, 0, 0, 0) from xlk (by decide +kernel)) rfl ?_
        refine xw_sipush (n := 135) (show xlook 145 132 = some (132, .sipush 200, 3, 0, 0, 0, 0) from xlk (by decide +kernel)) rfl (by decide) ?_
        obtain ⟨j9, hj9, rr9, G9, hm9, hG9, t⟩ := t
        obtain ⟨y9, rfl, t⟩ := t
        refine xw_callv (dk := j9) (o := 131) (as := [vi (10), vi (1), vi (200)]) (show xlook 145 135 = some (135, .invokevirtual 133, 3, 144, 4, 0, 162) from xlk (by decide +kernel)) (by decide) hj9 ⟨Nat.le_of_ble_eq_true rfl, Nat.le_of_ble_eq_true rfl, Nat.le_of_ble_eq_true rfl⟩ ⟨xob_12.1, xob_12.2, by decide⟩ rfl hm9 (n := 138) rfl ?_
        show xW X d 145 138 [.ref (131), vi (x1), vi ((F) (133) 4), vi ((8) + ((7) * ((F) (133) 4))), vi (((F) (133) (((8) + ((7) * ((F) (133) 4))) - (7))) + ((F) (133) (((8) + ((7) * ((F) (133) 4))) - (6)))), vi (((xup (G1) (133) ((8) + ((7) * ((F) (133) 4))) (y1)) (133) 0) - (y1))] [vi (y9), vi (((8) + ((7) * ((F) (133) 4))) + (2)), .ref (133)] G9 (xqv Q)
        obtain ⟨q1, t⟩ := t
        refine xw_iast (show xlook 145 138 = some (138, .iastore, 1, 0, 0, 0, 0) from xlk (by decide +kernel)) (xtg_12_2 _ xob_12.1 xob_12.2).1 (by rw [(xtg_12_2 _ xob_12.1 xob_12.2).2]; exact q1) (n := 139) rfl ?_
        refine xw_aload_n (n := 140) (show xlook 145 139 = some (139, .aload_n 0, 1, 0, 0, 0, 0) from xlk (by decide +kernel)) rfl rfl ?_
        refine xw_getr (q := 133) (show xlook 145 140 = some (140, .getfield 17, 3, 12, 2, 0, 221) from xlk (by decide +kernel)) (by decide) (xobf xob_12 (by decide) (by decide)) rfl (xPT_get (k := 2) (f := 2) (xPT_arr hG9 (Or.inl (xtg_12_2 _ xob_12.1 xob_12.2).1.2)) xob_12 (by decide)) (by have := (xtg_12_2 _ xob_12.1 xob_12.2).1.1; omega) (n := 143) rfl ?_
        refine xw_iload_n (n := 144) (show xlook 145 143 = some (143, .iload_n 3, 1, 0, 0, 0, 0) from xlk (by decide +kernel)) rfl rfl ?_
        refine xw_iconst (n := 145) (show xlook 145 144 = some (144, .iconst 3, 1, 0, 0, 0, 0) from xlk (by decide +kernel)) rfl ?_
        refine xw_iadd (n := 146) (show xlook 145 145 = some (145, .iadd, 1, 0, 0, 0, 0) from xlk (by decide +kernel)) rfl ?_
        refine xw_aload_n (n := 147) (show xlook 145 146 = some (146, .aload_n 0, 1, 0, 0, 0, 0) from xlk (by decide +kernel)) rfl rfl ?_
        refine xw_bipush (n := 149) (show xlook 145 147 = some (147, .bipush 11, 2, 0, 0, 0, 0) from xlk (by decide +kernel)) rfl (by decide) ?_
        refine xw_iconst (n := 150) (show xlook 145 149 = some (149, .iconst 0, 1, 0, 0, 0, 0) from xlk (by decide +kernel)) rfl ?_
        refine xw_aload_n (n := 151) (show xlook 145 150 = some (150, .aload_n 0, 1, 0, 0, 0, 0) from xlk (by decide +kernel)) rfl rfl ?_
        refine xw_getr (q := 133) (show xlook 145 151 = some (151, .getfield 17, 3, 12, 2, 0, 221) from xlk (by decide +kernel)) (by decide) (xobf xob_12 (by decide) (by decide)) rfl (xPT_get (k := 2) (f := 2) (xPT_arr hG9 (Or.inl (xtg_12_2 _ xob_12.1 xob_12.2).1.2)) xob_12 (by decide)) (by have := (xtg_12_2 _ xob_12.1 xob_12.2).1.1; omega) (n := 154) rfl ?_
        refine xw_iload_n (n := 155) (show xlook 145 154 = some (154, .iload_n 3, 1, 0, 0, 0, 0) from xlk (by decide +kernel)) rfl rfl ?_
        refine xw_iconst (n := 156) (show xlook 145 155 = some (155, .iconst 2, 1, 0, 0, 0, 0) from xlk (by decide +kernel)) rfl ?_
        refine xw_iadd (n := 157) (show xlook 145 156 = some (156, .iadd, 1, 0, 0, 0, 0) from xlk (by decide +kernel)) rfl ?_
        obtain ⟨q1, t⟩ := t
        refine xw_iald2 (u := y9) (show xlook 145 157 = some (157, .iaload, 1, 0, 0, 0, 0) from xlk (by decide +kernel)) (xtg_12_2 _ xob_12.1 xob_12.2).1 (by rw [(xtg_12_2 _ xob_12.1 xob_12.2).2]; exact q1) (xup_s) (n := 158) rfl ?_
        refine xw_iconst (n := 159) (show xlook 145 158 = some (158, .iconst 1, 1, 0, 0, 0, 0) from xlk (by decide +kernel)) rfl ?_
        refine xw_isub (n := 160) (show xlook 145 159 = some (159, .isub, 1, 0, 0, 0, 0) from xlk (by decide +kernel)) rfl ?_
        obtain ⟨j10, hj10, rr10, G10, hm10, hG10, t⟩ := t
        obtain ⟨y10, rfl, t⟩ := t
        refine xw_callv (dk := j10) (o := 131) (as := [vi (11), vi (0), vi ((y9) - (1))]) (show xlook 145 160 = some (160, .invokevirtual 133, 3, 144, 4, 0, 162) from xlk (by decide +kernel)) (by decide) hj10 ⟨Nat.le_of_ble_eq_true rfl, Nat.le_of_ble_eq_true rfl, Nat.le_of_ble_eq_true rfl⟩ ⟨xob_12.1, xob_12.2, by decide⟩ rfl hm10 (n := 163) rfl ?_
        show xW X d 145 163 [.ref (131), vi (x1), vi ((F) (133) 4), vi ((8) + ((7) * ((F) (133) 4))), vi (((F) (133) (((8) + ((7) * ((F) (133) 4))) - (7))) + ((F) (133) (((8) + ((7) * ((F) (133) 4))) - (6)))), vi (((xup (G1) (133) ((8) + ((7) * ((F) (133) 4))) (y1)) (133) 0) - (y1))] [vi (y10), vi (((8) + ((7) * ((F) (133) 4))) + (3)), .ref (133)] G10 (xqv Q)
        obtain ⟨q1, t⟩ := t
        refine xw_iast (show xlook 145 163 = some (163, .iastore, 1, 0, 0, 0, 0) from xlk (by decide +kernel)) (xtg_12_2 _ xob_12.1 xob_12.2).1 (by rw [(xtg_12_2 _ xob_12.1 xob_12.2).2]; exact q1) (n := 164) rfl ?_
        refine xw_aload_n (n := 165) (show xlook 145 164 = some (164, .aload_n 0, 1, 0, 0, 0, 0) from xlk (by decide +kernel)) rfl rfl ?_
        refine xw_getr (q := 133) (show xlook 145 165 = some (165, .getfield 17, 3, 12, 2, 0, 221) from xlk (by decide +kernel)) (by decide) (xobf xob_12 (by decide) (by decide)) rfl (xPT_get (k := 2) (f := 2) (xPT_arr hG10 (Or.inl (xtg_12_2 _ xob_12.1 xob_12.2).1.2)) xob_12 (by decide)) (by have := (xtg_12_2 _ xob_12.1 xob_12.2).1.1; omega) (n := 168) rfl ?_
        refine xw_iload_n (n := 169) (show xlook 145 168 = some (168, .iload_n 3, 1, 0, 0, 0, 0) from xlk (by decide +kernel)) rfl rfl ?_
        refine xw_iconst (n := 170) (show xlook 145 169 = some (169, .iconst 4, 1, 0, 0, 0, 0) from xlk (by decide +kernel)) rfl ?_
        refine xw_iadd (n := 171) (show xlook 145 170 = some (170, .iadd, 1, 0, 0, 0, 0) from xlk (by decide +kernel)) rfl ?_
        refine xw_aload_n (n := 172) (show xlook 145 171 = some (171, .aload_n 0, 1, 0, 0, 0, 0) from xlk (by decide +kernel)) rfl rfl ?_
        refine xw_bipush (n := 174) (show xlook 145 172 = some (172, .bipush 12, 2, 0, 0, 0, 0) from xlk (by decide +kernel)) rfl (by decide) ?_
        refine xw_aload_n (n := 175) (show xlook 145 174 = some (174, .aload_n 0, 1, 0, 0, 0, 0) from xlk (by decide +kernel)) rfl rfl ?_
        refine xw_getr (q := 133) (show xlook 145 175 = some (175, .getfield 17, 3, 12, 2, 0, 221) from xlk (by decide +kernel)) (by decide) (xobf xob_12 (by decide) (by decide)) rfl (xPT_get (k := 2) (f := 2) (xPT_arr hG10 (Or.inl (xtg_12_2 _ xob_12.1 xob_12.2).1.2)) xob_12 (by decide)) (by have := (xtg_12_2 _ xob_12.1 xob_12.2).1.1; omega) (n := 178) rfl ?_
        refine xw_iload_n (n := 179) (show xlook 145 178 = some (178, .iload_n 3, 1, 0, 0, 0, 0) from xlk (by decide +kernel)) rfl rfl ?_
        refine xw_iconst (n := 180) (show xlook 145 179 = some (179, .iconst 3, 1, 0, 0, 0, 0) from xlk (by decide +kernel)) rfl ?_
        refine xw_iadd (n := 181) (show xlook 145 180 = some (180, .iadd, 1, 0, 0, 0, 0) from xlk (by decide +kernel)) rfl ?_
        obtain ⟨q1, t⟩ := t
        refine xw_iald2 (u := y10) (show xlook 145 181 = some (181, .iaload, 1, 0, 0, 0, 0) from xlk (by decide +kernel)) (xtg_12_2 _ xob_12.1 xob_12.2).1 (by rw [(xtg_12_2 _ xob_12.1 xob_12.2).2]; exact q1) (xup_s) (n := 182) rfl ?_
        refine xw_iconst (n := 183) (show xlook 145 182 = some (182, .iconst 1, 1, 0, 0, 0, 0) from xlk (by decide +kernel)) rfl ?_
        refine xw_iadd (n := 184) (show xlook 145 183 = some (183, .iadd, 1, 0, 0, 0, 0) from xlk (by decide +kernel)) rfl ?_
        refine xw_aload_n (n := 185) (show xlook 145 184 = some (184, .aload_n 0, 1, 0, 0, 0, 0) from xlk (by decide +kernel)) rfl rfl ?_
        refine xw_getr (q := 133) (show xlook 145 185 = some (185, .getfield 17, 3, 12, 2, 0, 221) from xlk (by decide +kernel)) (by decide) (xobf xob_12 (by decide) (by decide)) rfl (xPT_get (k := 2) (f := 2) (xPT_arr hG10 (Or.inl (xtg_12_2 _ xob_12.1 xob_12.2).1.2)) xob_12 (by decide)) (by have := (xtg_12_2 _ xob_12.1 xob_12.2).1.1; omega) (n := 188) rfl ?_
        refine xw_iload_n (n := 189) (show xlook 145 188 = some (188, .iload_n 3, 1, 0, 0, 0, 0) from xlk (by decide +kernel)) rfl rfl ?_
        refine xw_iconst (n := 190) (show xlook 145 189 = some (189, .iconst 2, 1, 0, 0, 0, 0) from xlk (by decide +kernel)) rfl ?_
        refine xw_iadd (n := 191) (show xlook 145 190 = some (190, .iadd, 1, 0, 0, 0, 0) from xlk (by decide +kernel)) rfl ?_
        obtain ⟨q1, t⟩ := t
        refine xw_iald2 (u := (G10) (133) (((8) + ((7) * ((F) (133) 4))) + (2))) (show xlook 145 191 = some (191, .iaload, 1, 0, 0, 0, 0) from xlk (by decide +kernel)) (xtg_12_2 _ xob_12.1 xob_12.2).1 (by rw [(xtg_12_2 _ xob_12.1 xob_12.2).2]; exact q1) (xup_i (by omega)) (n := 192) rfl ?_
        obtain ⟨j11, hj11, rr11, G11, hm11, hG11, t⟩ := t
        obtain ⟨y11, rfl, t⟩ := t
        refine xw_callv (dk := j11) (o := 131) (as := [vi (12), vi ((y10) + (1)), vi ((G10) (133) (((8) + ((7) * ((F) (133) 4))) + (2)))]) (show xlook 145 192 = some (192, .invokevirtual 133, 3, 144, 4, 0, 162) from xlk (by decide +kernel)) (by decide) hj11 ⟨Nat.le_of_ble_eq_true rfl, Nat.le_of_ble_eq_true rfl, Nat.le_of_ble_eq_true rfl⟩ ⟨xob_12.1, xob_12.2, by decide⟩ rfl hm11 (n := 195) rfl ?_
        show xW X d 145 195 [.ref (131), vi (x1), vi ((F) (133) 4), vi ((8) + ((7) * ((F) (133) 4))), vi (((F) (133) (((8) + ((7) * ((F) (133) 4))) - (7))) + ((F) (133) (((8) + ((7) * ((F) (133) 4))) - (6)))), vi (((xup (G1) (133) ((8) + ((7) * ((F) (133) 4))) (y1)) (133) 0) - (y1))] [vi (y11), vi (((8) + ((7) * ((F) (133) 4))) + (4)), .ref (133)] G11 (xqv Q)
        obtain ⟨q1, t⟩ := t
        refine xw_iast (show xlook 145 195 = some (195, .iastore, 1, 0, 0, 0, 0) from xlk (by decide +kernel)) (xtg_12_2 _ xob_12.1 xob_12.2).1 (by rw [(xtg_12_2 _ xob_12.1 xob_12.2).2]; exact q1) (n := 196) rfl ?_
        refine xw_aload_n (n := 197) (show xlook 145 196 = some (196, .aload_n 0, 1, 0, 0, 0, 0) from xlk (by decide +kernel)) rfl rfl ?_
        refine xw_getr (q := 133) (show xlook 145 197 = some (197, .getfield 17, 3, 12, 2, 0, 221) from xlk (by decide +kernel)) (by decide) (xobf xob_12 (by decide) (by decide)) rfl (xPT_get (k := 2) (f := 2) (xPT_arr hG11 (Or.inl (xtg_12_2 _ xob_12.1 xob_12.2).1.2)) xob_12 (by decide)) (by have := (xtg_12_2 _ xob_12.1 xob_12.2).1.1; omega) (n := 200) rfl ?_
        refine xw_iload_n (n := 201) (show xlook 145 200 = some (200, .iload_n 3, 1, 0, 0, 0, 0) from xlk (by decide +kernel)) rfl rfl ?_
        refine xw_iconst (n := 202) (show xlook 145 201 = some (201, .iconst 5, 1, 0, 0, 0, 0) from xlk (by decide +kernel)) rfl ?_
        refine xw_iadd (n := 203) (show xlook 145 202 = some (202, .iadd, 1, 0, 0, 0, 0) from xlk (by decide +kernel)) rfl ?_
        refine xw_aload_n (n := 204) (show xlook 145 203 = some (203, .aload_n 0, 1, 0, 0, 0, 0) from xlk (by decide +kernel)) rfl rfl ?_
        refine xw_bipush (n := 206) (show xlook 145 204 = some (204, .bipush 13, 2, 0, 0, 0, 0) from xlk (by decide +kernel)) rfl (by decide) ?_
        refine xw_iconst (n := 207) (show xlook 145 206 = some (206, .iconst 0, 1, 0, 0, 0, 0) from xlk (by decide +kernel)) rfl ?_
        refine xw_bipush (n := 209) (show xlook 145 207 = some (207, .bipush 99, 2, 0, 0, 0, 0) from xlk (by decide +kernel)) rfl (by decide) ?_
        obtain ⟨j12, hj12, rr12, G12, hm12, hG12, t⟩ := t
        obtain ⟨y12, rfl, t⟩ := t
        refine xw_callv (dk := j12) (o := 131) (as := [vi (13), vi (0), vi (99)]) (show xlook 145 209 = some (209, .invokevirtual 133, 3, 144, 4, 0, 162) from xlk (by decide +kernel)) (by decide) hj12 ⟨Nat.le_of_ble_eq_true rfl, Nat.le_of_ble_eq_true rfl, Nat.le_of_ble_eq_true rfl⟩ ⟨xob_12.1, xob_12.2, by decide⟩ rfl hm12 (n := 212) rfl ?_
        show xW X d 145 212 [.ref (131), vi (x1), vi ((F) (133) 4), vi ((8) + ((7) * ((F) (133) 4))), vi (((F) (133) (((8) + ((7) * ((F) (133) 4))) - (7))) + ((F) (133) (((8) + ((7) * ((F) (133) 4))) - (6)))), vi (((xup (G1) (133) ((8) + ((7) * ((F) (133) 4))) (y1)) (133) 0) - (y1))] [vi (y12), vi (((8) + ((7) * ((F) (133) 4))) + (5)), .ref (133)] G12 (xqv Q)
        obtain ⟨q1, t⟩ := t
        refine xw_iast (show xlook 145 212 = some (212, .iastore, 1, 0, 0, 0, 0) from xlk (by decide +kernel)) (xtg_12_2 _ xob_12.1 xob_12.2).1 (by rw [(xtg_12_2 _ xob_12.1 xob_12.2).2]; exact q1) (n := 213) rfl ?_
        refine xw_aload_n (n := 214) (show xlook 145 213 = some (213, .aload_n 0, 1, 0, 0, 0, 0) from xlk (by decide +kernel)) rfl rfl ?_
        refine xw_getr (q := 133) (show xlook 145 214 = some (214, .getfield 17, 3, 12, 2, 0, 221) from xlk (by decide +kernel)) (by decide) (xobf xob_12 (by decide) (by decide)) rfl (xPT_get (k := 2) (f := 2) (xPT_arr hG12 (Or.inl (xtg_12_2 _ xob_12.1 xob_12.2).1.2)) xob_12 (by decide)) (by have := (xtg_12_2 _ xob_12.1 xob_12.2).1.1; omega) (n := 217) rfl ?_
        refine xw_iload_n (n := 218) (show xlook 145 217 = some (217, .iload_n 3, 1, 0, 0, 0, 0) from xlk (by decide +kernel)) rfl rfl ?_
        refine xw_bipush (n := 220) (show xlook 145 218 = some (218, .bipush 6, 2, 0, 0, 0, 0) from xlk (by decide +kernel)) rfl (by decide) ?_
        refine xw_iadd (n := 221) (show xlook 145 220 = some (220, .iadd, 1, 0, 0, 0, 0) from xlk (by decide +kernel)) rfl ?_
        refine xw_aload_n (n := 222) (show xlook 145 221 = some (221, .aload_n 0, 1, 0, 0, 0, 0) from xlk (by decide +kernel)) rfl rfl ?_
        refine xw_bipush (n := 224) (show xlook 145 222 = some (222, .bipush 14, 2, 0, 0, 0, 0) from xlk (by decide +kernel)) rfl (by decide) ?_
        refine xw_iconst (n := 225) (show xlook 145 224 = some (224, .iconst 1, 1, 0, 0, 0, 0) from xlk (by decide +kernel)) rfl ?_
        refine xw_bipush (n := 227) (show xlook 145 225 = some (225, .bipush 20, 2, 0, 0, 0, 0) from xlk (by decide +kernel)) rfl (by decide) ?_
        obtain ⟨j13, hj13, rr13, G13, hm13, hG13, t⟩ := t
        obtain ⟨y13, rfl, t⟩ := t
        refine xw_callv (dk := j13) (o := 131) (as := [vi (14), vi (1), vi (20)]) (show xlook 145 227 = some (227, .invokevirtual 133, 3, 144, 4, 0, 162) from xlk (by decide +kernel)) (by decide) hj13 ⟨Nat.le_of_ble_eq_true rfl, Nat.le_of_ble_eq_true rfl, Nat.le_of_ble_eq_true rfl⟩ ⟨xob_12.1, xob_12.2, by decide⟩ rfl hm13 (n := 230) rfl ?_
        show xW X d 145 230 [.ref (131), vi (x1), vi ((F) (133) 4), vi ((8) + ((7) * ((F) (133) 4))), vi (((F) (133) (((8) + ((7) * ((F) (133) 4))) - (7))) + ((F) (133) (((8) + ((7) * ((F) (133) 4))) - (6)))), vi (((xup (G1) (133) ((8) + ((7) * ((F) (133) 4))) (y1)) (133) 0) - (y1))] [vi (y13), vi (((8) + ((7) * ((F) (133) 4))) + (6)), .ref (133)] G13 (xqv Q)
        obtain ⟨q1, t⟩ := t
        refine xw_iast (show xlook 145 230 = some (230, .iastore, 1, 0, 0, 0, 0) from xlk (by decide +kernel)) (xtg_12_2 _ xob_12.1 xob_12.2).1 (by rw [(xtg_12_2 _ xob_12.1 xob_12.2).2]; exact q1) (n := 231) rfl ?_
        refine xw_aload_n (n := 232) (show xlook 145 231 = some (231, .aload_n 0, 1, 0, 0, 0, 0) from xlk (by decide +kernel)) rfl rfl ?_
        refine xw_getr (q := 133) (show xlook 145 232 = some (232, .getfield 17, 3, 12, 2, 0, 221) from xlk (by decide +kernel)) (by decide) (xobf xob_12 (by decide) (by decide)) rfl (xPT_get (k := 2) (f := 2) (xPT_arr hG13 (Or.inl (xtg_12_2 _ xob_12.1 xob_12.2).1.2)) xob_12 (by decide)) (by have := (xtg_12_2 _ xob_12.1 xob_12.2).1.1; omega) (n := 235) rfl ?_
        refine xw_iconst (n := 236) (show xlook 145 235 = some (235, .iconst 4, 1, 0, 0, 0, 0) from xlk (by decide +kernel)) rfl ?_
        refine xw_dup2 (n := 237) (show xlook 145 236 = some (236, .dup2, 1, 0, 0, 0, 0) from xlk (by decide +kernel)) rfl ?_
        refine xw_iald (show xlook 145 237 = some (237, .iaload, 1, 0, 0, 0, 0) from xlk (by decide +kernel)) (xtg_12_2 _ xob_12.1 xob_12.2).1 (by rw [(xtg_12_2 _ xob_12.1 xob_12.2).2]; decide) (n := 238) rfl ?_
        refine xw_iconst (n := 239) (show xlook 145 238 = some (238, .iconst 1, 1, 0, 0, 0, 0) from xlk (by decide +kernel)) rfl ?_
        refine xw_iadd (n := 240) (show xlook 145 239 = some (239, .iadd, 1, 0, 0, 0, 0) from xlk (by decide +kernel)) rfl ?_
        refine xw_iast (show xlook 145 240 = some (240, .iastore, 1, 0, 0, 0, 0) from xlk (by decide +kernel)) (xtg_12_2 _ xob_12.1 xob_12.2).1 (by rw [(xtg_12_2 _ xob_12.1 xob_12.2).2]; decide) (n := 241) rfl ?_
        exact xw_return (xPT_arr (xPT_arr hG13 (Or.inl (xtg_12_2 _ xob_12.1 xob_12.2).1.2)) (Or.inl (xtg_12_2 _ xob_12.1 xob_12.2).1.2)) (show xlook 145 241 = some (241, .return_, 1, 0, 0, 0, 0) from xlk (by decide +kernel)) rfl (t (xPT_arr (xPT_arr hG13 (Or.inl (xtg_12_2 _ xob_12.1 xob_12.2).1.2)) (Or.inl (xtg_12_2 _ xob_12.1 xob_12.2).1.2)))
    · replace t := t.2 c
      refine xw_iconst (n := 33) (show xlook 145 32 = some (32, .iconst 0, 1, 0, 0, 0, 0) from xlk (by decide +kernel)) rfl ?_
      refine xw_goto (m := 55) (show xlook 145 33 = some (33, .goto 22, 3, 55, 0, 0, 0) from xlk (by decide +kernel)) rfl ?_
      refine xw_istore (n := 57) (show xlook 145 55 = some (55, .istore 4, 2, 0, 0, 0, 0) from xlk (by decide +kernel)) rfl (ls' := [.ref (131), vi (x1), vi ((F) (133) 4), vi ((8) + ((7) * ((F) (133) 4))), vi (0), w5]) (Nat.le_of_ble_eq_true rfl) rfl ?_
      refine xw_aload_n (n := 58) (show xlook 145 57 = some (57, .aload_n 0, 1, 0, 0, 0, 0) from xlk (by decide +kernel)) rfl rfl ?_
      refine xw_getr (q := 133) (show xlook 145 58 = some (58, .getfield 17, 3, 12, 2, 0, 221) from xlk (by decide +kernel)) (by decide) (xobf xob_12 (by decide) (by decide)) rfl (xPT_get (k := 2) (f := 2) hPT xob_12 (by decide)) (by have := (xtg_12_2 _ xob_12.1 xob_12.2).1.1; omega) (n := 61) rfl ?_
      refine xw_iload_n (n := 62) (show xlook 145 61 = some (61, .iload_n 3, 1, 0, 0, 0, 0) from xlk (by decide +kernel)) rfl rfl ?_
      refine xw_aload_n (n := 63) (show xlook 145 62 = some (62, .aload_n 0, 1, 0, 0, 0, 0) from xlk (by decide +kernel)) rfl rfl ?_
      refine xw_iload (n := 65) (show xlook 145 63 = some (63, .iload 4, 2, 0, 0, 0, 0) from xlk (by decide +kernel)) rfl rfl ?_
      refine xw_aload_n (n := 66) (show xlook 145 65 = some (65, .aload_n 0, 1, 0, 0, 0, 0) from xlk (by decide +kernel)) rfl rfl ?_
      refine xw_getr (q := 133) (show xlook 145 66 = some (66, .getfield 17, 3, 12, 2, 0, 221) from xlk (by decide +kernel)) (by decide) (xobf xob_12 (by decide) (by decide)) rfl (xPT_get (k := 2) (f := 2) hPT xob_12 (by decide)) (by have := (xtg_12_2 _ xob_12.1 xob_12.2).1.1; omega) (n := 69) rfl ?_
      refine xw_iconst (n := 70) (show xlook 145 69 = some (69, .iconst 0, 1, 0, 0, 0, 0) from xlk (by decide +kernel)) rfl ?_
      refine xw_iald (show xlook 145 70 = some (70, .iaload, 1, 0, 0, 0, 0) from xlk (by decide +kernel)) (xtg_12_2 _ xob_12.1 xob_12.2).1 (by rw [(xtg_12_2 _ xob_12.1 xob_12.2).2]; decide) (n := 71) rfl ?_
      refine xw_iconst (n := 72) (show xlook 145 71 = some (71, .iconst 1, 1, 0, 0, 0, 0) from xlk (by decide +kernel)) rfl ?_
      refine xw_isub (n := 73) (show xlook 145 72 = some (72, .isub, 1, 0, 0, 0, 0) from xlk (by decide +kernel)) rfl ?_
      obtain ⟨j14, hj14, rr14, G14, hm14, hG14, t⟩ := t
      obtain ⟨y14, rfl, t⟩ := t
      refine xw_callv (dk := j14) (o := 131) (as := [vi (0), vi (((F) (133) 0) - (1))]) (show xlook 145 73 = some (73, .invokevirtual 129, 3, 143, 3, 0, 161) from xlk (by decide +kernel)) (by decide) hj14 ⟨Nat.le_of_ble_eq_true rfl, Nat.le_of_ble_eq_true rfl, Nat.le_of_ble_eq_true rfl⟩ ⟨xob_12.1, xob_12.2, by decide⟩ rfl hm14 (n := 76) rfl ?_
      show xW X d 145 76 [.ref (131), vi (x1), vi ((F) (133) 4), vi ((8) + ((7) * ((F) (133) 4))), vi (0), w5] [vi (y14), vi ((8) + ((7) * ((F) (133) 4))), .ref (133)] G14 (xqv Q)
      obtain ⟨q1, t⟩ := t
      refine xw_iast (show xlook 145 76 = some (76, .iastore, 1, 0, 0, 0, 0) from xlk (by decide +kernel)) (xtg_12_2 _ xob_12.1 xob_12.2).1 (by rw [(xtg_12_2 _ xob_12.1 xob_12.2).2]; exact q1) (n := 77) rfl ?_
      refine xw_aload_n (n := 78) (show xlook 145 77 = some (77, .aload_n 0, 1, 0, 0, 0, 0) from xlk (by decide +kernel)) rfl rfl ?_
      refine xw_getr (q := 133) (show xlook 145 78 = some (78, .getfield 17, 3, 12, 2, 0, 221) from xlk (by decide +kernel)) (by decide) (xobf xob_12 (by decide) (by decide)) rfl (xPT_get (k := 2) (f := 2) (xPT_arr hG14 (Or.inl (xtg_12_2 _ xob_12.1 xob_12.2).1.2)) xob_12 (by decide)) (by have := (xtg_12_2 _ xob_12.1 xob_12.2).1.1; omega) (n := 81) rfl ?_
      refine xw_iconst (n := 82) (show xlook 145 81 = some (81, .iconst 0, 1, 0, 0, 0, 0) from xlk (by decide +kernel)) rfl ?_
      refine xw_iald (show xlook 145 82 = some (82, .iaload, 1, 0, 0, 0, 0) from xlk (by decide +kernel)) (xtg_12_2 _ xob_12.1 xob_12.2).1 (by rw [(xtg_12_2 _ xob_12.1 xob_12.2).2]; decide) (n := 83) rfl ?_
      refine xw_aload_n (n := 84) (show xlook 145 83 = some (83, .aload_n 0, 1, 0, 0, 0, 0) from xlk (by decide +kernel)) rfl rfl ?_
      refine xw_getr (q := 133) (show xlook 145 84 = some (84, .getfield 17, 3, 12, 2, 0, 221) from xlk (by decide +kernel)) (by decide) (xobf xob_12 (by decide) (by decide)) rfl (xPT_get (k := 2) (f := 2) (xPT_arr hG14 (Or.inl (xtg_12_2 _ xob_12.1 xob_12.2).1.2)) xob_12 (by decide)) (by have := (xtg_12_2 _ xob_12.1 xob_12.2).1.1; omega) (n := 87) rfl ?_
      refine xw_iload_n (n := 88) (show xlook 145 87 = some (87, .iload_n 3, 1, 0, 0, 0, 0) from xlk (by decide +kernel)) rfl rfl ?_
      obtain ⟨q1, t⟩ := t
      refine xw_iald2 (u := y14) (show xlook 145 88 = some (88, .iaload, 1, 0, 0, 0, 0) from xlk (by decide +kernel)) (xtg_12_2 _ xob_12.1 xob_12.2).1 (by rw [(xtg_12_2 _ xob_12.1 xob_12.2).2]; exact q1) (xup_s) (n := 89) rfl ?_
      refine xw_isub (n := 90) (show xlook 145 89 = some (89, .isub, 1, 0, 0, 0, 0) from xlk (by decide +kernel)) rfl ?_
      refine xw_istore (n := 92) (show xlook 145 90 = some (90, .istore 5, 2, 0, 0, 0, 0) from xlk (by decide +kernel)) rfl (ls' := [.ref (131), vi (x1), vi ((F) (133) 4), vi ((8) + ((7) * ((F) (133) 4))), vi (0), vi (((xup (G14) (133) ((8) + ((7) * ((F) (133) 4))) (y14)) (133) 0) - (y14))]) (Nat.le_of_ble_eq_true rfl) rfl ?_
      refine xw_aload_n (n := 93) (show xlook 145 92 = some (92, .aload_n 0, 1, 0, 0, 0, 0) from xlk (by decide +kernel)) rfl rfl ?_
      refine xw_getr (q := 133) (show xlook 145 93 = some (93, .getfield 17, 3, 12, 2, 0, 221) from xlk (by decide +kernel)) (by decide) (xobf xob_12 (by decide) (by decide)) rfl (xPT_get (k := 2) (f := 2) (xPT_arr hG14 (Or.inl (xtg_12_2 _ xob_12.1 xob_12.2).1.2)) xob_12 (by decide)) (by have := (xtg_12_2 _ xob_12.1 xob_12.2).1.1; omega) (n := 96) rfl ?_
      refine xw_iload_n (n := 97) (show xlook 145 96 = some (96, .iload_n 3, 1, 0, 0, 0, 0) from xlk (by decide +kernel)) rfl rfl ?_
      refine xw_iconst (n := 98) (show xlook 145 97 = some (97, .iconst 1, 1, 0, 0, 0, 0) from xlk (by decide +kernel)) rfl ?_
      refine xw_iadd (n := 99) (show xlook 145 98 = some (98, .iadd, 1, 0, 0, 0, 0) from xlk (by decide +kernel)) rfl ?_
      refine xw_aload_n (n := 100) (show xlook 145 99 = some (99, .aload_n 0, 1, 0, 0, 0, 0) from xlk (by decide +kernel)) rfl rfl ?_
      refine xw_bipush (n := 102) (show xlook 145 100 = some (100, .bipush 9, 2, 0, 0, 0, 0) from xlk (by decide +kernel)) rfl (by decide) ?_
      refine xw_iconst (n := 103) (show xlook 145 102 = some (102, .iconst 1, 1, 0, 0, 0, 0) from xlk (by decide +kernel)) rfl ?_
      refine xw_iload (n := 105) (show xlook 145 103 = some (103, .iload 5, 2, 0, 0, 0, 0) from xlk (by decide +kernel)) rfl rfl ?_
      refine xw_bipush (n := 107) (show xlook 145 105 = some (105, .bipush 50, 2, 0, 0, 0, 0) from xlk (by decide +kernel)) rfl (by decide) ?_
      obtain ⟨q0, t⟩ := t
      refine xw_icmp_ge (n := 110) (m := 115) (show xlook 145 107 = some (107, .if_icmp .ge 8, 3, 115, 0, 0, 0) from xlk (by decide +kernel)) rfl rfl q0 ⟨by decide, by decide⟩ ⟨fun c => ?_, fun c => ?_⟩
      · replace t := t.1 c
        refine xw_bipush (n := 117) (show xlook 145 115 = some (115, .bipush 50, 2, 0, 0, 0, 0) from xlk (by decide +kernel)) rfl (by decide) ?_
        obtain ⟨j15, hj15, rr15, G15, hm15, hG15, t⟩ := t
        obtain ⟨y15, rfl, t⟩ := t
        refine xw_callv (dk := j15) (o := 131) (as := [vi (9), vi (1), vi (50)]) (show xlook 145 117 = some (117, .invokevirtual 133, 3, 144, 4, 0, 162) from xlk (by decide +kernel)) (by decide) hj15 ⟨Nat.le_of_ble_eq_true rfl, Nat.le_of_ble_eq_true rfl, Nat.le_of_ble_eq_true rfl⟩ ⟨xob_12.1, xob_12.2, by decide⟩ rfl hm15 (n := 120) rfl ?_
        show xW X d 145 120 [.ref (131), vi (x1), vi ((F) (133) 4), vi ((8) + ((7) * ((F) (133) 4))), vi (0), vi (((xup (G14) (133) ((8) + ((7) * ((F) (133) 4))) (y14)) (133) 0) - (y14))] [vi (y15), vi (((8) + ((7) * ((F) (133) 4))) + (1)), .ref (133)] G15 (xqv Q)
        obtain ⟨q1, t⟩ := t
        refine xw_iast (show xlook 145 120 = some (120, .iastore, 1, 0, 0, 0, 0) from xlk (by decide +kernel)) (xtg_12_2 _ xob_12.1 xob_12.2).1 (by rw [(xtg_12_2 _ xob_12.1 xob_12.2).2]; exact q1) (n := 121) rfl ?_
        refine xw_aload_n (n := 122) (show xlook 145 121 = some (121, .aload_n 0, 1, 0, 0, 0, 0) from xlk (by decide +kernel)) rfl rfl ?_
        refine xw_getr (q := 133) (show xlook 145 122 = some (122, .getfield 17, 3, 12, 2, 0, 221) from xlk (by decide +kernel)) (by decide) (xobf xob_12 (by decide) (by decide)) rfl (xPT_get (k := 2) (f := 2) (xPT_arr hG15 (Or.inl (xtg_12_2 _ xob_12.1 xob_12.2).1.2)) xob_12 (by decide)) (by have := (xtg_12_2 _ xob_12.1 xob_12.2).1.1; omega) (n := 125) rfl ?_
        refine xw_iload_n (n := 126) (show xlook 145 125 = some (125, .iload_n 3, 1, 0, 0, 0, 0) from xlk (by decide +kernel)) rfl rfl ?_
        refine xw_iconst (n := 127) (show xlook 145 126 = some (126, .iconst 2, 1, 0, 0, 0, 0) from xlk (by decide +kernel)) rfl ?_
        refine xw_iadd (n := 128) (show xlook 145 127 = some (127, .iadd, 1, 0, 0, 0, 0) from xlk (by decide +kernel)) rfl ?_
        refine xw_aload_n (n := 129) (show xlook 145 128 = some (128, .aload_n 0, 1, 0, 0, 0, 0) from xlk (by decide +kernel)) rfl rfl ?_
        refine xw_bipush (n := 131) (show xlook 145 129 = some (129, .bipush 10, 2, 0, 0, 0, 0) from xlk (by decide +kernel)) rfl (by decide) ?_
        refine xw_iconst (n := 132) (show xlook 145 131 = some (131, .iconst 1, 1, 0, 0, 0, 0) from xlk (by decide +kernel)) rfl ?_
        refine xw_sipush (n := 135) (show xlook 145 132 = some (132, .sipush 200, 3, 0, 0, 0, 0) from xlk (by decide +kernel)) rfl (by decide) ?_
        obtain ⟨j16, hj16, rr16, G16, hm16, hG16, t⟩ := t
        obtain ⟨y16, rfl, t⟩ := t
        refine xw_callv (dk := j16) (o := 131) (as := [vi (10), vi (1), vi (200)]) (show xlook 145 135 = some (135, .invokevirtual 133, 3, 144, 4, 0, 162) from xlk (by decide +kernel)) (by decide) hj16 ⟨Nat.le_of_ble_eq_true rfl, Nat.le_of_ble_eq_true rfl, Nat.le_of_ble_eq_true rfl⟩ ⟨xob_12.1, xob_12.2, by decide⟩ rfl hm16 (n := 138) rfl ?_
        show xW X d 145 138 [.ref (131), vi (x1), vi ((F) (133) 4), vi ((8) + ((7) * ((F) (133) 4))), vi (0), vi (((xup (G14) (133) ((8) + ((7) * ((F) (133) 4))) (y14)) (133) 0) - (y14))] [vi (y16), vi (((8) + ((7) * ((F) (133) 4))) + (2)), .ref (133)] G16 (xqv Q)
        obtain ⟨q1, t⟩ := t
        refine xw_iast (show xlook 145 138 = some (138, .iastore, 1, 0, 0, 0, 0) from xlk (by decide +kernel)) (xtg_12_2 _ xob_12.1 xob_12.2).1 (by rw [(xtg_12_2 _ xob_12.1 xob_12.2).2]; exact q1) (n := 139) rfl ?_
        refine xw_aload_n (n := 140) (show xlook 145 139 = some (139, .aload_n 0, 1, 0, 0, 0, 0) from xlk (by decide +kernel)) rfl rfl ?_
        refine xw_getr (q := 133) (show xlook 145 140 = some (140, .getfield 17, 3, 12, 2, 0, 221) from xlk (by decide +kernel)) (by decide) (xobf xob_12 (by decide) (by decide)) rfl (xPT_get (k := 2) (f := 2) (xPT_arr hG16 (Or.inl (xtg_12_2 _ xob_12.1 xob_12.2).1.2)) xob_12 (by decide)) (by have := (xtg_12_2 _ xob_12.1 xob_12.2).1.1; omega) (n := 143) rfl ?_
        refine xw_iload_n (n := 144) (show xlook 145 143 = some (143, .iload_n 3, 1, 0, 0, 0, 0) from xlk (by decide +kernel)) rfl rfl ?_
        refine xw_iconst (n := 145) (show xlook 145 144 = some (144, .iconst 3, 1, 0, 0, 0, 0) from xlk (by decide +kernel)) rfl ?_
        refine xw_iadd (n := 146) (show xlook 145 145 = some (145, .iadd, 1, 0, 0, 0, 0) from xlk (by decide +kernel)) rfl ?_
        refine xw_aload_n (n := 147) (show xlook 145 146 = some (146, .aload_n 0, 1, 0, 0, 0, 0) from xlk (by decide +kernel)) rfl rfl ?_
        refine xw_bipush (n := 149) (show xlook 145 147 = some (147, .bipush 11, 2, 0, 0, 0, 0) from xlk (by decide +kernel)) rfl (by decide) ?_
        refine xw_iconst (n := 150) (show xlook 145 149 = some (149, .iconst 0, 1, 0, 0, 0, 0) from xlk (by decide +kernel)) rfl ?_
        refine xw_aload_n (n := 151) (show xlook 145 150 = some (150, .aload_n 0, 1, 0, 0, 0, 0) from xlk (by decide +kernel)) rfl rfl ?_
        refine xw_getr (q := 133) (show xlook 145 151 = some (151, .getfield 17, 3, 12, 2, 0, 221) from xlk (by decide +kernel)) (by decide) (xobf xob_12 (by decide) (by decide)) rfl (xPT_get (k := 2) (f := 2) (xPT_arr hG16 (Or.inl (xtg_12_2 _ xob_12.1 xob_12.2).1.2)) xob_12 (by decide)) (by have := (xtg_12_2 _ xob_12.1 xob_12.2).1.1; omega) (n := 154) rfl ?_
        refine xw_iload_n (n := 155) (show xlook 145 154 = some (154, .iload_n 3, 1, 0, 0, 0, 0) from xlk (by decide +kernel)) rfl rfl ?_
        refine xw_iconst (n := 156) (show xlook 145 155 = some (155, .iconst 2, 1, 0, 0, 0, 0) from xlk (by decide +kernel)) rfl ?_
        refine xw_iadd (n := 157) (show xlook 145 156 = some (156, .iadd, 1, 0, 0, 0, 0) from xlk (by decide +kernel)) rfl ?_
        obtain ⟨q1, t⟩ := t
        refine xw_iald2 (u := y16) (show xlook 145 157 = some (157, .iaload, 1, 0, 0, 0, 0) from xlk (by decide +kernel)) (xtg_12_2 _ xob_12.1 xob_12.2).1 (by rw [(xtg_12_2 _ xob_12.1 xob_12.2).2]; exact q1) (xup_s) (n := 158) rfl ?_
        refine xw_iconst (n := 159) (show xlook 145 158 = some (158, .iconst 1, 1, 0, 0, 0, 0) from xlk (by decide +kernel)) rfl ?_
        refine xw_isub (n := 160) (show xlook 145 159 = some (159, .isub, 1, 0, 0, 0, 0) from xlk (by decide +kernel)) rfl ?_
        obtain ⟨j17, hj17, rr17, G17, hm17, hG17, t⟩ := t
        obtain ⟨y17, rfl, t⟩ := t
        refine xw_callv (dk := j17) (o := 131) (as := [vi (11), vi (0), vi ((y16) - (1))]) (show xlook 145 160 = some (160, .invokevirtual 133, 3, 144, 4, 0, 162) from xlk (by decide +kernel)) (by decide) hj17 ⟨Nat.le_of_ble_eq_true rfl, Nat.le_of_ble_eq_true rfl, Nat.le_of_ble_eq_true rfl⟩ ⟨xob_12.1, xob_12.2, by decide⟩ rfl hm17 (n := 163) rfl ?_
        show xW X d 145 163 [.ref (131), vi (x1), vi ((F) (133) 4), vi ((8) + ((7) * ((F) (133) 4))), vi (0), vi (((xup (G14) (133) ((8) + ((7) * ((F) (133) 4))) (y14)) (133) 0) - (y14))] [vi (y17), vi (((8) + ((7) * ((F) (133) 4))) + (3)), .ref (133)] G17 (xqv Q)
        obtain ⟨q1, t⟩ := t
        refine xw_iast (show xlook 145 163 = some (163, .iastore, 1, 0, 0, 0, 0) from xlk (by decide +kernel)) (xtg_12_2 _ xob_12.1 xob_12.2).1 (by rw [(xtg_12_2 _ xob_12.1 xob_12.2).2]; exact q1) (n := 164) rfl ?_
        refine xw_aload_n (n := 165) (show xlook 145 164 = some (164, .aload_n 0, 1, 0, 0, 0, 0) from xlk (by decide +kernel)) rfl rfl ?_
        refine xw_getr (q := 133) (show xlook 145 165 = some (165, .getfield 17, 3, 12, 2, 0, 221) from xlk (by decide +kernel)) (by decide) (xobf xob_12 (by decide) (by decide)) rfl (xPT_get (k := 2) (f := 2) (xPT_arr hG17 (Or.inl (xtg_12_2 _ xob_12.1 xob_12.2).1.2)) xob_12 (by decide)) (by have := (xtg_12_2 _ xob_12.1 xob_12.2).1.1; omega) (n := 168) rfl ?_
        refine xw_iload_n (n := 169) (show xlook 145 168 = some (168, .iload_n 3, 1, 0, 0, 0, 0) from xlk (by decide +kernel)) rfl rfl ?_
        refine xw_iconst (n := 170) (show xlook 145 169 = some (169, .iconst 4, 1, 0, 0, 0, 0) from xlk (by decide +kernel)) rfl ?_
        refine xw_iadd (n := 171) (show xlook 145 170 = some (170, .iadd, 1, 0, 0, 0, 0) from xlk (by decide +kernel)) rfl ?_
        refine xw_aload_n (n := 172) (show xlook 145 171 = some (171, .aload_n 0, 1, 0, 0, 0, 0) from xlk (by decide +kernel)) rfl rfl ?_
        refine xw_bipush (n := 174) (show xlook 145 172 = some (172, .bipush 12, 2, 0, 0, 0, 0) from xlk (by decide +kernel)) rfl (by decide) ?_
        refine xw_aload_n (n := 175) (show xlook 145 174 = some (174, .aload_n 0, 1, 0, 0, 0, 0) from xlk (by decide +kernel)) rfl rfl ?_
        refine xw_getr (q := 133) (show xlook 145 175 = some (175, .getfield 17, 3, 12, 2, 0, 221) from xlk (by decide +kernel)) (by decide) (xobf xob_12 (by decide) (by decide)) rfl (xPT_get (k := 2) (f := 2) (xPT_arr hG17 (Or.inl (xtg_12_2 _ xob_12.1 xob_12.2).1.2)) xob_12 (by decide)) (by have := (xtg_12_2 _ xob_12.1 xob_12.2).1.1; omega) (n := 178) rfl ?_
        refine xw_iload_n (n := 179) (show xlook 145 178 = some (178, .iload_n 3, 1, 0, 0, 0, 0) from xlk (by decide +kernel)) rfl rfl ?_
        refine xw_iconst (n := 180) (show xlook 145 179 = some (179, .iconst 3, 1, 0, 0, 0, 0) from xlk (by decide +kernel)) rfl ?_
        refine xw_iadd (n := 181) (show xlook 145 180 = some (180, .iadd, 1, 0, 0, 0, 0) from xlk (by decide +kernel)) rfl ?_
        obtain ⟨q1, t⟩ := t
        refine xw_iald2 (u := y17) (show xlook 145 181 = some (181, .iaload, 1, 0, 0, 0, 0) from xlk (by decide +kernel)) (xtg_12_2 _ xob_12.1 xob_12.2).1 (by rw [(xtg_12_2 _ xob_12.1 xob_12.2).2]; exact q1) (xup_s) (n := 182) rfl ?_
        refine xw_iconst (n := 183) (show xlook 145 182 = some (182, .iconst 1, 1, 0, 0, 0, 0) from xlk (by decide +kernel)) rfl ?_
        refine xw_iadd (n := 184) (show xlook 145 183 = some (183, .iadd, 1, 0, 0, 0, 0) from xlk (by decide +kernel)) rfl ?_
        refine xw_aload_n (n := 185) (show xlook 145 184 = some (184, .aload_n 0, 1, 0, 0, 0, 0) from xlk (by decide +kernel)) rfl rfl ?_
        refine xw_getr (q := 133) (show xlook 145 185 = some (185, .getfield 17, 3, 12, 2, 0, 221) from xlk (by decide +kernel)) (by decide) (xobf xob_12 (by decide) (by decide)) rfl (xPT_get (k := 2) (f := 2) (xPT_arr hG17 (Or.inl (xtg_12_2 _ xob_12.1 xob_12.2).1.2)) xob_12 (by decide)) (by have := (xtg_12_2 _ xob_12.1 xob_12.2).1.1; omega) (n := 188) rfl ?_
        refine xw_iload_n (n := 189) (show xlook 145 188 = some (188, .iload_n 3, 1, 0, 0, 0, 0) from xlk (by decide +kernel)) rfl rfl ?_
        refine xw_iconst (n := 190) (show xlook 145 189 = some (189, .iconst 2, 1, 0, 0, 0, 0) from xlk (by decide +kernel)) rfl ?_
        refine xw_iadd (n := 191) (show xlook 145 190 = some (190, .iadd, 1, 0, 0, 0, 0) from xlk (by decide +kernel)) rfl ?_
        obtain ⟨q1, t⟩ := t
        refine xw_iald2 (u := (G17) (133) (((8) + ((7) * ((F) (133) 4))) + (2))) (show xlook 145 191 = some (191, .iaload, 1, 0, 0, 0, 0) from xlk (by decide +kernel)) (xtg_12_2 _ xob_12.1 xob_12.2).1 (by rw [(xtg_12_2 _ xob_12.1 xob_12.2).2]; exact q1) (xup_i (by omega)) (n := 192) rfl ?_
        obtain ⟨j18, hj18, rr18, G18, hm18, hG18, t⟩ := t
        obtain ⟨y18, rfl, t⟩ := t
        refine xw_callv (dk := j18) (o := 131) (as := [vi (12), vi ((y17) + (1)), vi ((G17) (133) (((8) + ((7) * ((F) (133) 4))) + (2)))]) (show xlook 145 192 = some (192, .invokevirtual 133, 3, 144, 4, 0, 162) from xlk (by decide +kernel)) (by decide) hj18 ⟨Nat.le_of_ble_eq_true rfl, Nat.le_of_ble_eq_true rfl, Nat.le_of_ble_eq_true rfl⟩ ⟨xob_12.1, xob_12.2, by decide⟩ rfl hm18 (n := 195) rfl ?_
        show xW X d 145 195 [.ref (131), vi (x1), vi ((F) (133) 4), vi ((8) + ((7) * ((F) (133) 4))), vi (0), vi (((xup (G14) (133) ((8) + ((7) * ((F) (133) 4))) (y14)) (133) 0) - (y14))] [vi (y18), vi (((8) + ((7) * ((F) (133) 4))) + (4)), .ref (133)] G18 (xqv Q)
        obtain ⟨q1, t⟩ := t
        refine xw_iast (show xlook 145 195 = some (195, .iastore, 1, 0, 0, 0, 0) from xlk (by decide +kernel)) (xtg_12_2 _ xob_12.1 xob_12.2).1 (by rw [(xtg_12_2 _ xob_12.1 xob_12.2).2]; exact q1) (n := 196) rfl ?_
        refine xw_aload_n (n := 197) (show xlook 145 196 = some (196, .aload_n 0, 1, 0, 0, 0, 0) from xlk (by decide +kernel)) rfl rfl ?_
        refine xw_getr (q := 133) (show xlook 145 197 = some (197, .getfield 17, 3, 12, 2, 0, 221) from xlk (by decide +kernel)) (by decide) (xobf xob_12 (by decide) (by decide)) rfl (xPT_get (k := 2) (f := 2) (xPT_arr hG18 (Or.inl (xtg_12_2 _ xob_12.1 xob_12.2).1.2)) xob_12 (by decide)) (by have := (xtg_12_2 _ xob_12.1 xob_12.2).1.1; omega) (n := 200) rfl ?_
        refine xw_iload_n (n := 201) (show xlook 145 200 = some (200, .iload_n 3, 1, 0, 0, 0, 0) from xlk (by decide +kernel)) rfl rfl ?_
        refine xw_iconst (n := 202) (show xlook 145 201 = some (201, .iconst 5, 1, 0, 0, 0, 0) from xlk (by decide +kernel)) rfl ?_
        refine xw_iadd (n := 203) (show xlook 145 202 = some (202, .iadd, 1, 0, 0, 0, 0) from xlk (by decide +kernel)) rfl ?_
        refine xw_aload_n (n := 204) (show xlook 145 203 = some (203, .aload_n 0, 1, 0, 0, 0, 0) from xlk (by decide +kernel)) rfl rfl ?_
        refine xw_bipush (n := 206) (show xlook 145 204 = some (204, .bipush 13, 2, 0, 0, 0, 0) from xlk (by decide +kernel)) rfl (by decide) ?_
        refine xw_iconst (n := 207) (show xlook 145 206 = some (206, .iconst 0, 1, 0, 0, 0, 0) from xlk (by decide +kernel)) rfl ?_
        refine xw_bipush (n := 209) (show xlook 145 207 = some (207, .bipush 99, 2, 0, 0, 0, 0) from xlk (by decide +kernel)) rfl (by decide) ?_
        obtain ⟨j19, hj19, rr19, G19, hm19, hG19, t⟩ := t
        obtain ⟨y19, rfl, t⟩ := t
        refine xw_callv (dk := j19) (o := 131) (as := [vi (13), vi (0), vi (99)]) (show xlook 145 209 = some (209, .invokevirtual 133, 3, 144, 4, 0, 162) from xlk (by decide +kernel)) (by decide) hj19 ⟨Nat.le_of_ble_eq_true rfl, Nat.le_of_ble_eq_true rfl, Nat.le_of_ble_eq_true rfl⟩ ⟨xob_12.1, xob_12.2, by decide⟩ rfl hm19 (n := 212) rfl ?_
        show xW X d 145 212 [.ref (131), vi (x1), vi ((F) (133) 4), vi ((8) + ((7) * ((F) (133) 4))), vi (0), vi (((xup (G14) (133) ((8) + ((7) * ((F) (133) 4))) (y14)) (133) 0) - (y14))] [vi (y19), vi (((8) + ((7) * ((F) (133) 4))) + (5)), .ref (133)] G19 (xqv Q)
        obtain ⟨q1, t⟩ := t
        refine xw_iast (show xlook 145 212 = some (212, .iastore, 1, 0, 0, 0, 0) from xlk (by decide +kernel)) (xtg_12_2 _ xob_12.1 xob_12.2).1 (by rw [(xtg_12_2 _ xob_12.1 xob_12.2).2]; exact q1) (n := 213) rfl ?_
        refine xw_aload_n (n := 214) (show xlook 145 213 = some (213, .aload_n 0, 1, 0, 0, 0, 0) from xlk (by decide +kernel)) rfl rfl ?_
        refine xw_getr (q := 133) (show xlook 145 214 = some (214, .getfield 17, 3, 12, 2, 0, 221) from xlk (by decide +kernel)) (by decide) (xobf xob_12 (by decide) (by decide)) rfl (xPT_get (k := 2) (f := 2) (xPT_arr hG19 (Or.inl (xtg_12_2 _ xob_12.1 xob_12.2).1.2)) xob_12 (by decide)) (by have := (xtg_12_2 _ xob_12.1 xob_12.2).1.1; omega) (n := 217) rfl ?_
        refine xw_iload_n (n := 218) (show xlook 145 217 = some (217, .iload_n 3, 1, 0, 0, 0, 0) from xlk (by decide +kernel)) rfl rfl ?_
        refine xw_bipush (n := 220) (show xlook 145 218 = some (218, .bipush 6, 2, 0, 0, 0, 0) from xlk (by decide +kernel)) rfl (by decide) ?_
        refine xw_iadd (n := 221) (show xlook 145 220 = some (220, .iadd, 1, 0, 0, 0, 0) from xlk (by decide +kernel)) rfl ?_
        refine xw_aload_n (n := 222) (show xlook 145 221 = some (221, .aload_n 0, 1, 0, 0, 0, 0) from xlk (by decide +kernel)) rfl rfl ?_
        refine xw_bipush (n := 224) (show xlook 145 222 = some (222, .bipush 14, 2, 0, 0, 0, 0) from xlk (by decide +kernel)) rfl (by decide) ?_
        refine xw_iconst (n := 225) (show xlook 145 224 = some (224, .iconst 1, 1, 0, 0, 0, 0) from xlk (by decide +kernel)) rfl ?_
        refine xw_bipush (n := 227) (show xlook 145 225 = some (225, .bipush 20, 2, 0, 0, 0, 0) from xlk (by decide +kernel)) rfl (by decide) ?_
        obtain ⟨j20, hj20, rr20, G20, hm20, hG20, t⟩ := t
        obtain ⟨y20, rfl, t⟩ := t
        refine xw_callv (dk := j20) (o := 131) (as := [vi (14), vi (1), vi (20)]) (show xlook 145 227 = some (227, .invokevirtual 133, 3, 144, 4, 0, 162) from xlk (by decide +kernel)) (by decide) hj20 ⟨Nat.le_of_ble_eq_true rfl, Nat.le_of_ble_eq_true rfl, Nat.le_of_ble_eq_true rfl⟩ ⟨xob_12.1, xob_12.2, by decide⟩ rfl hm20 (n := 230) rfl ?_
        show xW X d 145 230 [.ref (131), vi (x1), vi ((F) (133) 4), vi ((8) + ((7) * ((F) (133) 4))), vi (0), vi (((xup (G14) (133) ((8) + ((7) * ((F) (133) 4))) (y14)) (133) 0) - (y14))] [vi (y20), vi (((8) + ((7) * ((F) (133) 4))) + (6)), .ref (133)] G20 (xqv Q)
        obtain ⟨q1, t⟩ := t
        refine xw_iast (show xlook 145 230 = some (230, .iastore, 1, 0, 0, 0, 0) from xlk (by decide +kernel)) (xtg_12_2 _ xob_12.1 xob_12.2).1 (by rw [(xtg_12_2 _ xob_12.1 xob_12.2).2]; exact q1) (n := 231) rfl ?_
        refine xw_aload_n (n := 232) (show xlook 145 231 = some (231, .aload_n 0, 1, 0, 0, 0, 0) from xlk (by decide +kernel)) rfl rfl ?_
        refine xw_getr (q := 133) (show xlook 145 232 = some (232, .getfield 17, 3, 12, 2, 0, 221) from xlk (by decide +kernel)) (by decide) (xobf xob_12 (by decide) (by decide)) rfl (xPT_get (k := 2) (f := 2) (xPT_arr hG20 (Or.inl (xtg_12_2 _ xob_12.1 xob_12.2).1.2)) xob_12 (by decide)) (by have := (xtg_12_2 _ xob_12.1 xob_12.2).1.1; omega) (n := 235) rfl ?_
        refine xw_iconst (n := 236) (show xlook 145 235 = some (235, .iconst 4, 1, 0, 0, 0, 0) from xlk (by decide +kernel)) rfl ?_
        refine xw_dup2 (n := 237) (show xlook 145 236 = some (236, .dup2, 1, 0, 0, 0, 0) from xlk (by decide +kernel)) rfl ?_
        refine xw_iald (show xlook 145 237 = some (237, .iaload, 1, 0, 0, 0, 0) from xlk (by decide +kernel)) (xtg_12_2 _ xob_12.1 xob_12.2).1 (by rw [(xtg_12_2 _ xob_12.1 xob_12.2).2]; decide) (n := 238) rfl ?_
        refine xw_iconst (n := 239) (show xlook 145 238 = some (238, .iconst 1, 1, 0, 0, 0, 0) from xlk (by decide +kernel)) rfl ?_
        refine xw_iadd (n := 240) (show xlook 145 239 = some (239, .iadd, 1, 0, 0, 0, 0) from xlk (by decide +kernel)) rfl ?_
        refine xw_iast (show xlook 145 240 = some (240, .iastore, 1, 0, 0, 0, 0) from xlk (by decide +kernel)) (xtg_12_2 _ xob_12.1 xob_12.2).1 (by rw [(xtg_12_2 _ xob_12.1 xob_12.2).2]; decide) (n := 241) rfl ?_
        exact xw_return (xPT_arr (xPT_arr hG20 (Or.inl (xtg_12_2 _ xob_12.1 xob_12.2).1.2)) (Or.inl (xtg_12_2 _ xob_12.1 xob_12.2).1.2)) (show xlook 145 241 = some (241, .return_, 1, 0, 0, 0, 0) from xlk (by decide +kernel)) rfl (t (xPT_arr (xPT_arr hG20 (Or.inl (xtg_12_2 _ xob_12.1 xob_12.2).1.2)) (Or.inl (xtg_12_2 _ xob_12.1 xob_12.2).1.2)))
      · replace t := t.2 c
        refine xw_iload (n := 112) (show xlook 145 110 = some (110, .iload 5, 2, 0, 0, 0, 0) from xlk (by decide +kernel)) rfl rfl ?_
        refine xw_goto (m := 117) (show xlook 145 112 = some (112, .goto 5, 3, 117, 0, 0, 0) from xlk (by decide +kernel)) rfl ?_
        obtain ⟨j21, hj21, rr21, G21, hm21, hG21, t⟩ := t
        obtain ⟨y21, rfl, t⟩ := t
        refine xw_callv (dk := j21) (o := 131) (as := [vi (9), vi (1), vi (((xup (G14) (133) ((8) + ((7) * ((F) (133) 4))) (y14)) (133) 0) - (y14))]) (show xlook 145 117 = some (117, .invokevirtual 133, 3, 144, 4, 0, 162) from xlk (by decide +kernel)) (by decide) hj21 ⟨Nat.le_of_ble_eq_true rfl, Nat.le_of_ble_eq_true rfl, Nat.le_of_ble_eq_true rfl⟩ ⟨xob_12.1, xob_12.2, by decide⟩ rfl hm21 (n := 120) rfl ?_
        show xW X d 145 120 [.ref (131), vi (x1), vi ((F) (133) 4), vi ((8) + ((7) * ((F) (133) 4))), vi (0), vi (((xup (G14) (133) ((8) + ((7) * ((F) (133) 4))) (y14)) (133) 0) - (y14))] [vi (y21), vi (((8) + ((7) * ((F) (133) 4))) + (1)), .ref (133)] G21 (xqv Q)
        obtain ⟨q1, t⟩ := t
        refine xw_iast (show xlook 145 120 = some (120, .iastore, 1, 0, 0, 0, 0) from xlk (by decide +kernel)) (xtg_12_2 _ xob_12.1 xob_12.2).1 (by rw [(xtg_12_2 _ xob_12.1 xob_12.2).2]; exact q1) (n := 121) rfl ?_
        refine xw_aload_n (n := 122) (show xlook 145 121 = some (121, .aload_n 0, 1, 0, 0, 0, 0) from xlk (by decide +kernel)) rfl rfl ?_
        refine xw_getr (q := 133) (show xlook 145 122 = some (122, .getfield 17, 3, 12, 2, 0, 221) from xlk (by decide +kernel)) (by decide) (xobf xob_12 (by decide) (by decide)) rfl (xPT_get (k := 2) (f := 2) (xPT_arr hG21 (Or.inl (xtg_12_2 _ xob_12.1 xob_12.2).1.2)) xob_12 (by decide)) (by have := (xtg_12_2 _ xob_12.1 xob_12.2).1.1; omega) (n := 125) rfl ?_
        refine xw_iload_n (n := 126) (show xlook 145 125 = some (125, .iload_n 3, 1, 0, 0, 0, 0) from xlk (by decide +kernel)) rfl rfl ?_
        refine xw_iconst (n := 127) (show xlook 145 126 = some (126, .iconst 2, 1, 0, 0, 0, 0) from xlk (by decide +kernel)) rfl ?_
        refine xw_iadd (n := 128) (show xlook 145 127 = some (127, .iadd, 1, 0, 0, 0, 0) from xlk (by decide +kernel)) rfl ?_
        refine xw_aload_n (n := 129) (show xlook 145 128 = some (128, .aload_n 0, 1, 0, 0, 0, 0) from xlk (by decide +kernel)) rfl rfl ?_
        refine xw_bipush (n := 131) (show xlook 145 129 = some (129, .bipush 10, 2, 0, 0, 0, 0) from xlk (by decide +kernel)) rfl (by decide) ?_
        refine xw_iconst (n := 132) (show xlook 145 131 = some (131, .iconst 1, 1, 0, 0, 0, 0) from xlk (by decide +kernel)) rfl ?_
        refine xw_sipush (n := 135) (show xlook 145 132 = some (132, .sipush 200, 3, 0, 0, 0, 0) from xlk (by decide +kernel)) rfl (by decide) ?_
        obtain ⟨j22, hj22, rr22, G22, hm22, hG22, t⟩ := t
        obtain ⟨y22, rfl, t⟩ := t
        refine xw_callv (dk := j22) (o := 131) (as := [vi (10), vi (1), vi (200)]) (show xlook 145 135 = some (135, .invokevirtual 133, 3, 144, 4, 0, 162) from xlk (by decide +kernel)) (by decide) hj22 ⟨Nat.le_of_ble_eq_true rfl, Nat.le_of_ble_eq_true rfl, Nat.le_of_ble_eq_true rfl⟩ ⟨xob_12.1, xob_12.2, by decide⟩ rfl hm22 (n := 138) rfl ?_
        show xW X d 145 138 [.ref (131), vi (x1), vi ((F) (133) 4), vi ((8) + ((7) * ((F) (133) 4))), vi (0), vi (((xup (G14) (133) ((8) + ((7) * ((F) (133) 4))) (y14)) (133) 0) - (y14))] [vi (y22), vi (((8) + ((7) * ((F) (133) 4))) + (2)), .ref (133)] G22 (xqv Q)
        obtain ⟨q1, t⟩ := t
        refine xw_iast (show xlook 145 138 = some (138, .iastore, 1, 0, 0, 0, 0) from xlk (by decide +kernel)) (xtg_12_2 _ xob_12.1 xob_12.2).1 (by rw [(xtg_12_2 _ xob_12.1 xob_12.2).2]; exact q1) (n := 139) rfl ?_
        refine xw_aload_n (n := 140) (show xlook 145 139 = some (139, .aload_n 0, 1, 0, 0, 0, 0) from xlk (by decide +kernel)) rfl rfl ?_
        refine xw_getr (q := 133) (show xlook 145 140 = some (140, .getfield 17, 3, 12, 2, 0, 221) from xlk (by decide +kernel)) (by decide) (xobf xob_12 (by decide) (by decide)) rfl (xPT_get (k := 2) (f := 2) (xPT_arr hG22 (Or.inl (xtg_12_2 _ xob_12.1 xob_12.2).1.2)) xob_12 (by decide)) (by have := (xtg_12_2 _ xob_12.1 xob_12.2).1.1; omega) (n := 143) rfl ?_
        refine xw_iload_n (n := 144) (show xlook 145 143 = some (143, .iload_n 3, 1, 0, 0, 0, 0) from xlk (by decide +kernel)) rfl rfl ?_
        refine xw_iconst (n := 145) (show xlook 145 144 = some (144, .iconst 3, 1, 0, 0, 0, 0) from xlk (by decide +kernel)) rfl ?_
        refine xw_iadd (n := 146) (show xlook 145 145 = some (145, .iadd, 1, 0, 0, 0, 0) from xlk (by decide +kernel)) rfl ?_
        refine xw_aload_n (n := 147) (show xlook 145 146 = some (146, .aload_n 0, 1, 0, 0, 0, 0) from xlk (by decide +kernel)) rfl rfl ?_
        refine xw_bipush (n := 149) (show xlook 145 147 = some (147, .bipush 11, 2, 0, 0, 0, 0) from xlk (by decide +kernel)) rfl (by decide) ?_
        refine xw_iconst (n := 150) (show xlook 145 149 = some (149, .iconst 0, 1, 0, 0, 0, 0) from xlk (by decide +kernel)) rfl ?_
        refine xw_aload_n (n := 151) (show xlook 145 150 = some (150, .aload_n 0, 1, 0, 0, 0, 0) from xlk (by decide +kernel)) rfl rfl ?_
        refine xw_getr (q := 133) (show xlook 145 151 = some (151, .getfield 17, 3, 12, 2, 0, 221) from xlk (by decide +kernel)) (by decide) (xobf xob_12 (by decide) (by decide)) rfl (xPT_get (k := 2) (f := 2) (xPT_arr hG22 (Or.inl (xtg_12_2 _ xob_12.1 xob_12.2).1.2)) xob_12 (by decide)) (by have := (xtg_12_2 _ xob_12.1 xob_12.2).1.1; omega) (n := 154) rfl ?_
        refine xw_iload_n (n := 155) (show xlook 145 154 = some (154, .iload_n 3, 1, 0, 0, 0, 0) from xlk (by decide +kernel)) rfl rfl ?_
        refine xw_iconst (n := 156) (show xlook 145 155 = some (155, .iconst 2, 1, 0, 0, 0, 0) from xlk (by decide +kernel)) rfl ?_
        refine xw_iadd (n := 157) (show xlook 145 156 = some (156, .iadd, 1, 0, 0, 0, 0) from xlk (by decide +kernel)) rfl ?_
        obtain ⟨q1, t⟩ := t
        refine xw_iald2 (u := y22) (show xlook 145 157 = some (157, .iaload, 1, 0, 0, 0, 0) from xlk (by decide +kernel)) (xtg_12_2 _ xob_12.1 xob_12.2).1 (by rw [(xtg_12_2 _ xob_12.1 xob_12.2).2]; exact q1) (xup_s) (n := 158) rfl ?_
        refine xw_iconst (n := 159) (show xlook 145 158 = some (158, .iconst 1, 1, 0, 0, 0, 0) from xlk (by decide +kernel)) rfl ?_
        refine xw_isub (n := 160) (show xlook 145 159 = some (159, .isub, 1, 0, 0, 0, 0) from xlk (by decide +kernel)) rfl ?_
        obtain ⟨j23, hj23, rr23, G23, hm23, hG23, t⟩ := t
        obtain ⟨y23, rfl, t⟩ := t
        refine xw_callv (dk := j23) (o := 131) (as := [vi (11), vi (0), vi ((y22) - (1))]) (show xlook 145 160 = some (160, .invokevirtual 133, 3, 144, 4, 0, 162) from xlk (by decide +kernel)) (by decide) hj23 ⟨Nat.le_of_ble_eq_true rfl, Nat.le_of_ble_eq_true rfl, Nat.le_of_ble_eq_true rfl⟩ ⟨xob_12.1, xob_12.2, by decide⟩ rfl hm23 (n := 163) rfl ?_
        show xW X d 145 163 [.ref (131), vi (x1), vi ((F) (133) 4), vi ((8) + ((7) * ((F) (133) 4))), vi (0), vi (((xup (G14) (133) ((8) + ((7) * ((F) (133) 4))) (y14)) (133) 0) - (y14))] [vi (y23), vi (((8) + ((7) * ((F) (133) 4))) + (3)), .ref (133)] G23 (xqv Q)
        obtain ⟨q1, t⟩ := t
        refine xw_iast (show xlook 145 163 = some (163, .iastore, 1, 0, 0, 0, 0) from xlk (by decide +kernel)) (xtg_12_2 _ xob_12.1 xob_12.2).1 (by rw [(xtg_12_2 _ xob_12.1 xob_12.2).2]; exact q1) (n := 164) rfl ?_
        refine xw_aload_n (n := 165) (show xlook 145 164 = some (164, .aload_n 0, 1, 0, 0, 0, 0) from xlk (by decide +kernel)) rfl rfl ?_
        refine xw_getr (q := 133) (show xlook 145 165 = some (165, .getfield 17, 3, 12, 2, 0, 221) from xlk (by decide +kernel)) (by decide) (xobf xob_12 (by decide) (by decide)) rfl (xPT_get (k := 2) (f := 2) (xPT_arr hG23 (Or.inl (xtg_12_2 _ xob_12.1 xob_12.2).1.2)) xob_12 (by decide)) (by have := (xtg_12_2 _ xob_12.1 xob_12.2).1.1; omega) (n := 168) rfl ?_
        refine xw_iload_n (n := 169) (show xlook 145 168 = some (168, .iload_n 3, 1, 0, 0, 0, 0) from xlk (by decide +kernel)) rfl rfl ?_
        refine xw_iconst (n := 170) (show xlook 145 169 = some (169, .iconst 4, 1, 0, 0, 0, 0) from xlk (by decide +kernel)) rfl ?_
        refine xw_iadd (n := 171) (show xlook 145 170 = some (170, .iadd, 1, 0, 0, 0, 0) from xlk (by decide +kernel)) rfl ?_
        refine xw_aload_n (n := 172) (show xlook 145 171 = some (171, .aload_n 0, 1, 0, 0, 0, 0) from xlk (by decide +kernel)) rfl rfl ?_
        refine xw_bipush (n := 174) (show xlook 145 172 = some (172, .bipush 12, 2, 0, 0, 0, 0) from xlk (by decide +kernel)) rfl (by decide) ?_
        refine xw_aload_n (n := 175) (show xlook 145 174 = some (174, .aload_n 0, 1, 0, 0, 0, 0) from xlk (by decide +kernel)) rfl rfl ?_
        refine xw_getr (q := 133) (show xlook 145 175 = some (175, .getfield 17, 3, 12, 2, 0, 221) from xlk (by decide +kernel)) (by decide) (xobf xob_12 (by decide) (by decide)) rfl (xPT_get (k := 2) (f := 2) (xPT_arr hG23 (Or.inl (xtg_12_2 _ xob_12.1 xob_12.2).1.2)) xob_12 (by decide)) (by have := (xtg_12_2 _ xob_12.1 xob_12.2).1.1; omega) (n := 178) rfl ?_
        refine xw_iload_n (n := 179) (show xlook 145 178 = some (178, .iload_n 3, 1, 0, 0, 0, 0) from xlk (by decide +kernel)) rfl rfl ?_
        refine xw_iconst (n := 180) (show xlook 145 179 = some (179, .iconst 3, 1, 0, 0, 0, 0) from xlk (by decide +kernel)) rfl ?_
        refine xw_iadd (n := 181) (show xlook 145 180 = some (180, .iadd, 1, 0, 0, 0, 0) from xlk (by decide +kernel)) rfl ?_
        obtain ⟨q1, t⟩ := t
        refine xw_iald2 (u := y23) (show xlook 145 181 = some (181, .iaload, 1, 0, 0, 0, 0) from xlk (by decide +kernel)) (xtg_12_2 _ xob_12.1 xob_12.2).1 (by rw [(xtg_12_2 _ xob_12.1 xob_12.2).2]; exact q1) (xup_s) (n := 182) rfl ?_
        refine xw_iconst (n := 183) (show xlook 145 182 = some (182, .iconst 1, 1, 0, 0, 0, 0) from xlk (by decide +kernel)) rfl ?_
        refine xw_iadd (n := 184) (show xlook 145 183 = some (183, .iadd, 1, 0, 0, 0, 0) from xlk (by decide +kernel)) rfl ?_
        refine xw_aload_n (n := 185) (show xlook 145 184 = some (184, .aload_n 0, 1, 0, 0, 0, 0) from xlk (by decide +kernel)) rfl rfl ?_
        refine xw_getr (q := 133) (show xlook 145 185 = some (185, .getfield 17, 3, 12, 2, 0, 221) from xlk (by decide +kernel)) (by decide) (xobf xob_12 (by decide) (by decide)) rfl (xPT_get (k := 2) (f := 2) (xPT_arr hG23 (Or.inl (xtg_12_2 _ xob_12.1 xob_12.2).1.2)) xob_12 (by decide)) (by have := (xtg_12_2 _ xob_12.1 xob_12.2).1.1; omega) (n := 188) rfl ?_
        refine xw_iload_n (n := 189) (show xlook 145 188 = some (188, .iload_n 3, 1, 0, 0, 0, 0) from xlk (by decide +kernel)) rfl rfl ?_
        refine xw_iconst (n := 190) (show xlook 145 189 = some (189, .iconst 2, 1, 0, 0, 0, 0) from xlk (by decide +kernel)) rfl ?_
        refine xw_iadd (n := 191) (show xlook 145 190 = some (190, .iadd, 1, 0, 0, 0, 0) from xlk (by decide +kernel)) rfl ?_
        obtain ⟨q1, t⟩ := t
        refine xw_iald2 (u := (G23) (133) (((8) + ((7) * ((F) (133) 4))) + (2))) (show xlook 145 191 = some (191, .iaload, 1, 0, 0, 0, 0) from xlk (by decide +kernel)) (xtg_12_2 _ xob_12.1 xob_12.2).1 (by rw [(xtg_12_2 _ xob_12.1 xob_12.2).2]; exact q1) (xup_i (by omega)) (n := 192) rfl ?_
        obtain ⟨j24, hj24, rr24, G24, hm24, hG24, t⟩ := t
        obtain ⟨y24, rfl, t⟩ := t
        refine xw_callv (dk := j24) (o := 131) (as := [vi (12), vi ((y23) + (1)), vi ((G23) (133) (((8) + ((7) * ((F) (133) 4))) + (2)))]) (show xlook 145 192 = some (192, .invokevirtual 133, 3, 144, 4, 0, 162) from xlk (by decide +kernel)) (by decide) hj24 ⟨Nat.le_of_ble_eq_true rfl, Nat.le_of_ble_eq_true rfl, Nat.le_of_ble_eq_true rfl⟩ ⟨xob_12.1, xob_12.2, by decide⟩ rfl hm24 (n := 195) rfl ?_
        show xW X d 145 195 [.ref (131), vi (x1), vi ((F) (133) 4), vi ((8) + ((7) * ((F) (133) 4))), vi (0), vi (((xup (G14) (133) ((8) + ((7) * ((F) (133) 4))) (y14)) (133) 0) - (y14))] [vi (y24), vi (((8) + ((7) * ((F) (133) 4))) + (4)), .ref (133)] G24 (xqv Q)
        obtain ⟨q1, t⟩ := t
        refine xw_iast (show xlook 145 195 = some (195, .iastore, 1, 0, 0, 0, 0) from xlk (by decide +kernel)) (xtg_12_2 _ xob_12.1 xob_12.2).1 (by rw [(xtg_12_2 _ xob_12.1 xob_12.2).2]; exact q1) (n := 196) rfl ?_
        refine xw_aload_n (n := 197) (show xlook 145 196 = some (196, .aload_n 0, 1, 0, 0, 0, 0) from xlk (by decide +kernel)) rfl rfl ?_
        refine xw_getr (q := 133) (show xlook 145 197 = some (197, .getfield 17, 3, 12, 2, 0, 221) from xlk (by decide +kernel)) (by decide) (xobf xob_12 (by decide) (by decide)) rfl (xPT_get (k := 2) (f := 2) (xPT_arr hG24 (Or.inl (xtg_12_2 _ xob_12.1 xob_12.2).1.2)) xob_12 (by decide)) (by have := (xtg_12_2 _ xob_12.1 xob_12.2).1.1; omega) (n := 200) rfl ?_
        refine xw_iload_n (n := 201) (show xlook 145 200 = some (200, .iload_n 3, 1, 0, 0, 0, 0) from xlk (by decide +kernel)) rfl rfl ?_
        refine xw_iconst (n := 202) (show xlook 145 201 = some (201, .iconst 5, 1, 0, 0, 0, 0) from xlk (by decide +kernel)) rfl ?_
        refine xw_iadd (n := 203) (show xlook 145 202 = some (202, .iadd, 1, 0, 0, 0, 0) from xlk (by decide +kernel)) rfl ?_
        refine xw_aload_n (n := 204) (show xlook 145 203 = some (203, .aload_n 0, 1, 0, 0, 0, 0) from xlk (by decide +kernel)) rfl rfl ?_
        refine xw_bipush (n := 206) (show xlook 145 204 = some (204, .bipush 13, 2, 0, 0, 0, 0) from xlk (by decide +kernel)) rfl (by decide) ?_
        refine xw_iconst (n := 207) (show xlook 145 206 = some (206, .iconst 0, 1, 0, 0, 0, 0) from xlk (by decide +kernel)) rfl ?_
        refine xw_bipush (n := 209) (show xlook 145 207 = some (207, .bipush 99, 2, 0, 0, 0, 0) from xlk (by decide +kernel)) rfl (by decide) ?_
        obtain ⟨j25, hj25, rr25, G25, hm25, hG25, t⟩ := t
        obtain ⟨y25, rfl, t⟩ := t
        refine xw_callv (dk := j25) (o := 131) (as := [vi (13), vi (0), vi (99)]) (show xlook 145 209 = some (209, .invokevirtual 133, 3, 144, 4, 0, 162) from xlk (by decide +kernel)) (by decide) hj25 ⟨Nat.le_of_ble_eq_true rfl, Nat.le_of_ble_eq_true rfl, Nat.le_of_ble_eq_true rfl⟩ ⟨xob_12.1, xob_12.2, by decide⟩ rfl hm25 (n := 212) rfl ?_
        show xW X d 145 212 [.ref (131), vi (x1), vi ((F) (133) 4), vi ((8) + ((7) * ((F) (133) 4))), vi (0), vi (((xup (G14) (133) ((8) + ((7) * ((F) (133) 4))) (y14)) (133) 0) - (y14))] [vi (y25), vi (((8) + ((7) * ((F) (133) 4))) + (5)), .ref (133)] G25 (xqv Q)
        obtain ⟨q1, t⟩ := t
        refine xw_iast (show xlook 145 212 = some (212, .iastore, 1, 0, 0, 0, 0) from xlk (by decide +kernel)) (xtg_12_2 _ xob_12.1 xob_12.2).1 (by rw [(xtg_12_2 _ xob_12.1 xob_12.2).2]; exact q1) (n := 213) rfl ?_
        refine xw_aload_n (n := 214) (show xlook 145 213 = some (213, .aload_n 0, 1, 0, 0, 0, 0) from xlk (by decide +kernel)) rfl rfl ?_
        refine xw_getr (q := 133) (show xlook 145 214 = some (214, .getfield 17, 3, 12, 2, 0, 221) from xlk (by decide +kernel)) (by decide) (xobf xob_12 (by decide) (by decide)) rfl (xPT_get (k := 2) (f := 2) (xPT_arr hG25 (Or.inl (xtg_12_2 _ xob_12.1 xob_12.2).1.2)) xob_12 (by decide)) (by have := (xtg_12_2 _ xob_12.1 xob_12.2).1.1; omega) (n := 217) rfl ?_
        refine xw_iload_n (n := 218) (show xlook 145 217 = some (217, .iload_n 3, 1, 0, 0, 0, 0) from xlk (by decide +kernel)) rfl rfl ?_
        refine xw_bipush (n := 220) (show xlook 145 218 = some (218, .bipush 6, 2, 0, 0, 0, 0) from xlk (by decide +kernel)) rfl (by decide) ?_
        refine xw_iadd (n := 221) (show xlook 145 220 = some (220, .iadd, 1, 0, 0, 0, 0) from xlk (by decide +kernel)) rfl ?_
        refine xw_aload_n (n := 222) (show xlook 145 221 = some (221, .aload_n 0, 1, 0, 0, 0, 0) from xlk (by decide +kernel)) rfl rfl ?_
        refine xw_bipush (n := 224) (show xlook 145 222 = some (222, .bipush 14, 2, 0, 0, 0, 0) from xlk (by decide +kernel)) rfl (by decide) ?_
        refine xw_iconst (n := 225) (show xlook 145 224 = some (224, .iconst 1, 1, 0, 0, 0, 0) from xlk (by decide +kernel)) rfl ?_
        refine xw_bipush (n := 227) (show xlook 145 225 = some (225, .bipush 20, 2, 0, 0, 0, 0) from xlk (by decide +kernel)) rfl (by decide) ?_
        obtain ⟨j26, hj26, rr26, G26, hm26, hG26, t⟩ := t
        obtain ⟨y26, rfl, t⟩ := t
        refine xw_callv (dk := j26) (o := 131) (as := [vi (14), vi (1), vi (20)]) (show xlook 145 227 = some (227, .invokevirtual 133, 3, 144, 4, 0, 162) from xlk (by decide +kernel)) (by decide) hj26 ⟨Nat.le_of_ble_eq_true rfl, Nat.le_of_ble_eq_true rfl, Nat.le_of_ble_eq_true rfl⟩ ⟨xob_12.1, xob_12.2, by decide⟩ rfl hm26 (n := 230) rfl ?_
        show xW X d 145 230 [.ref (131), vi (x1), vi ((F) (133) 4), vi ((8) + ((7) * ((F) (133) 4))), vi (0), vi (((xup (G14) (133) ((8) + ((7) * ((F) (133) 4))) (y14)) (133) 0) - (y14))] [vi (y26), vi (((8) + ((7) * ((F) (133) 4))) + (6)), .ref (133)] G26 (xqv Q)
        obtain ⟨q1, t⟩ := t
        refine xw_iast (show xlook 145 230 = some (230, .iastore, 1, 0, 0, 0, 0) from xlk (by decide +kernel)) (xtg_12_2 _ xob_12.1 xob_12.2).1 (by rw [(xtg_12_2 _ xob_12.1 xob_12.2).2]; exact q1) (n := 231) rfl ?_
        refine xw_aload_n (n := 232) (show xlook 145 231 = some (231, .aload_n 0, 1, 0, 0, 0, 0) from xlk (by decide +kernel)) rfl rfl ?_
        refine xw_getr (q := 133) (show xlook 145 232 = some (232, .getfield 17, 3, 12, 2, 0, 221) from xlk (by decide +kernel)) (by decide) (xobf xob_12 (by decide) (by decide)) rfl (xPT_get (k := 2) (f := 2) (xPT_arr hG26 (Or.inl (xtg_12_2 _ xob_12.1 xob_12.2).1.2)) xob_12 (by decide)) (by have := (xtg_12_2 _ xob_12.1 xob_12.2).1.1; omega) (n := 235) rfl ?_
        refine xw_iconst (n := 236) (show xlook 145 235 = some (235, .iconst 4, 1, 0, 0, 0, 0) from xlk (by decide +kernel)) rfl ?_
        refine xw_dup2 (n := 237) (show xlook 145 236 = some (236, .dup2, 1, 0, 0, 0, 0) from xlk (by decide +kernel)) rfl ?_
        refine xw_iald (show xlook 145 237 = some (237, .iaload, 1, 0, 0, 0, 0) from xlk (by decide +kernel)) (xtg_12_2 _ xob_12.1 xob_12.2).1 (by rw [(xtg_12_2 _ xob_12.1 xob_12.2).2]; decide) (n := 238) rfl ?_
        refine xw_iconst (n := 239) (show xlook 145 238 = some (238, .iconst 1, 1, 0, 0, 0, 0) from xlk (by decide +kernel)) rfl ?_
        refine xw_iadd (n := 240) (show xlook 145 239 = some (239, .iadd, 1, 0, 0, 0, 0) from xlk (by decide +kernel)) rfl ?_
        refine xw_iast (show xlook 145 240 = some (240, .iastore, 1, 0, 0, 0, 0) from xlk (by decide +kernel)) (xtg_12_2 _ xob_12.1 xob_12.2).1 (by rw [(xtg_12_2 _ xob_12.1 xob_12.2).2]; decide) (n := 241) rfl ?_
        exact xw_return (xPT_arr (xPT_arr hG26 (Or.inl (xtg_12_2 _ xob_12.1 xob_12.2).1.2)) (Or.inl (xtg_12_2 _ xob_12.1 xob_12.2).1.2)) (show xlook 145 241 = some (241, .return_, 1, 0, 0, 0, 0) from xlk (by decide +kernel)) rfl (t (xPT_arr (xPT_arr hG26 (Or.inl (xtg_12_2 _ xob_12.1 xob_12.2).1.2)) (Or.inl (xtg_12_2 _ xob_12.1 xob_12.2).1.2)))
  · replace t := t.2 c
    refine xw_aload_n (n := 14) (show xlook 145 13 = some (13, .aload_n 0, 1, 0, 0, 0, 0) from xlk (by decide +kernel)) rfl rfl ?_
    refine xw_iconst (n := 15) (show xlook 145 14 = some (14, .iconst 3, 1, 0, 0, 0, 0) from xlk (by decide +kernel)) rfl ?_
    refine xw_iload_n (n := 16) (show xlook 145 15 = some (15, .iload_n 1, 1, 0, 0, 0, 0) from xlk (by decide +kernel)) rfl rfl ?_
    obtain ⟨j27, hj27, rr27, G27, hm27, hG27, t⟩ := t
    obtain ⟨rfl, t⟩ := t
    refine xw_callv (dk := j27) (o := 131) (as := [vi (3), vi (x1)]) (show xlook 145 16 = some (16, .invokevirtual 116, 3, 137, 3, 0, 158) from xlk (by decide +kernel)) (by decide) hj27 ⟨Nat.le_of_ble_eq_true rfl, Nat.le_of_ble_eq_true rfl, Nat.le_of_ble_eq_true rfl⟩ ⟨xob_12.1, xob_12.2, by decide⟩ rfl hm27 (n := 19) rfl ?_
    show xW X d 145 19 [.ref (131), vi (x1), vi ((F) (133) 4), w3, w4, w5] [] G27 (xqv Q)
    exact xw_return hG27 (show xlook 145 19 = some (19, .return_, 1, 0, 0, 0, 0) from xlk (by decide +kernel)) rfl (t hG27)
theorem m145 {X : List Int32} {d : Nat} {F : XF} {Q : XF → Prop} {x1 : Int} (hPT : xPT F)  (t : inR ((F) (133) 4) ∧ (((¬ ((F) (133) 4) = (10)) → (inR ((F) (133) 4) ∧ (((¬ ((F) (133) 4) = (0)) → ((0 ≤ (((8) + ((7) * ((F) (133) 4))) - (7)) ∧ (((8) + ((7) * ((F) (133) 4))) - (7)) < 163) ∧ ((0 ≤ (((8) + ((7) * ((F) (133) 4))) - (6)) ∧ (((8) + ((7) * ((F) (133) 4))) - (6)) < 163) ∧ (∃ (j1 : Nat), j1 < d ∧ xMI X j1 143 [.ref (131), vi (((F) (133) (((8) + ((7) * ((F) (133) 4))) - (7))) + ((F) (133) (((8) + ((7) * ((F) (133) 4))) - (6)))), vi (((F) (133) 0) - (1))] (F) (fun (y1 : Int) (G1 : XF) => ((0 ≤ ((8) + ((7) * ((F) (133) 4))) ∧ ((8) + ((7) * ((F) (133) 4))) < 163) ∧ ((0 ≤ ((8) + ((7) * ((F) (133) 4))) ∧ ((8) + ((7) * ((F) (133) 4))) < 163) ∧ (inR (((xup (G1) (133) ((8) + ((7) * ((F) (133) 4))) (y1)) (133) 0) - (y1)) ∧ ((((50) ≤ (((xup (G1) (133) ((8) + ((7) * ((F) (133) 4))) (y1)) (133) 0) - (y1))) → (∃ (j2 : Nat), j2 < d ∧ xMI X j2 144 [.ref (131), vi (9), vi (1), vi (50)] (xup (G1) (133) ((8) + ((7) * ((F) (133) 4))) (y1)) (fun (y2 : Int) (G2 : XF) => ((0 ≤ (((8) + ((7) * ((F) (133) 4))) + (1)) ∧ (((8) + ((7) * ((F) (133) 4))) + (1)) < 163) ∧ (∃ (j3 : Nat), j3 < d ∧ xMI X j3 144 [.ref (131), vi (10), vi (1), vi (200)] (xup (G2) (133) (((8) + ((7) * ((F) (133) 4))) + (1)) (y2)) (fun (y3 : Int) (G3 : XF) => ((0 ≤ (((8) + ((7) * ((F) (133) 4))) + (2)) ∧ (((8) + ((7) * ((F) (133) 4))) + (2)) < 163) ∧ ((0 ≤ (((8) + ((7) * ((F) (133) 4))) + (2)) ∧ (((8) + ((7) * ((F) (133) 4))) + (2)) < 163) ∧ (∃ (j4 : Nat), j4 < d ∧ xMI X j4 144 [.ref (131), vi (11), vi (0), vi ((y3) - (1))] (xup (G3) (133) (((8) + ((7) * ((F) (133) 4))) + (2)) (y3)) (fun (y4 : Int) (G4 : XF) => ((0 ≤ (((8) + ((7) * ((F) (133) 4))) + (3)) ∧ (((8) + ((7) * ((F) (133) 4))) + (3)) < 163) ∧ ((0 ≤ (((8) + ((7) * ((F) (133) 4))) + (3)) ∧ (((8) + ((7) * ((F) (133) 4))) + (3)) < 163) ∧ ((0 ≤ (((8) + ((7) * ((F) (133) 4))) + (2)) ∧ (((8) + ((7) * ((F) (133) 4))) + (2)) < 163) ∧ (∃ (j5 : Nat), j5 < d ∧ xMI X j5 144 [.ref (131), vi (12), vi ((y4) + (1)), vi ((G4) (133) (((8) + ((7) * ((F) (133) 4))) + (2)))] (xup (G4) (133) (((8) + ((7) * ((F) (133) 4))) + (3)) (y4)) (fun (y5 : Int) (G5 : XF) => ((0 ≤ (((8) + ((7) * ((F) (133) 4))) + (4)) ∧ (((8) + ((7) * ((F) (133) 4))) + (4)) < 163) ∧ (∃ (j6 : Nat), j6 < d ∧ xMI X j6 144 [.ref (131), vi (13), vi (0), vi (99)] (xup (G5) (133) (((8) + ((7) * ((F) (133) 4))) + (4)) (y5)) (fun (y6 : Int) (G6 : XF) => ((0 ≤ (((8) + ((7) * ((F) (133) 4))) + (5)) ∧ (((8) + ((7) * ((F) (133) 4))) + (5)) < 163) ∧ (∃ (j7 : Nat), j7 < d ∧ xMI X j7 144 [.ref (131), vi (14), vi (1), vi (20)] (xup (G6) (133) (((8) + ((7) * ((F) (133) 4))) + (5)) (y6)) (fun (y7 : Int) (G7 : XF) => ((0 ≤ (((8) + ((7) * ((F) (133) 4))) + (6)) ∧ (((8) + ((7) * ((F) (133) 4))) + (6)) < 163) ∧ (xPT (xup (xup (G7) (133) (((8) + ((7) * ((F) (133) 4))) + (6)) (y7)) (133) 4 (((xup (G7) (133) (((8) + ((7) * ((F) (133) 4))) + (6)) (y7)) (133) 4) + (1))) → Q (xup (xup (G7) (133) (((8) + ((7) * ((F) (133) 4))) + (6)) (y7)) (133) 4 (((xup (G7) (133) (((8) + ((7) * ((F) (133) 4))) + (6)) (y7)) (133) 4) + (1)))))))))))))))))))))))))) ∧ (¬ ((50) ≤ (((xup (G1) (133) ((8) + ((7) * ((F) (133) 4))) (y1)) (133) 0) - (y1))) → (∃ (j8 : Nat), j8 < d ∧ xMI X j8 144 [.ref (131), vi (9), vi (1), vi (((xup (G1) (133) ((8) + ((7) * ((F) (133) 4))) (y1)) (133) 0) - (y1))] (xup (G1) (133) ((8) + ((7) * ((F) (133) 4))) (y1)) (fun (y8 : Int) (G8 : XF) => ((0 ≤ (((8) + ((7) * ((F) (133) 4))) + (1)) ∧ (((8) + ((7) * ((F) (133) 4))) + (1)) < 163) ∧ (∃ (j9 : Nat), j9 < d ∧ xMI X j9 144 [.ref (131), vi (10), vi (1), vi (200)] (xup (G8) (133) (((8) + ((7) * ((F) (133) 4))) + (1)) (y8)) (fun (y9 : Int) (G9 : XF) => ((0 ≤ (((8) + ((7) * ((F) (133) 4))) + (2)) ∧ (((8) + ((7) * ((F) (133) 4))) + (2)) < 163) ∧ ((0 ≤ (((8) + ((7) * ((F) (133) 4))) + (2)) ∧ (((8) + ((7) * ((F) (133) 4))) + (2)) < 163) ∧ (∃ (j10 : Nat), j10 < d ∧ xMI X j10 144 [.ref (131), vi (11), vi (0), vi ((y9) - (1))] (xup (G9) (133) (((8) + ((7) * ((F) (133) 4))) + (2)) (y9)) (fun (y10 : Int) (G10 : XF) => ((0 ≤ (((8) + ((7) * ((F) (133) 4))) + (3)) ∧ (((8) + ((7) * ((F) (133) 4))) + (3)) < 163) ∧ ((0 ≤ (((8) + ((7) * ((F) (133) 4))) + (3)) ∧ (((8) + ((7) * ((F) (133) 4))) + (3)) < 163) ∧ ((0 ≤ (((8) + ((7) * ((F) (133) 4))) + (2)) ∧ (((8) + ((7) * ((F) (133) 4))) + (2)) < 163) ∧ (∃ (j11 : Nat), j11 < d ∧ xMI X j11 144 [.ref (131), vi (12), vi ((y10) + (1)), vi ((G10) (133) (((8) + ((7) * ((F) (133) 4))) + (2)))] (xup (G10) (133) (((8) + ((7) * ((F) (133) 4))) + (3)) (y10)) (fun (y11 : Int) (G11 : XF) => ((0 ≤ (((8) + ((7) * ((F) (133) 4))) + (4)) ∧ (((8) + ((7) * ((F) (133) 4))) + (4)) < 163) ∧ (∃ (j12 : Nat), j12 < d ∧ xMI X j12 144 [.ref (131), vi (13), vi (0), vi (99)] (xup (G11) (133) (((8) + ((7) * ((F) (133) 4))) + (4)) (y11)) (fun (y12 : Int) (G12 : XF) => ((0 ≤ (((8) + ((7) * ((F) (133) 4))) + (5)) ∧ (((8) + ((7) * ((F) (133) 4))) + (5)) < 163) ∧ (∃ (j13 : Nat), j13 < d ∧ xMI X j13 144 [.ref (131), vi (14), vi (1), vi (20)] (xup (G12) (133) (((8) + ((7) * ((F) (133) 4))) + (5)) (y12)) (fun (y13 : Int) (G13 : XF) => ((0 ≤ (((8) + ((7) * ((F) (133) 4))) + (6)) ∧ (((8) + ((7) * ((F) (133) 4))) + (6)) < 163) ∧ (xPT (xup (xup (G13) (133) (((8) + ((7) * ((F) (133) 4))) + (6)) (y13)) (133) 4 (((xup (G13) (133) (((8) + ((7) * ((F) (133) 4))) + (6)) (y13)) (133) 4) + (1))) → Q (xup (xup (G13) (133) (((8) + ((7) * ((F) (133) 4))) + (6)) (y13)) (133) 4 (((xup (G13) (133) (((8) + ((7) * ((F) (133) 4))) + (6)) (y13)) (133) 4) + (1))))))))))))))))))))))))))))))))))) ∧ (¬ (¬ ((F) (133) 4) = (0)) → (∃ (j14 : Nat), j14 < d ∧ xMI X j14 143 [.ref (131), vi (0), vi (((F) (133) 0) - (1))] (F) (fun (y14 : Int) (G14 : XF) => ((0 ≤ ((8) + ((7) * ((F) (133) 4))) ∧ ((8) + ((7) * ((F) (133) 4))) < 163) ∧ ((0 ≤ ((8) + ((7) * ((F) (133) 4))) ∧ ((8) + ((7) * ((F) (133) 4))) < 163) ∧ (inR (((xup (G14) (133) ((8) + ((7) * ((F) (133) 4))) (y14)) (133) 0) - (y14)) ∧ ((((50) ≤ (((xup (G14) (133) ((8) + ((7) * ((F) (133) 4))) (y14)) (133) 0) - (y14))) → (∃ (j15 : Nat), j15 < d ∧ xMI X j15 144 [.ref (131), vi (9), vi (1), vi (50)] (xup (G14) (133) ((8) + ((7) * ((F) (133) 4))) (y14)) (fun (y15 : Int) (G15 : XF) => ((0 ≤ (((8) + ((7) * ((F) (133) 4))) + (1)) ∧ (((8) + ((7) * ((F) (133) 4))) + (1)) < 163) ∧ (∃ (j16 : Nat), j16 < d ∧ xMI X j16 144 [.ref (131), vi (10), vi (1), vi (200)] (xup (G15) (133) (((8) + ((7) * ((F) (133) 4))) + (1)) (y15)) (fun (y16 : Int) (G16 : XF) => ((0 ≤ (((8) + ((7) * ((F) (133) 4))) + (2)) ∧ (((8) + ((7) * ((F) (133) 4))) + (2)) < 163) ∧ ((0 ≤ (((8) + ((7) * ((F) (133) 4))) + (2)) ∧ (((8) + ((7) * ((F) (133) 4))) + (2)) < 163) ∧ (∃ (j17 : Nat), j17 < d ∧ xMI X j17 144 [.ref (131), vi (11), vi (0), vi ((y16) - (1))] (xup (G16) (133) (((8) + ((7) * ((F) (133) 4))) + (2)) (y16)) (fun (y17 : Int) (G17 : XF) => ((0 ≤ (((8) + ((7) * ((F) (133) 4))) + (3)) ∧ (((8) + ((7) * ((F) (133) 4))) + (3)) < 163) ∧ ((0 ≤ (((8) + ((7) * ((F) (133) 4))) + (3)) ∧ (((8) + ((7) * ((F) (133) 4))) + (3)) < 163) ∧ ((0 ≤ (((8) + ((7) * ((F) (133) 4))) + (2)) ∧ (((8) + ((7) * ((F) (133) 4))) + (2)) < 163) ∧ (∃ (j18 : Nat), j18 < d ∧ xMI X j18 144 [.ref (131), vi (12), vi ((y17) + (1)), vi ((G17) (133) (((8) + ((7) * ((F) (133) 4))) + (2)))] (xup (G17) (133) (((8) + ((7) * ((F) (133) 4))) + (3)) (y17)) (fun (y18 : Int) (G18 : XF) => ((0 ≤ (((8) + ((7) * ((F) (133) 4))) + (4)) ∧ (((8) + ((7) * ((F) (133) 4))) + (4)) < 163) ∧ (∃ (j19 : Nat), j19 < d ∧ xMI X j19 144 [.ref (131), vi (13), vi (0), vi (99)] (xup (G18) (133) (((8) + ((7) * ((F) (133) 4))) + (4)) (y18)) (fun (y19 : Int) (G19 : XF) => ((0 ≤ (((8) + ((7) * ((F) (133) 4))) + (5)) ∧ (((8) + ((7) * ((F) (133) 4))) + (5)) < 163) ∧ (∃ (j20 : Nat), j20 < d ∧ xMI X j20 144 [.ref (131), vi (14), vi (1), vi (20)] (xup (G19) (133) (((8) + ((7) * ((F) (133) 4))) + (5)) (y19)) (fun (y20 : Int) (G20 : XF) => ((0 ≤ (((8) + ((7) * ((F) (133) 4))) + (6)) ∧ (((8) + ((7) * ((F) (133) 4))) + (6)) < 163) ∧ (xPT (xup (xup (G20) (133) (((8) + ((7) * ((F) (133) 4))) + (6)) (y20)) (133) 4 (((xup (G20) (133) (((8) + ((7) * ((F) (133) 4))) + (6)) (y20)) (133) 4) + (1))) → Q (xup (xup (G20) (133) (((8) + ((7) * ((F) (133) 4))) + (6)) (y20)) (133) 4 (((xup (G20) (133) (((8) + ((7) * ((F) (133) 4))) + (6)) (y20)) (133) 4) + (1)))))))))))))))))))))))))) ∧ (¬ ((50) ≤ (((xup (G14) (133) ((8) + ((7) * ((F) (133) 4))) (y14)) (133) 0) - (y14))) → (∃ (j21 : Nat), j21 < d ∧ xMI X j21 144 [.ref (131), vi (9), vi (1), vi (((xup (G14) (133) ((8) + ((7) * ((F) (133) 4))) (y14)) (133) 0) - (y14))] (xup (G14) (133) ((8) + ((7) * ((F) (133) 4))) (y14)) (fun (y21 : Int) (G21 : XF) => ((0 ≤ (((8) + ((7) * ((F) (133) 4))) + (1)) ∧ (((8) + ((7) * ((F) (133) 4))) + (1)) < 163) ∧ (∃ (j22 : Nat), j22 < d ∧ xMI X j22 144 [.ref (131), vi (10), vi (1), vi (200)] (xup (G21) (133) (((8) + ((7) * ((F) (133) 4))) + (1)) (y21)) (fun (y22 : Int) (G22 : XF) => ((0 ≤ (((8) + ((7) * ((F) (133) 4))) + (2)) ∧ (((8) + ((7) * ((F) (133) 4))) + (2)) < 163) ∧ ((0 ≤ (((8) + ((7) * ((F) (133) 4))) + (2)) ∧ (((8) + ((7) * ((F) (133) 4))) + (2)) < 163) ∧ (∃ (j23 : Nat), j23 < d ∧ xMI X j23 144 [.ref (131), vi (11), vi (0), vi ((y22) - (1))] (xup (G22) (133) (((8) + ((7) * ((F) (133) 4))) + (2)) (y22)) (fun (y23 : Int) (G23 : XF) => ((0 ≤ (((8) + ((7) * ((F) (133) 4))) + (3)) ∧ (((8) + ((7) * ((F) (133) 4))) + (3)) < 163) ∧ ((0 ≤ (((8) + ((7) * ((F) (133) 4))) + (3)) ∧ (((8) + ((7) * ((F) (133) 4))) + (3)) < 163) ∧ ((0 ≤ (((8) + ((7) * ((F) (133) 4))) + (2)) ∧ (((8) + ((7) * ((F) (133) 4))) + (2)) < 163) ∧ (∃ (j24 : Nat), j24 < d ∧ xMI X j24 144 [.ref (131), vi (12), vi ((y23) + (1)), vi ((G23) (133) (((8) + ((7) * ((F) (133) 4))) + (2)))] (xup (G23) (133) (((8) + ((7) * ((F) (133) 4))) + (3)) (y23)) (fun (y24 : Int) (G24 : XF) => ((0 ≤ (((8) + ((7) * ((F) (133) 4))) + (4)) ∧ (((8) + ((7) * ((F) (133) 4))) + (4)) < 163) ∧ (∃ (j25 : Nat), j25 < d ∧ xMI X j25 144 [.ref (131), vi (13), vi (0), vi (99)] (xup (G24) (133) (((8) + ((7) * ((F) (133) 4))) + (4)) (y24)) (fun (y25 : Int) (G25 : XF) => ((0 ≤ (((8) + ((7) * ((F) (133) 4))) + (5)) ∧ (((8) + ((7) * ((F) (133) 4))) + (5)) < 163) ∧ (∃ (j26 : Nat), j26 < d ∧ xMI X j26 144 [.ref (131), vi (14), vi (1), vi (20)] (xup (G25) (133) (((8) + ((7) * ((F) (133) 4))) + (5)) (y25)) (fun (y26 : Int) (G26 : XF) => ((0 ≤ (((8) + ((7) * ((F) (133) 4))) + (6)) ∧ (((8) + ((7) * ((F) (133) 4))) + (6)) < 163) ∧ (xPT (xup (xup (G26) (133) (((8) + ((7) * ((F) (133) 4))) + (6)) (y26)) (133) 4 (((xup (G26) (133) (((8) + ((7) * ((F) (133) 4))) + (6)) (y26)) (133) 4) + (1))) → Q (xup (xup (G26) (133) (((8) + ((7) * ((F) (133) 4))) + (6)) (y26)) (133) 4 (((xup (G26) (133) (((8) + ((7) * ((F) (133) 4))) + (6)) (y26)) (133) 4) + (1)))))))))))))))))))))))))))))))))))) ∧ (¬ (¬ ((F) (133) 4) = (10)) → (∃ (j27 : Nat), j27 < d ∧ xMV X j27 137 [.ref (131), vi (3), vi (x1)] (F) (fun (G27 : XF) => (xPT (G27) → Q (G27))))))) : xMV X d 145 [.ref (131), vi (x1)] F Q := by
  show xW X d 145 0 [.ref (131), vi (x1), xU0, xU0, xU0, xU0] [] F (xqv Q)
  exact s145_0 hPT  t

theorem s146_0 {X : List Int32} {d : Nat} {F : XF} {Q : XF → Prop} {w1 : Value} {w2 : Value} {w3 : Value} {w4 : Value} (hPT : xPT F)  (t : ∃ (j1 : Nat), j1 < d ∧ xMI X j1 143 [.ref (131), vi (1), vi (30)] (F) (fun (y1 : Int) (G1 : XF) => (∃ (j2 : Nat), j2 < d ∧ xMV X j2 142 [.ref (131), vi (15)] (G1) (fun (G2 : XF) => (∃ (j3 : Nat), j3 < d ∧ xMI X j3 143 [.ref (131), vi (1), vi (30)] (G2) (fun (y3 : Int) (G3 : XF) => (inR ((G3) (131) 7) ∧ (((¬ ((G3) (131) 7) = (0)) → (inR ((G3) (131) 7) ∧ (((((G3) (131) 7) = (0)) → (xPT (G3) → xW X d 146 64 [.ref (131), vi (y1), vi ((G1) (131) 10), vi (y3), vi (0)] [] (G3) (xqv Q))) ∧ (¬ (((G3) (131) 7) = (0)) → (xPT (G3) → Q (G3)))))) ∧ (¬ (¬ ((G3) (131) 7) = (0)) → (inR (((G3) (133) 5) + (y1)) ∧ ((((((G3) (133) 5) + (y1)) ≤ (30)) → (inR ((G3) (131) 7) ∧ (((((G3) (131) 7) = (0)) → (xPT (G3) → xW X d 146 64 [.ref (131), vi (y1), vi ((G1) (131) 10), vi (y3), vi (0)] [] (G3) (xqv Q))) ∧ (¬ (((G3) (131) 7) = (0)) → (xPT (G3) → Q (G3)))))) ∧ (¬ ((((G3) (133) 5) + (y1)) ≤ (30)) → (∃ (j4 : Nat), j4 < d ∧ xMV X j4 137 [.ref (131), vi (3), vi ((G1) (131) 10)] (G3) (fun (G4 : XF) => (inR ((G4) (131) 7) ∧ (((((G4) (131) 7) = (0)) → (xPT (G4) → xW X d 146 64 [.ref (131), vi (y1), vi ((G1) (131) 10), vi (y3), vi (0)] [] (G4) (xqv Q))) ∧ (¬ (((G4) (131) 7) = (0)) → (xPT (G4) → Q (G4))))))))))))))))))) : xW X d 146 0 [.ref (131), w1, w2, w3, w4] [] F (xqv Q) := by
  refine xw_aload_n (n := 1) (show xlook 146 0 = some (0, .aload_n 0, 1, 0, 0, 0, 0) from xlk (by decide +kernel)) rfl rfl ?_
  refine xw_iconst (n := 2) (show xlook 146 1 = some (1, .iconst 1, 1, 0, 0, 0, 0) from xlk (by decide +kernel)) rfl ?_
  refine xw_bipush (n := 4) (show xlook 146 2 = some (2, .bipush 30, 2, 0, 0, 0, 0) from xlk (by decide +kernel)) rfl (by decide) ?_
  obtain ⟨j1, hj1, rr1, G1, hm1, hG1, t⟩ := t
  obtain ⟨y1, rfl, t⟩ := t
  refine xw_callv (dk := j1) (o := 131) (as := [vi (1), vi (30)]) (show xlook 146 4 = some (4, .invokevirtual 129, 3, 143, 3, 0, 161) from xlk (by decide +kernel)) (by decide) hj1 ⟨Nat.le_of_ble_eq_true rfl, Nat.le_of_ble_eq_true rfl, Nat.le_of_ble_eq_true rfl⟩ ⟨xob_12.1, xob_12.2, by decide⟩ rfl hm1 (n := 7) rfl ?_
  show xW X d 146 7 [.ref (131), w1, w2, w3, w4] [vi (y1)] G1 (xqv Q)
  refine xw_istore_n (n := 8) (show xlook 146 7 = some (7, .istore_n 1, 1, 0, 0, 0, 0) from xlk (by decide +kernel)) rfl (ls' := [.ref (131), vi (y1), w2, w3, w4]) (Nat.le_of_ble_eq_true rfl) rfl ?_
  refine xw_aload_n (n := 9) (show xlook 146 8 = some (8, .aload_n 0, 1, 0, 0, 0, 0) from xlk (by decide +kernel)) rfl rfl ?_
  refine xw_geti (show xlook 146 9 = some (9, .getfield 123, 3, 12, 10, 0, 240) from xlk (by decide +kernel)) (by decide) (xobf xob_12 (by decide) (by decide)) rfl (n := 12) rfl ?_
  refine xw_istore_n (n := 13) (show xlook 146 12 = some (12, .istore_n 2, 1, 0, 0, 0, 0) from xlk (by decide +kernel)) rfl (ls' := [.ref (131), vi (y1), vi ((G1) (131) 10), w3, w4]) (Nat.le_of_ble_eq_true rfl) rfl ?_
  refine xw_aload_n (n := 14) (show xlook 146 13 = some (13, .aload_n 0, 1, 0, 0, 0, 0) from xlk (by decide +kernel)) rfl rfl ?_
  refine xw_bipush (n := 16) (show xlook 146 14 = some (14, .bipush 15, 2, 0, 0, 0, 0) from xlk (by decide +kernel)) rfl (by decide) ?_
  obtain ⟨j2, hj2, rr2, G2, hm2, hG2, t⟩ := t
  obtain ⟨rfl, t⟩ := t
  refine xw_callv (dk := j2) (o := 131) (as := [vi (15)]) (show xlook 146 16 = some (16, .invokevirtual 126, 3, 142, 2, 0, 160) from xlk (by decide +kernel)) (by decide) hj2 ⟨Nat.le_of_ble_eq_true rfl, Nat.le_of_ble_eq_true rfl, Nat.le_of_ble_eq_true rfl⟩ ⟨xob_12.1, xob_12.2, by decide⟩ rfl hm2 (n := 19) rfl ?_
  show xW X d 146 19 [.ref (131), vi (y1), vi ((G1) (131) 10), w3, w4] [] G2 (xqv Q)
  refine xw_aload_n (n := 20) (show xlook 146 19 = some (19, .aload_n 0, 1, 0, 0, 0, 0) from xlk (by decide +kernel)) rfl rfl ?_
  refine xw_iconst (n := 21) (show xlook 146 20 = some (20, .iconst 1, 1, 0, 0, 0, 0) from xlk (by decide +kernel)) rfl ?_
  refine xw_bipush (n := 23) (show xlook 146 21 = some (21, .bipush 30, 2, 0, 0, 0, 0) from xlk (by decide +kernel)) rfl (by decide) ?_
  obtain ⟨j3, hj3, rr3, G3, hm3, hG3, t⟩ := t
  obtain ⟨y3, rfl, t⟩ := t
  refine xw_callv (dk := j3) (o := 131) (as := [vi (1), vi (30)]) (show xlook 146 23 = some (23, .invokevirtual 129, 3, 143, 3, 0, 161) from xlk (by decide +kernel)) (by decide) hj3 ⟨Nat.le_of_ble_eq_true rfl, Nat.le_of_ble_eq_true rfl, Nat.le_of_ble_eq_true rfl⟩ ⟨xob_12.1, xob_12.2, by decide⟩ rfl hm3 (n := 26) rfl ?_
  show xW X d 146 26 [.ref (131), vi (y1), vi ((G1) (131) 10), w3, w4] [vi (y3)] G3 (xqv Q)
  refine xw_istore_n (n := 27) (show xlook 146 26 = some (26, .istore_n 3, 1, 0, 0, 0, 0) from xlk (by decide +kernel)) rfl (ls' := [.ref (131), vi (y1), vi ((G1) (131) 10), vi (y3), w4]) (Nat.le_of_ble_eq_true rfl) rfl ?_
  refine xw_aload_n (n := 28) (show xlook 146 27 = some (27, .aload_n 0, 1, 0, 0, 0, 0) from xlk (by decide +kernel)) rfl rfl ?_
  refine xw_geti (show xlook 146 28 = some (28, .getfield 76, 3, 12, 7, 0, 239) from xlk (by decide +kernel)) (by decide) (xobf xob_12 (by decide) (by decide)) rfl (n := 31) rfl ?_
  obtain ⟨q0, t⟩ := t
  refine xw_if_ne (n := 34) (m := 53) (show xlook 146 31 = some (31, .ifCond .ne 22, 3, 53, 0, 0, 0) from xlk (by decide +kernel)) rfl rfl q0 ⟨fun c => ?_, fun c => ?_⟩
  · replace t := t.1 c
    refine xw_aload_n (n := 54) (show xlook 146 53 = some (53, .aload_n 0, 1, 0, 0, 0, 0) from xlk (by decide +kernel)) rfl rfl ?_
    refine xw_geti (show xlook 146 54 = some (54, .getfield 76, 3, 12, 7, 0, 239) from xlk (by decide +kernel)) (by decide) (xobf xob_12 (by decide) (by decide)) rfl (n := 57) rfl ?_
    obtain ⟨q0, t⟩ := t
    refine xw_if_eq (n := 60) (m := 61) (show xlook 146 57 = some (57, .ifCond .eq 4, 3, 61, 0, 0, 0) from xlk (by decide +kernel)) rfl rfl q0 ⟨fun c => ?_, fun c => ?_⟩
    · replace t := t.1 c
      refine xw_iconst (n := 62) (show xlook 146 61 = some (61, .iconst 0, 1, 0, 0, 0, 0) from xlk (by decide +kernel)) rfl ?_
      refine xw_istore (n := 64) (show xlook 146 62 = some (62, .istore 4, 2, 0, 0, 0, 0) from xlk (by decide +kernel)) rfl (ls' := [.ref (131), vi (y1), vi ((G1) (131) 10), vi (y3), vi (0)]) (Nat.le_of_ble_eq_true rfl) rfl ?_
      exact t hG3
    · replace t := t.2 c
      exact xw_return hG3 (show xlook 146 60 = some (60, .return_, 1, 0, 0, 0, 0) from xlk (by decide +kernel)) rfl (t hG3)
  · replace t := t.2 c
    refine xw_aload_n (n := 35) (show xlook 146 34 = some (34, .aload_n 0, 1, 0, 0, 0, 0) from xlk (by decide +kernel)) rfl rfl ?_
    refine xw_getr (q := 133) (show xlook 146 35 = some (35, .getfield 17, 3, 12, 2, 0, 221) from xlk (by decide +kernel)) (by decide) (xobf xob_12 (by decide) (by decide)) rfl (xPT_get (k := 2) (f := 2) hG3 xob_12 (by decide)) (by have := (xtg_12_2 _ xob_12.1 xob_12.2).1.1; omega) (n := 38) rfl ?_
    refine xw_iconst (n := 39) (show xlook 146 38 = some (38, .iconst 5, 1, 0, 0, 0, 0) from xlk (by decide +kernel)) rfl ?_
    refine xw_iald (show xlook 146 39 = some (39, .iaload, 1, 0, 0, 0, 0) from xlk (by decide +kernel)) (xtg_12_2 _ xob_12.1 xob_12.2).1 (by rw [(xtg_12_2 _ xob_12.1 xob_12.2).2]; decide) (n := 40) rfl ?_
    refine xw_iload_n (n := 41) (show xlook 146 40 = some (40, .iload_n 1, 1, 0, 0, 0, 0) from xlk (by decide +kernel)) rfl rfl ?_
    refine xw_iadd (n := 42) (show xlook 146 41 = some (41, .iadd, 1, 0, 0, 0, 0) from xlk (by decide +kernel)) rfl ?_
    refine xw_bipush (n := 44) (show xlook 146 42 = some (42, .bipush 30, 2, 0, 0, 0, 0) from xlk (by decide +kernel)) rfl (by decide) ?_
    obtain ⟨q0, t⟩ := t
    refine xw_icmp_le (n := 47) (m := 53) (show xlook 146 44 = some (44, .if_icmp .le 9, 3, 53, 0, 0, 0) from xlk (by decide +kernel)) rfl rfl q0 ⟨by decide, by decide⟩ ⟨fun c => ?_, fun c => ?_⟩
    · replace t := t.1 c
      refine xw_aload_n (n := 54) (show xlook 146 53 = some (53, .aload_n 0, 1, 0, 0, 0, 0) from xlk (by decide +kernel)) rfl rfl ?_
      refine xw_geti (show xlook 146 54 = some (54, .getfield 76, 3, 12, 7, 0, 239) from xlk (by decide +kernel)) (by decide) (xobf xob_12 (by decide) (by decide)) rfl (n := 57) rfl ?_
      obtain ⟨q0, t⟩ := t
      refine xw_if_eq (n := 60) (m := 61) (show xlook 146 57 = some (57, .ifCond .eq 4, 3, 61, 0, 0, 0) from xlk (by decide +kernel)) rfl rfl q0 ⟨fun c => ?_, fun c => ?_⟩
      · replace t := t.1 c
        refine xw_iconst (n := 62) (show xlook 146 61 = some (61, .iconst 0, 1, 0, 0, 0, 0) from xlk (by decide +kernel)) rfl ?_
        refine xw_istore (n := 64) (show xlook 146 62 = some (62, .istore 4, 2, 0, 0, 0, 0) from xlk (by decide +kernel)) rfl (ls' := [.ref (131), vi (y1), vi ((G1) (131) 10), vi (y3), vi (0)]) (Nat.le_of_ble_eq_true rfl) rfl ?_
        exact t hG3
      · replace t := t.2 c
        exact xw_return hG3 (show xlook 146 60 = some (60, .return_, 1, 0, 0, 0, 0) from xlk (by decide +kernel)) rfl (t hG3)
    · replace t := t.2 c
      refine xw_aload_n (n := 48) (show xlook 146 47 = some (47, .aload_n 0, 1, 0, 0, 0, 0) from xlk (by decide +kernel)) rfl rfl ?_
      refine xw_iconst (n := 49) (show xlook 146 48 = some (48, .iconst 3, 1, 0, 0, 0, 0) from xlk (by decide +kernel)) rfl ?_
      refine xw_iload_n (n := 50) (show xlook 146 49 = some (49, .iload_n 2, 1, 0, 0, 0, 0) from xlk (by decide +kernel)) rfl rfl ?_
      obtain ⟨j4, hj4, rr4, G4, hm4, hG4, t⟩ := t
      obtain ⟨rfl, t⟩ := t
      refine xw_callv (dk := j4) (o := 131) (as := [vi (3), vi ((G1) (131) 10)]) (show xlook 146 50 = some (50, .invokevirtual 116, 3, 137, 3, 0, 158) from xlk (by decide +kernel)) (by decide) hj4 ⟨Nat.le_of_ble_eq_true rfl, Nat.le_of_ble_eq_true rfl, Nat.le_of_ble_eq_true rfl⟩ ⟨xob_12.1, xob_12.2, by decide⟩ rfl hm4 (n := 53) rfl ?_
      show xW X d 146 53 [.ref (131), vi (y1), vi ((G1) (131) 10), vi (y3), w4] [] G4 (xqv Q)
      refine xw_aload_n (n := 54) (show xlook 146 53 = some (53, .aload_n 0, 1, 0, 0, 0, 0) from xlk (by decide +kernel)) rfl rfl ?_
      refine xw_geti (show xlook 146 54 = some (54, .getfield 76, 3, 12, 7, 0, 239) from xlk (by decide +kernel)) (by decide) (xobf xob_12 (by decide) (by decide)) rfl (n := 57) rfl ?_
      obtain ⟨q0, t⟩ := t
      refine xw_if_eq (n := 60) (m := 61) (show xlook 146 57 = some (57, .ifCond .eq 4, 3, 61, 0, 0, 0) from xlk (by decide +kernel)) rfl rfl q0 ⟨fun c => ?_, fun c => ?_⟩
      · replace t := t.1 c
        refine xw_iconst (n := 62) (show xlook 146 61 = some (61, .iconst 0, 1, 0, 0, 0, 0) from xlk (by decide +kernel)) rfl ?_
        refine xw_istore (n := 64) (show xlook 146 62 = some (62, .istore 4, 2, 0, 0, 0, 0) from xlk (by decide +kernel)) rfl (ls' := [.ref (131), vi (y1), vi ((G1) (131) 10), vi (y3), vi (0)]) (Nat.le_of_ble_eq_true rfl) rfl ?_
        exact t hG4
      · replace t := t.2 c
        exact xw_return hG4 (show xlook 146 60 = some (60, .return_, 1, 0, 0, 0, 0) from xlk (by decide +kernel)) rfl (t hG4)
theorem m146 {X : List Int32} {d : Nat} {F : XF} {Q : XF → Prop}  (hPT : xPT F)  (t : ∃ (j1 : Nat), j1 < d ∧ xMI X j1 143 [.ref (131), vi (1), vi (30)] (F) (fun (y1 : Int) (G1 : XF) => (∃ (j2 : Nat), j2 < d ∧ xMV X j2 142 [.ref (131), vi (15)] (G1) (fun (G2 : XF) => (∃ (j3 : Nat), j3 < d ∧ xMI X j3 143 [.ref (131), vi (1), vi (30)] (G2) (fun (y3 : Int) (G3 : XF) => (inR ((G3) (131) 7) ∧ (((¬ ((G3) (131) 7) = (0)) → (inR ((G3) (131) 7) ∧ (((((G3) (131) 7) = (0)) → (xPT (G3) → xW X d 146 64 [.ref (131), vi (y1), vi ((G1) (131) 10), vi (y3), vi (0)] [] (G3) (xqv Q))) ∧ (¬ (((G3) (131) 7) = (0)) → (xPT (G3) → Q (G3)))))) ∧ (¬ (¬ ((G3) (131) 7) = (0)) → (inR (((G3) (133) 5) + (y1)) ∧ ((((((G3) (133) 5) + (y1)) ≤ (30)) → (inR ((G3) (131) 7) ∧ (((((G3) (131) 7) = (0)) → (xPT (G3) → xW X d 146 64 [.ref (131), vi (y1), vi ((G1) (131) 10), vi (y3), vi (0)] [] (G3) (xqv Q))) ∧ (¬ (((G3) (131) 7) = (0)) → (xPT (G3) → Q (G3)))))) ∧ (¬ ((((G3) (133) 5) + (y1)) ≤ (30)) → (∃ (j4 : Nat), j4 < d ∧ xMV X j4 137 [.ref (131), vi (3), vi ((G1) (131) 10)] (G3) (fun (G4 : XF) => (inR ((G4) (131) 7) ∧ (((((G4) (131) 7) = (0)) → (xPT (G4) → xW X d 146 64 [.ref (131), vi (y1), vi ((G1) (131) 10), vi (y3), vi (0)] [] (G4) (xqv Q))) ∧ (¬ (((G4) (131) 7) = (0)) → (xPT (G4) → Q (G4))))))))))))))))))) : xMV X d 146 [.ref (131)] F Q := by
  show xW X d 146 0 [.ref (131), xU0, xU0, xU0, xU0] [] F (xqv Q)
  exact s146_0 hPT  t

theorem s146_64 {X : List Int32} {d : Nat} {F : XF} {Q : XF → Prop} {x1 : Int} {x2 : Int} {x3 : Int} {x4 : Int} (hPT : xPT F)  (t : inR (x4) ∧ inR (x1) ∧ ((((x1) ≤ (x4)) → (xPT (xup (F) (133) 5 (((F) (133) 5) + (x1))) → Q (xup (F) (133) 5 (((F) (133) 5) + (x1))))) ∧ (¬ ((x1) ≤ (x4)) → ((0 ≤ (((78) + ((F) (133) 5)) + (x4)) ∧ (((78) + ((F) (133) 5)) + (x4)) < 163) ∧ (xPT (xup (F) (133) (((78) + ((F) (133) 5)) + (x4)) (x3)) → xW X d 146 64 [.ref (131), vi (x1), vi (x2), vi (x3), vi (x4 + 1)] [] (xup (F) (133) (((78) + ((F) (133) 5)) + (x4)) (x3)) (xqv Q)))))) : xW X d 146 64 [.ref (131), vi (x1), vi (x2), vi (x3), vi (x4)] [] F (xqv Q) := by
  refine xw_iload (n := 66) (show xlook 146 64 = some (64, .iload 4, 2, 0, 0, 0, 0) from xlk (by decide +kernel)) rfl rfl ?_
  refine xw_iload_n (n := 67) (show xlook 146 66 = some (66, .iload_n 1, 1, 0, 0, 0, 0) from xlk (by decide +kernel)) rfl rfl ?_
  obtain ⟨q0, q1, t⟩ := t
  refine xw_icmp_ge (n := 70) (m := 94) (show xlook 146 67 = some (67, .if_icmp .ge 27, 3, 94, 0, 0, 0) from xlk (by decide +kernel)) rfl rfl q0 q1 ⟨fun c => ?_, fun c => ?_⟩
  · replace t := t.1 c
    refine xw_aload_n (n := 95) (show xlook 146 94 = some (94, .aload_n 0, 1, 0, 0, 0, 0) from xlk (by decide +kernel)) rfl rfl ?_
    refine xw_getr (q := 133) (show xlook 146 95 = some (95, .getfield 17, 3, 12, 2, 0, 221) from xlk (by decide +kernel)) (by decide) (xobf xob_12 (by decide) (by decide)) rfl (xPT_get (k := 2) (f := 2) hPT xob_12 (by decide)) (by have := (xtg_12_2 _ xob_12.1 xob_12.2).1.1; omega) (n := 98) rfl ?_
    refine xw_iconst (n := 99) (show xlook 146 98 = some (98, .iconst 5, 1, 0, 0, 0, 0) from xlk (by decide +kernel)) rfl ?_
    refine xw_dup2 (n := 100) (show xlook 146 99 = some (99, .dup2, 1, 0, 0, 0, 0) from xlk (by decide +kernel)) rfl ?_
    refine xw_iald (show xlook 146 100 = some (100, .iaload, 1, 0, 0, 0, 0) from xlk (by decide +kernel)) (xtg_12_2 _ xob_12.1 xob_12.2).1 (by rw [(xtg_12_2 _ xob_12.1 xob_12.2).2]; decide) (n := 101) rfl ?_
    refine xw_iload_n (n := 102) (show xlook 146 101 = some (101, .iload_n 1, 1, 0, 0, 0, 0) from xlk (by decide +kernel)) rfl rfl ?_
    refine xw_iadd (n := 103) (show xlook 146 102 = some (102, .iadd, 1, 0, 0, 0, 0) from xlk (by decide +kernel)) rfl ?_
    refine xw_iast (show xlook 146 103 = some (103, .iastore, 1, 0, 0, 0, 0) from xlk (by decide +kernel)) (xtg_12_2 _ xob_12.1 xob_12.2).1 (by rw [(xtg_12_2 _ xob_12.1 xob_12.2).2]; decide) (n := 104) rfl ?_
    exact xw_return (xPT_arr hPT (Or.inl (xtg_12_2 _ xob_12.1 xob_12.2).1.2)) (show xlook 146 104 = some (104, .return_, 1, 0, 0, 0, 0) from xlk (by decide +kernel)) rfl (t (xPT_arr hPT (Or.inl (xtg_12_2 _ xob_12.1 xob_12.2).1.2)))
  · replace t := t.2 c
    refine xw_aload_n (n := 71) (show xlook 146 70 = some (70, .aload_n 0, 1, 0, 0, 0, 0) from xlk (by decide +kernel)) rfl rfl ?_
    refine xw_getr (q := 133) (show xlook 146 71 = some (71, .getfield 17, 3, 12, 2, 0, 221) from xlk (by decide +kernel)) (by decide) (xobf xob_12 (by decide) (by decide)) rfl (xPT_get (k := 2) (f := 2) hPT xob_12 (by decide)) (by have := (xtg_12_2 _ xob_12.1 xob_12.2).1.1; omega) (n := 74) rfl ?_
    refine xw_bipush (n := 76) (show xlook 146 74 = some (74, .bipush 78, 2, 0, 0, 0, 0) from xlk (by decide +kernel)) rfl (by decide) ?_
    refine xw_aload_n (n := 77) (show xlook 146 76 = some (76, .aload_n 0, 1, 0, 0, 0, 0) from xlk (by decide +kernel)) rfl rfl ?_
    refine xw_getr (q := 133) (show xlook 146 77 = some (77, .getfield 17, 3, 12, 2, 0, 221) from xlk (by decide +kernel)) (by decide) (xobf xob_12 (by decide) (by decide)) rfl (xPT_get (k := 2) (f := 2) hPT xob_12 (by decide)) (by have := (xtg_12_2 _ xob_12.1 xob_12.2).1.1; omega) (n := 80) rfl ?_
    refine xw_iconst (n := 81) (show xlook 146 80 = some (80, .iconst 5, 1, 0, 0, 0, 0) from xlk (by decide +kernel)) rfl ?_
    refine xw_iald (show xlook 146 81 = some (81, .iaload, 1, 0, 0, 0, 0) from xlk (by decide +kernel)) (xtg_12_2 _ xob_12.1 xob_12.2).1 (by rw [(xtg_12_2 _ xob_12.1 xob_12.2).2]; decide) (n := 82) rfl ?_
    refine xw_iadd (n := 83) (show xlook 146 82 = some (82, .iadd, 1, 0, 0, 0, 0) from xlk (by decide +kernel)) rfl ?_
    refine xw_iload (n := 85) (show xlook 146 83 = some (83, .iload 4, 2, 0, 0, 0, 0) from xlk (by decide +kernel)) rfl rfl ?_
    refine xw_iadd (n := 86) (show xlook 146 85 = some (85, .iadd, 1, 0, 0, 0, 0) from xlk (by decide +kernel)) rfl ?_
    refine xw_iload_n (n := 87) (show xlook 146 86 = some (86, .iload_n 3, 1, 0, 0, 0, 0) from xlk (by decide +kernel)) rfl rfl ?_
    obtain ⟨q1, t⟩ := t
    refine xw_iast (show xlook 146 87 = some (87, .iastore, 1, 0, 0, 0, 0) from xlk (by decide +kernel)) (xtg_12_2 _ xob_12.1 xob_12.2).1 (by rw [(xtg_12_2 _ xob_12.1 xob_12.2).2]; exact q1) (n := 88) rfl ?_
    refine xw_iinc (n := 91) (show xlook 146 88 = some (88, .iinc 4 1, 3, 0, 0, 0, 0) from xlk (by decide +kernel)) rfl (ls' := [.ref (131), vi (x1), vi (x2), vi (x3), vi (x4 + 1)]) rfl rfl ?_
    refine xw_goto (m := 64) (show xlook 146 91 = some (91, .goto (-27), 3, 64, 0, 0, 0) from xlk (by decide +kernel)) rfl ?_
    exact t (xPT_arr hPT (Or.inl (xtg_12_2 _ xob_12.1 xob_12.2).1.2))

theorem s147_0 {X : List Int32} {d : Nat} {F : XF} {Q : XF → Prop} {w1 : Value} (hPT : xPT F)  (t : ∃ (j1 : Nat), j1 < d ∧ xMI X j1 143 [.ref (131), vi (0), vi (((F) (133) 5) - (1))] (F) (fun (y1 : Int) (G1 : XF) => (inR ((G1) (131) 7) ∧ (((¬ ((G1) (131) 7) = (0)) → (xPT (G1) → xW X d 147 43 [.ref (131), vi (y1)] [] (G1) (xqv Q))) ∧ (¬ (¬ ((G1) (131) 7) = (0)) → ((0 ≤ ((108) + (y1)) ∧ ((108) + (y1)) < 163) ∧ (inR ((G1) (133) ((108) + (y1))) ∧ (((¬ ((G1) (133) ((108) + (y1))) = (1)) → (xPT (G1) → xW X d 147 43 [.ref (131), vi (y1)] [] (G1) (xqv Q))) ∧ (¬ (¬ ((G1) (133) ((108) + (y1))) = (1)) → (∃ (j2 : Nat), j2 < d ∧ xMV X j2 137 [.ref (131), vi (3), vi ((G1) (131) 10)] (G1) (fun (G2 : XF) => (xPT (G2) → xW X d 147 43 [.ref (131), vi (y1)] [] (G2) (xqv Q))))))))))))) : xW X d 147 0 [.ref (131), w1] [] F (xqv Q) := by
  refine xw_aload_n (n := 1) (show xlook 147 0 = some (0, .aload_n 0, 1, 0, 0, 0, 0) from xlk (by decide +kernel)) rfl rfl ?_
  refine xw_iconst (n := 2) (show xlook 147 1 = some (1, .iconst 0, 1, 0, 0, 0, 0) from xlk (by decide +kernel)) rfl ?_
  refine xw_aload_n (n := 3) (show xlook 147 2 = some (2, .aload_n 0, 1, 0, 0, 0, 0) from xlk (by decide +kernel)) rfl rfl ?_
  refine xw_getr (q := 133) (show xlook 147 3 = some (3, .getfield 17, 3, 12, 2, 0, 221) from xlk (by decide +kernel)) (by decide) (xobf xob_12 (by decide) (by decide)) rfl (xPT_get (k := 2) (f := 2) hPT xob_12 (by decide)) (by have := (xtg_12_2 _ xob_12.1 xob_12.2).1.1; omega) (n := 6) rfl ?_
  refine xw_iconst (n := 7) (show xlook 147 6 = some (6, .iconst 5, 1, 0, 0, 0, 0) from xlk (by decide +kernel)) rfl ?_
  refine xw_iald (show xlook 147 7 = some (7, .iaload, 1, 0, 0, 0, 0) from xlk (by decide +kernel)) (xtg_12_2 _ xob_12.1 xob_12.2).1 (by rw [(xtg_12_2 _ xob_12.1 xob_12.2).2]; decide) (n := 8) rfl ?_
  refine xw_iconst (n := 9) (show xlook 147 8 = some (8, .iconst 1, 1, 0, 0, 0, 0) from xlk (by decide +kernel)) rfl ?_
  refine xw_isub (n := 10) (show xlook 147 9 = some (9, .isub, 1, 0, 0, 0, 0) from xlk (by decide +kernel)) rfl ?_
  obtain ⟨j1, hj1, rr1, G1, hm1, hG1, t⟩ := t
  obtain ⟨y1, rfl, t⟩ := t
  refine xw_callv (dk := j1) (o := 131) (as := [vi (0), vi (((F) (133) 5) - (1))]) (show xlook 147 10 = some (10, .invokevirtual 129, 3, 143, 3, 0, 161) from xlk (by decide +kernel)) (by decide) hj1 ⟨Nat.le_of_ble_eq_true rfl, Nat.le_of_ble_eq_true rfl, Nat.le_of_ble_eq_true rfl⟩ ⟨xob_12.1, xob_12.2, by decide⟩ rfl hm1 (n := 13) rfl ?_
  show xW X d 147 13 [.ref (131), w1] [vi (y1)] G1 (xqv Q)
  refine xw_istore_n (n := 14) (show xlook 147 13 = some (13, .istore_n 1, 1, 0, 0, 0, 0) from xlk (by decide +kernel)) rfl (ls' := [.ref (131), vi (y1)]) (Nat.le_of_ble_eq_true rfl) rfl ?_
  refine xw_aload_n (n := 15) (show xlook 147 14 = some (14, .aload_n 0, 1, 0, 0, 0, 0) from xlk (by decide +kernel)) rfl rfl ?_
  refine xw_geti (show xlook 147 15 = some (15, .getfield 76, 3, 12, 7, 0, 239) from xlk (by decide +kernel)) (by decide) (xobf xob_12 (by decide) (by decide)) rfl (n := 18) rfl ?_
  obtain ⟨q0, t⟩ := t
  refine xw_if_ne (n := 21) (m := 43) (show xlook 147 18 = some (18, .ifCond .ne 25, 3, 43, 0, 0, 0) from xlk (by decide +kernel)) rfl rfl q0 ⟨fun c => ?_, fun c => ?_⟩
  · replace t := t.1 c
    exact t hG1
  · replace t := t.2 c
    refine xw_aload_n (n := 22) (show xlook 147 21 = some (21, .aload_n 0, 1, 0, 0, 0, 0) from xlk (by decide +kernel)) rfl rfl ?_
    refine xw_getr (q := 133) (show xlook 147 22 = some (22, .getfield 17, 3, 12, 2, 0, 221) from xlk (by decide +kernel)) (by decide) (xobf xob_12 (by decide) (by decide)) rfl (xPT_get (k := 2) (f := 2) hG1 xob_12 (by decide)) (by have := (xtg_12_2 _ xob_12.1 xob_12.2).1.1; omega) (n := 25) rfl ?_
    refine xw_bipush (n := 27) (show xlook 147 25 = some (25, .bipush 108, 2, 0, 0, 0, 0) from xlk (by decide +kernel)) rfl (by decide) ?_
    refine xw_iload_n (n := 28) (show xlook 147 27 = some (27, .iload_n 1, 1, 0, 0, 0, 0) from xlk (by decide +kernel)) rfl rfl ?_
    refine xw_iadd (n := 29) (show xlook 147 28 = some (28, .iadd, 1, 0, 0, 0, 0) from xlk (by decide +kernel)) rfl ?_
    obtain ⟨q1, t⟩ := t
    refine xw_iald (show xlook 147 29 = some (29, .iaload, 1, 0, 0, 0, 0) from xlk (by decide +kernel)) (xtg_12_2 _ xob_12.1 xob_12.2).1 (by rw [(xtg_12_2 _ xob_12.1 xob_12.2).2]; exact q1) (n := 30) rfl ?_
    refine xw_iconst (n := 31) (show xlook 147 30 = some (30, .iconst 1, 1, 0, 0, 0, 0) from xlk (by decide +kernel)) rfl ?_
    obtain ⟨q0, t⟩ := t
    refine xw_icmp_ne (n := 34) (m := 43) (show xlook 147 31 = some (31, .if_icmp .ne 12, 3, 43, 0, 0, 0) from xlk (by decide +kernel)) rfl rfl q0 ⟨by decide, by decide⟩ ⟨fun c => ?_, fun c => ?_⟩
    · replace t := t.1 c
      exact t hG1
    · replace t := t.2 c
      refine xw_aload_n (n := 35) (show xlook 147 34 = some (34, .aload_n 0, 1, 0, 0, 0, 0) from xlk (by decide +kernel)) rfl rfl ?_
      refine xw_iconst (n := 36) (show xlook 147 35 = some (35, .iconst 3, 1, 0, 0, 0, 0) from xlk (by decide +kernel)) rfl ?_
      refine xw_aload_n (n := 37) (show xlook 147 36 = some (36, .aload_n 0, 1, 0, 0, 0, 0) from xlk (by decide +kernel)) rfl rfl ?_
      refine xw_geti (show xlook 147 37 = some (37, .getfield 123, 3, 12, 10, 0, 240) from xlk (by decide +kernel)) (by decide) (xobf xob_12 (by decide) (by decide)) rfl (n := 40) rfl ?_
      obtain ⟨j2, hj2, rr2, G2, hm2, hG2, t⟩ := t
      obtain ⟨rfl, t⟩ := t
      refine xw_callv (dk := j2) (o := 131) (as := [vi (3), vi ((G1) (131) 10)]) (show xlook 147 40 = some (40, .invokevirtual 116, 3, 137, 3, 0, 158) from xlk (by decide +kernel)) (by decide) hj2 ⟨Nat.le_of_ble_eq_true rfl, Nat.le_of_ble_eq_true rfl, Nat.le_of_ble_eq_true rfl⟩ ⟨xob_12.1, xob_12.2, by decide⟩ rfl hm2 (n := 43) rfl ?_
      show xW X d 147 43 [.ref (131), vi (y1)] [] G2 (xqv Q)
      exact t hG2
theorem m147 {X : List Int32} {d : Nat} {F : XF} {Q : XF → Prop}  (hPT : xPT F)  (t : ∃ (j1 : Nat), j1 < d ∧ xMI X j1 143 [.ref (131), vi (0), vi (((F) (133) 5) - (1))] (F) (fun (y1 : Int) (G1 : XF) => (inR ((G1) (131) 7) ∧ (((¬ ((G1) (131) 7) = (0)) → (xPT (G1) → xW X d 147 43 [.ref (131), vi (y1)] [] (G1) (xqv Q))) ∧ (¬ (¬ ((G1) (131) 7) = (0)) → ((0 ≤ ((108) + (y1)) ∧ ((108) + (y1)) < 163) ∧ (inR ((G1) (133) ((108) + (y1))) ∧ (((¬ ((G1) (133) ((108) + (y1))) = (1)) → (xPT (G1) → xW X d 147 43 [.ref (131), vi (y1)] [] (G1) (xqv Q))) ∧ (¬ (¬ ((G1) (133) ((108) + (y1))) = (1)) → (∃ (j2 : Nat), j2 < d ∧ xMV X j2 137 [.ref (131), vi (3), vi ((G1) (131) 10)] (G1) (fun (G2 : XF) => (xPT (G2) → xW X d 147 43 [.ref (131), vi (y1)] [] (G2) (xqv Q))))))))))))) : xMV X d 147 [.ref (131)] F Q := by
  show xW X d 147 0 [.ref (131), xU0] [] F (xqv Q)
  exact s147_0 hPT  t

theorem s147_43 {X : List Int32} {d : Nat} {F : XF} {Q : XF → Prop} {x1 : Int} (hPT : xPT F)  (t : inR ((F) (131) 7) ∧ (((¬ ((F) (131) 7) = (0)) → (xPT (F) → Q (F))) ∧ (¬ (¬ ((F) (131) 7) = (0)) → ((0 ≤ ((108) + (x1)) ∧ ((108) + (x1)) < 163) ∧ (xPT (xup (F) (133) ((108) + (x1)) (1)) → Q (xup (F) (133) ((108) + (x1)) (1))))))) : xW X d 147 43 [.ref (131), vi (x1)] [] F (xqv Q) := by
  refine xw_aload_n (n := 44) (show xlook 147 43 = some (43, .aload_n 0, 1, 0, 0, 0, 0) from xlk (by decide +kernel)) rfl rfl ?_
  refine xw_geti (show xlook 147 44 = some (44, .getfield 76, 3, 12, 7, 0, 239) from xlk (by decide +kernel)) (by decide) (xobf xob_12 (by decide) (by decide)) rfl (n := 47) rfl ?_
  obtain ⟨q0, t⟩ := t
  refine xw_if_ne (n := 50) (m := 60) (show xlook 147 47 = some (47, .ifCond .ne 13, 3, 60, 0, 0, 0) from xlk (by decide +kernel)) rfl rfl q0 ⟨fun c => ?_, fun c => ?_⟩
  · replace t := t.1 c
    exact xw_return hPT (show xlook 147 60 = some (60, .return_, 1, 0, 0, 0, 0) from xlk (by decide +kernel)) rfl (t hPT)
  · replace t := t.2 c
    refine xw_aload_n (n := 51) (show xlook 147 50 = some (50, .aload_n 0, 1, 0, 0, 0, 0) from xlk (by decide +kernel)) rfl rfl ?_
    refine xw_getr (q := 133) (show xlook 147 51 = some (51, .getfield 17, 3, 12, 2, 0, 221) from xlk (by decide +kernel)) (by decide) (xobf xob_12 (by decide) (by decide)) rfl (xPT_get (k := 2) (f := 2) hPT xob_12 (by decide)) (by have := (xtg_12_2 _ xob_12.1 xob_12.2).1.1; omega) (n := 54) rfl ?_
    refine xw_bipush (n := 56) (show xlook 147 54 = some (54, .bipush 108, 2, 0, 0, 0, 0) from xlk (by decide +kernel)) rfl (by decide) ?_
    refine xw_iload_n (n := 57) (show xlook 147 56 = some (56, .iload_n 1, 1, 0, 0, 0, 0) from xlk (by decide +kernel)) rfl rfl ?_
    refine xw_iadd (n := 58) (show xlook 147 57 = some (57, .iadd, 1, 0, 0, 0, 0) from xlk (by decide +kernel)) rfl ?_
    refine xw_iconst (n := 59) (show xlook 147 58 = some (58, .iconst 1, 1, 0, 0, 0, 0) from xlk (by decide +kernel)) rfl ?_
    obtain ⟨q1, t⟩ := t
    refine xw_iast (show xlook 147 59 = some (59, .iastore, 1, 0, 0, 0, 0) from xlk (by decide +kernel)) (xtg_12_2 _ xob_12.1 xob_12.2).1 (by rw [(xtg_12_2 _ xob_12.1 xob_12.2).2]; exact q1) (n := 60) rfl ?_
    exact xw_return (xPT_arr hPT (Or.inl (xtg_12_2 _ xob_12.1 xob_12.2).1.2)) (show xlook 147 60 = some (60, .return_, 1, 0, 0, 0, 0) from xlk (by decide +kernel)) rfl (t (xPT_arr hPT (Or.inl (xtg_12_2 _ xob_12.1 xob_12.2).1.2)))

theorem s148_0 {X : List Int32} {d : Nat} {F : XF} {Q : XF → Prop} {x1 : Int} {w2 : Value} (hPT : xPT F)  (t : inR ((F) (133) 6) ∧ (((¬ ((F) (133) 6) = (4)) → (inR ((F) (133) 6) ∧ (((¬ ((F) (133) 6) = (0)) → ((0 ≤ (((138) + ((F) (133) 6)) - (1)) ∧ (((138) + ((F) (133) 6)) - (1)) < 163) ∧ (∃ (j1 : Nat), j1 < d ∧ xMI X j1 143 [.ref (131), vi (((F) (133) (((138) + ((F) (133) 6)) - (1))) + (1)), vi ((F) (133) 0)] (F) (fun (y1 : Int) (G1 : XF) => ((0 ≤ ((138) + ((F) (133) 6)) ∧ ((138) + ((F) (133) 6)) < 163) ∧ (xPT (xup (xup (G1) (133) ((138) + ((F) (133) 6)) (y1)) (133) 6 (((xup (G1) (133) ((138) + ((F) (133) 6)) (y1)) (133) 6) + (1))) → Q (xup (xup (G1) (133) ((138) + ((F) (133) 6)) (y1)) (133) 6 (((xup (G1) (133) ((138) + ((F) (133) 6)) (y1)) (133) 6) + (1))))))))) ∧ (¬ (¬ ((F) (133) 6) = (0)) → (∃ (j2 : Nat), j2 < d ∧ xMI X j2 143 [.ref (131), vi (1), vi ((F) (133) 0)] (F) (fun (y2 : Int) (G2 : XF) => ((0 ≤ ((138) + ((F) (133) 6)) ∧ ((138) + ((F) (133) 6)) < 163) ∧ (xPT (xup (xup (G2) (133) ((138) + ((F) (133) 6)) (y2)) (133) 6 (((xup (G2) (133) ((138) + ((F) (133) 6)) (y2)) (133) 6) + (1))) → Q (xup (xup (G2) (133) ((138) + ((F) (133) 6)) (y2)) (133) 6 (((xup (G2) (133) ((138) + ((F) (133) 6)) (y2)) (133) 6) + (1))))))))))) ∧ (¬ (¬ ((F) (133) 6) = (4)) → (∃ (j3 : Nat), j3 < d ∧ xMV X j3 137 [.ref (131), vi (3), vi (x1)] (F) (fun (G3 : XF) => (xPT (G3) → Q (G3))))))) : xW X d 148 0 [.ref (131), vi (x1), w2] [] F (xqv Q) := by
  refine xw_aload_n (n := 1) (show xlook 148 0 = some (0, .aload_n 0, 1, 0, 0, 0, 0) from xlk (by decide +kernel)) rfl rfl ?_
  refine xw_getr (q := 133) (show xlook 148 1 = some (1, .getfield 17, 3, 12, 2, 0, 221) from xlk (by decide +kernel)) (by decide) (xobf xob_12 (by decide) (by decide)) rfl (xPT_get (k := 2) (f := 2) hPT xob_12 (by decide)) (by have := (xtg_12_2 _ xob_12.1 xob_12.2).1.1; omega) (n := 4) rfl ?_
  refine xw_bipush (n := 6) (show xlook 148 4 = some (4, .bipush 6, 2, 0, 0, 0, 0) from xlk (by decide +kernel)) rfl (by decide) ?_
  refine xw_iald (show xlook 148 6 = some (6, .iaload, 1, 0, 0, 0, 0) from xlk (by decide +kernel)) (xtg_12_2 _ xob_12.1 xob_12.2).1 (by rw [(xtg_12_2 _ xob_12.1 xob_12.2).2]; decide) (n := 7) rfl ?_
  refine xw_istore_n (n := 8) (show xlook 148 7 = some (7, .istore_n 2, 1, 0, 0, 0, 0) from xlk (by decide +kernel)) rfl (ls' := [.ref (131), vi (x1), vi ((F) (133) 6)]) (Nat.le_of_ble_eq_true rfl) rfl ?_
  refine xw_iload_n (n := 9) (show xlook 148 8 = some (8, .iload_n 2, 1, 0, 0, 0, 0) from xlk (by decide +kernel)) rfl rfl ?_
  refine xw_iconst (n := 10) (show xlook 148 9 = some (9, .iconst 4, 1, 0, 0, 0, 0) from xlk (by decide +kernel)) rfl ?_
  obtain ⟨q0, t⟩ := t
  refine xw_icmp_ne (n := 13) (m := 20) (show xlook 148 10 = some (10, .if_icmp .ne 10, 3, 20, 0, 0, 0) from xlk (by decide +kernel)) rfl rfl q0 ⟨by decide, by decide⟩ ⟨fun c => ?_, fun c => ?_⟩
  · replace t := t.1 c
    refine xw_aload_n (n := 21) (show xlook 148 20 = some (20, .aload_n 0, 1, 0, 0, 0, 0) from xlk (by decide +kernel)) rfl rfl ?_
    refine xw_getr (q := 133) (show xlook 148 21 = some (21, .getfield 17, 3, 12, 2, 0, 221) from xlk (by decide +kernel)) (by decide) (xobf xob_12 (by decide) (by decide)) rfl (xPT_get (k := 2) (f := 2) hPT xob_12 (by decide)) (by have := (xtg_12_2 _ xob_12.1 xob_12.2).1.1; omega) (n := 24) rfl ?_
    refine xw_sipush (n := 27) (show xlook 148 24 = some (24, .sipush 138, 3, 0, 0, 0, 0) from xlk (by decide +kernel)) rfl (by decide) ?_
    refine xw_iload_n (n := 28) (show xlook 148 27 = some (27, .iload_n 2, 1, 0, 0, 0, 0) from xlk (by decide +kernel)) rfl rfl ?_
    refine xw_iadd (n := 29) (show xlook 148 28 = some (28, .iadd, 1, 0, 0, 0, 0) from xlk (by decide +kernel)) rfl ?_
    refine xw_aload_n (n := 30) (show xlook 148 29 = some (29, .aload_n 0, 1, 0, 0, 0, 0) from xlk (by decide +kernel)) rfl rfl ?_
    refine xw_iload_n (n := 31) (show xlook 148 30 = some (30, .iload_n 2, 1, 0, 0, 0, 0) from xlk (by decide +kernel)) rfl rfl ?_
    obtain ⟨q0, t⟩ := t
    refine xw_if_ne (n := 34) (m := 38) (show xlook 148 31 = some (31, .ifCond .ne 7, 3, 38, 0, 0, 0) from xlk (by decide +kernel)) rfl rfl q0 ⟨fun c => ?_, fun c => ?_⟩
    · replace t := t.1 c
      refine xw_aload_n (n := 39) (show xlook 148 38 = some (38, .aload_n 0, 1, 0, 0, 0, 0) from xlk (by decide +kernel)) rfl rfl ?_
      refine xw_getr (q := 133) (show xlook 148 39 = some (39, .getfield 17, 3, 12, 2, 0, 221) from xlk (by decide +kernel)) (by decide) (xobf xob_12 (by decide) (by decide)) rfl (xPT_get (k := 2) (f := 2) hPT xob_12 (by decide)) (by have := (xtg_12_2 _ xob_12.1 xob_12.2).1.1; omega) (n := 42) rfl ?_
      refine xw_sipush (n := 45) (show xlook 148 42 = some (42, .sipush 138, 3, 0, 0, 0, 0) from xlk (by decide +kernel)) rfl (by decide) ?_
      refine xw_iload_n (n := 46) (show xlook 148 45 = some (45, .iload_n 2, 1, 0, 0, 0, 0) from xlk (by decide +kernel)) rfl rfl ?_
      refine xw_iadd (n := 47) (show xlook 148 46 = some (46, .iadd, 1, 0, 0, 0, 0) from xlk (by decide +kernel)) rfl ?_
      refine xw_iconst (n := 48) (show xlook 148 47 = some (47, .iconst 1, 1, 0, 0, 0, 0) from xlk (by decide +kernel)) rfl ?_
      refine xw_isub (n := 49) (show xlook 148 48 = some (48, .isub, 1, 0, 0, 0, 0) from xlk (by decide +kernel)) rfl ?_
      obtain ⟨q1, t⟩ := t
      refine xw_iald (show xlook 148 49 = some (49, .iaload, 1, 0, 0, 0, 0) from xlk (by decide +kernel)) (xtg_12_2 _ xob_12.1 xob_12.2).1 (by rw [(xtg_12_2 _ xob_12.1 xob_12.2).2]; exact q1) (n := 50) rfl ?_
      refine xw_iconst (n := 51) (show xlook 148 50 = some (50, .iconst 1, 1, 0, 0, 0, 0) from xlk (by decide +kernel)) rfl ?_
      refine xw_iadd (n := 52) (show xlook 148 51 = some (51, .iadd, 1, 0, 0, 0, 0) from xlk (by decide +kernel)) rfl ?_
      refine xw_aload_n (n := 53) (show xlook 148 52 = some (52, .aload_n 0, 1, 0, 0, 0, 0) from xlk (by decide +kernel)) rfl rfl ?_
      refine xw_getr (q := 133) (show xlook 148 53 = some (53, .getfield 17, 3, 12, 2, 0, 221) from xlk (by decide +kernel)) (by decide) (xobf xob_12 (by decide) (by decide)) rfl (xPT_get (k := 2) (f := 2) hPT xob_12 (by decide)) (by have := (xtg_12_2 _ xob_12.1 xob_12.2).1.1; omega) (n := 56) rfl ?_
      refine xw_iconst (n := 57) (show xlook 148 56 = some (56, .iconst 0, 1, 0, 0, 0, 0) from xlk (by decide +kernel)) rfl ?_
      refine xw_iald (show xlook 148 57 = some (57, .iaload, 1, 0, 0, 0, 0) from xlk (by decide +kernel)) (xtg_12_2 _ xob_12.1 xob_12.2).1 (by rw [(xtg_12_2 _ xob_12.1 xob_12.2).2]; decide) (n := 58) rfl ?_
      obtain ⟨j1, hj1, rr1, G1, hm1, hG1, t⟩ := t
      obtain ⟨y1, rfl, t⟩ := t
      refine xw_callv (dk := j1) (o := 131) (as := [vi (((F) (133) (((138) + ((F) (133) 6)) - (1))) + (1)), vi ((F) (133) 0)]) (show xlook 148 58 = some (58, .invokevirtual 129, 3, 143, 3, 0, 161) from xlk (by decide +kernel)) (by decide) hj1 ⟨Nat.le_of_ble_eq_true rfl, Nat.le_of_ble_eq_true rfl, Nat.le_of_ble_eq_true rfl⟩ ⟨xob_12.1, xob_12.2, by decide⟩ rfl hm1 (n := 61) rfl ?_
      show xW X d 148 61 [.ref (131), vi (x1), vi ((F) (133) 6)] [vi (y1), vi ((138) + ((F) (133) 6)), .ref (133)] G1 (xqv Q)
      obtain ⟨q1, t⟩ := t
      refine xw_iast (show xlook 148 61 = some (61, .iastore, 1, 0, 0, 0, 0) from xlk (by decide +kernel)) (xtg_12_2 _ xob_12.1 xob_12.2).1 (by rw [(xtg_12_2 _ xob_12.1 xob_12.2).2]; exact q1) (n := 62) rfl ?_
      refine xw_aload_n (n := 63) (show xlook 148 62 = some (62, .aload_n 0, 1, 0, 0, 0, 0) from xlk (by decide +kernel)) rfl rfl ?_
      refine xw_getr (q := 133) (show xlook 148 63 = some (63, .getfield 17, 3, 12, 2, 0, 221) from xlk (by decide +kernel)) (by decide) (xobf xob_12 (by decide) (by decide)) rfl (xPT_get (k := 2) (f := 2) (xPT_arr hG1 (Or.inl (xtg_12_2 _ xob_12.1 xob_12.2).1.2)) xob_12 (by decide)) (by have := (xtg_12_2 _ xob_12.1 xob_12.2).1.1; omega) (n := 66) rfl ?_
      refine xw_bipush (n := 68) (show xlook 148 66 = some (66, .bipush 6, 2, 0, 0, 0, 0) from xlk (by decide +kernel)) rfl (by decide) ?_
      refine xw_dup2 (n := 69) (show xlook 148 68 = some (68, .dup2, 1, 0, 0, 0, 0) from xlk (by decide +kernel)) rfl ?_
      refine xw_iald (show xlook 148 69 = some (69, .iaload, 1, 0, 0, 0, 0) from xlk (by decide +kernel)) (xtg_12_2 _ xob_12.1 xob_12.2).1 (by rw [(xtg_12_2 _ xob_12.1 xob_12.2).2]; decide) (n := 70) rfl ?_
      refine xw_iconst (n := 71) (show xlook 148 70 = some (70, .iconst 1, 1, 0, 0, 0, 0) from xlk (by decide +kernel)) rfl ?_
      refine xw_iadd (n := 72) (show xlook 148 71 = some (71, .iadd, 1, 0, 0, 0, 0) from xlk (by decide +kernel)) rfl ?_
      refine xw_iast (show xlook 148 72 = some (72, .iastore, 1, 0, 0, 0, 0) from xlk (by decide +kernel)) (xtg_12_2 _ xob_12.1 xob_12.2).1 (by rw [(xtg_12_2 _ xob_12.1 xob_12.2).2]; decide) (n := 73) rfl ?_
      exact xw_return (xPT_arr (xPT_arr hG1 (Or.inl (xtg_12_2 _ xob_12.1 xob_12.2).1.2)) (Or.inl (xtg_12_2 _ xob_12.1 xob_12.2).1.2)) (show xlook 148 73 = some (73, .return_, 1, 0, 0, 0, 0) from xlk (by decide +kernel)) rfl (t (xPT_arr (xPT_arr hG1 (Or.inl (xtg_12_2 _ xob_12.1 xob_12.2).1.2)) (Or.inl (xtg_12_2 _ xob_12.1 xob_12.2).1.2)))
    · replace t := t.2 c
      refine xw_iconst (n := 35) (show xlook 148 34 = some (34, .iconst 1, 1, 0, 0, 0, 0) from xlk (by decide +kernel)) rfl ?_
      refine xw_goto (m := 52) (show xlook 148 35 = some (35, .goto 17, 3, 52, 0, 0, 0) from xlk (by decide +kernel)) rfl ?_
      refine xw_aload_n (n := 53) (show xlook 148 52 = some (52, .aload_n 0, 1, 0, 0, 0, 0) from xlk (by decide +kernel)) rfl rfl ?_
      refine xw_getr (q := 133) (show xlook 148 53 = some (53, .getfield 17, 3, 12, 2, 0, 221) from xlk (by decide +kernel)) (by decide) (xobf xob_12 (by decide) (by decide)) rfl (xPT_get (k := 2) (f := 2) hPT xob_12 (by decide)) (by have := (xtg_12_2 _ xob_12.1 xob_12.2).1.1; omega) (n := 56) rfl ?_
      refine xw_iconst (n := 57) (show xlook 148 56 = some (56, .iconst 0, 1, 0, 0, 0, 0) from xlk (by decide +kernel)) rfl ?_
      refine xw_iald (show xlook 148 57 = some (57, .iaload, 1, 0, 0, 0, 0) from xlk (by decide +kernel)) (xtg_12_2 _ xob_12.1 xob_12.2).1 (by rw [(xtg_12_2 _ xob_12.1 xob_12.2).2]; decide) (n := 58) rfl ?_
      obtain ⟨j2, hj2, rr2, G2, hm2, hG2, t⟩ := t
      obtain ⟨y2, rfl, t⟩ := t
      refine xw_callv (dk := j2) (o := 131) (as := [vi (1), vi ((F) (133) 0)]) (show xlook 148 58 = some (58, .invokevirtual 129, 3, 143, 3, 0, 161) from xlk (by decide +kernel)) (by decide) hj2 ⟨Nat.le_of_ble_eq_true rfl, Nat.le_of_ble_eq_true rfl, Nat.le_of_ble_eq_true rfl⟩ ⟨xob_12.1, xob_12.2, by decide⟩ rfl hm2 (n := 61) rfl ?_
      show xW X d 148 61 [.ref (131), vi (x1), vi ((F) (133) 6)] [vi (y2), vi ((138) + ((F) (133) 6)), .ref (133)] G2 (xqv Q)
      obtain ⟨q1, t⟩ := t
      refine xw_iast (show xlook 148 61 = some (61, .iastore, 1, 0, 0, 0, 0) from xlk (by decide +kernel)) (xtg_12_2 _ xob_12.1 xob_12.2).1 (by rw [(xtg_12_2 _ xob_12.1 xob_12.2).2]; exact q1) (n := 62) rfl ?_
      refine xw_aload_n (n := 63) (show xlook 148 62 = some (62, .aload_n 0, 1, 0, 0, 0, 0) from xlk (by decide +kernel)) rfl rfl ?_
      refine xw_getr (q := 133) (show xlook 148 63 = some (63, .getfield 17, 3, 12, 2, 0, 221) from xlk (by decide +kernel)) (by decide) (xobf xob_12 (by decide) (by decide)) rfl (xPT_get (k := 2) (f := 2) (xPT_arr hG2 (Or.inl (xtg_12_2 _ xob_12.1 xob_12.2).1.2)) xob_12 (by decide)) (by have := (xtg_12_2 _ xob_12.1 xob_12.2).1.1; omega) (n := 66) rfl ?_
      refine xw_bipush (n := 68) (show xlook 148 66 = some (66, .bipush 6, 2, 0, 0, 0, 0) from xlk (by decide +kernel)) rfl (by decide) ?_
      refine xw_dup2 (n := 69) (show xlook 148 68 = some (68, .dup2, 1, 0, 0, 0, 0) from xlk (by decide +kernel)) rfl ?_
      refine xw_iald (show xlook 148 69 = some (69, .iaload, 1, 0, 0, 0, 0) from xlk (by decide +kernel)) (xtg_12_2 _ xob_12.1 xob_12.2).1 (by rw [(xtg_12_2 _ xob_12.1 xob_12.2).2]; decide) (n := 70) rfl ?_
      refine xw_iconst (n := 71) (show xlook 148 70 = some (70, .iconst 1, 1, 0, 0, 0, 0) from xlk (by decide +kernel)) rfl ?_
      refine xw_iadd (n := 72) (show xlook 148 71 = some (71, .iadd, 1, 0, 0, 0, 0) from xlk (by decide +kernel)) rfl ?_
      refine xw_iast (show xlook 148 72 = some (72, .iastore, 1, 0, 0, 0, 0) from xlk (by decide +kernel)) (xtg_12_2 _ xob_12.1 xob_12.2).1 (by rw [(xtg_12_2 _ xob_12.1 xob_12.2).2]; decide) (n := 73) rfl ?_
      exact xw_return (xPT_arr (xPT_arr hG2 (Or.inl (xtg_12_2 _ xob_12.1 xob_12.2).1.2)) (Or.inl (xtg_12_2 _ xob_12.1 xob_12.2).1.2)) (show xlook 148 73 = some (73, .return_, 1, 0, 0, 0, 0) from xlk (by decide +kernel)) rfl (t (xPT_arr (xPT_arr hG2 (Or.inl (xtg_12_2 _ xob_12.1 xob_12.2).1.2)) (Or.inl (xtg_12_2 _ xob_12.1 xob_12.2).1.2)))
  · replace t := t.2 c
    refine xw_aload_n (n := 14) (show xlook 148 13 = some (13, .aload_n 0, 1, 0, 0, 0, 0) from xlk (by decide +kernel)) rfl rfl ?_
    refine xw_iconst (n := 15) (show xlook 148 14 = some (14, .iconst 3, 1, 0, 0, 0, 0) from xlk (by decide +kernel)) rfl ?_
    refine xw_iload_n (n := 16) (show xlook 148 15 = some (15, .iload_n 1, 1, 0, 0, 0, 0) from xlk (by decide +kernel)) rfl rfl ?_
    obtain ⟨j3, hj3, rr3, G3, hm3, hG3, t⟩ := t
    obtain ⟨rfl, t⟩ := t
    refine xw_callv (dk := j3) (o := 131) (as := [vi (3), vi (x1)]) (show xlook 148 16 = some (16, .invokevirtual 116, 3, 137, 3, 0, 158) from xlk (by decide +kernel)) (by decide) hj3 ⟨Nat.le_of_ble_eq_true rfl, Nat.le_of_ble_eq_true rfl, Nat.le_of_ble_eq_true rfl⟩ ⟨xob_12.1, xob_12.2, by decide⟩ rfl hm3 (n := 19) rfl ?_
    show xW X d 148 19 [.ref (131), vi (x1), vi ((F) (133) 6)] [] G3 (xqv Q)
    exact xw_return hG3 (show xlook 148 19 = some (19, .return_, 1, 0, 0, 0, 0) from xlk (by decide +kernel)) rfl (t hG3)
theorem m148 {X : List Int32} {d : Nat} {F : XF} {Q : XF → Prop} {x1 : Int} (hPT : xPT F)  (t : inR ((F) (133) 6) ∧ (((¬ ((F) (133) 6) = (4)) → (inR ((F) (133) 6) ∧ (((¬ ((F) (133) 6) = (0)) → ((0 ≤ (((138) + ((F) (133) 6)) - (1)) ∧ (((138) + ((F) (133) 6)) - (1)) < 163) ∧ (∃ (j1 : Nat), j1 < d ∧ xMI X j1 143 [.ref (131), vi (((F) (133) (((138) + ((F) (133) 6)) - (1))) + (1)), vi ((F) (133) 0)] (F) (fun (y1 : Int) (G1 : XF) => ((0 ≤ ((138) + ((F) (133) 6)) ∧ ((138) + ((F) (133) 6)) < 163) ∧ (xPT (xup (xup (G1) (133) ((138) + ((F) (133) 6)) (y1)) (133) 6 (((xup (G1) (133) ((138) + ((F) (133) 6)) (y1)) (133) 6) + (1))) → Q (xup (xup (G1) (133) ((138) + ((F) (133) 6)) (y1)) (133) 6 (((xup (G1) (133) ((138) + ((F) (133) 6)) (y1)) (133) 6) + (1))))))))) ∧ (¬ (¬ ((F) (133) 6) = (0)) → (∃ (j2 : Nat), j2 < d ∧ xMI X j2 143 [.ref (131), vi (1), vi ((F) (133) 0)] (F) (fun (y2 : Int) (G2 : XF) => ((0 ≤ ((138) + ((F) (133) 6)) ∧ ((138) + ((F) (133) 6)) < 163) ∧ (xPT (xup (xup (G2) (133) ((138) + ((F) (133) 6)) (y2)) (133) 6 (((xup (G2) (133) ((138) + ((F) (133) 6)) (y2)) (133) 6) + (1))) → Q (xup (xup (G2) (133) ((138) + ((F) (133) 6)) (y2)) (133) 6 (((xup (G2) (133) ((138) + ((F) (133) 6)) (y2)) (133) 6) + (1))))))))))) ∧ (¬ (¬ ((F) (133) 6) = (4)) → (∃ (j3 : Nat), j3 < d ∧ xMV X j3 137 [.ref (131), vi (3), vi (x1)] (F) (fun (G3 : XF) => (xPT (G3) → Q (G3))))))) : xMV X d 148 [.ref (131), vi (x1)] F Q := by
  show xW X d 148 0 [.ref (131), vi (x1), xU0] [] F (xqv Q)
  exact s148_0 hPT  t

theorem s149_0 {X : List Int32} {d : Nat} {F : XF} {Q : XF → Prop} {x1 : Int} {w2 : Value} (hPT : xPT F)  (t : inR ((F) (133) 7) ∧ (((¬ ((F) (133) 7) = (6)) → (∃ (j1 : Nat), j1 < d ∧ xMI X j1 143 [.ref (131), vi (0), vi (((F) (133) 5) - (1))] (F) (fun (y1 : Int) (G1 : XF) => ((0 ≤ ((142) + ((3) * ((F) (133) 7))) ∧ ((142) + ((3) * ((F) (133) 7))) < 163) ∧ (∃ (j2 : Nat), j2 < d ∧ xMI X j2 144 [.ref (131), vi (16), vi (0), vi (1999)] (xup (G1) (133) ((142) + ((3) * ((F) (133) 7))) (y1)) (fun (y2 : Int) (G2 : XF) => ((0 ≤ (((142) + ((3) * ((F) (133) 7))) + (1)) ∧ (((142) + ((3) * ((F) (133) 7))) + (1)) < 163) ∧ (∃ (j3 : Nat), j3 < d ∧ xMI X j3 144 [.ref (131), vi (17), vi (1), vi (500)] (xup (G2) (133) (((142) + ((3) * ((F) (133) 7))) + (1)) (y2)) (fun (y3 : Int) (G3 : XF) => ((0 ≤ (((142) + ((3) * ((F) (133) 7))) + (2)) ∧ (((142) + ((3) * ((F) (133) 7))) + (2)) < 163) ∧ (xPT (xup (xup (G3) (133) (((142) + ((3) * ((F) (133) 7))) + (2)) (y3)) (133) 7 (((xup (G3) (133) (((142) + ((3) * ((F) (133) 7))) + (2)) (y3)) (133) 7) + (1))) → Q (xup (xup (G3) (133) (((142) + ((3) * ((F) (133) 7))) + (2)) (y3)) (133) 7 (((xup (G3) (133) (((142) + ((3) * ((F) (133) 7))) + (2)) (y3)) (133) 7) + (1)))))))))))))) ∧ (¬ (¬ ((F) (133) 7) = (6)) → (∃ (j4 : Nat), j4 < d ∧ xMV X j4 137 [.ref (131), vi (3), vi (x1)] (F) (fun (G4 : XF) => (xPT (G4) → Q (G4))))))) : xW X d 149 0 [.ref (131), vi (x1), w2] [] F (xqv Q) := by
  refine xw_aload_n (n := 1) (show xlook 149 0 = some (0, .aload_n 0, 1, 0, 0, 0, 0) from xlk (by decide +kernel)) rfl rfl ?_
  refine xw_getr (q := 133) (show xlook 149 1 = some (1, .getfield 17, 3, 12, 2, 0, 221) from xlk (by decide +kernel)) (by decide) (xobf xob_12 (by decide) (by decide)) rfl (xPT_get (k := 2) (f := 2) hPT xob_12 (by decide)) (by have := (xtg_12_2 _ xob_12.1 xob_12.2).1.1; omega) (n := 4) rfl ?_
  refine xw_bipush (n := 6) (show xlook 149 4 = some (4, .bipush 7, 2, 0, 0, 0, 0) from xlk (by decide +kernel)) rfl (by decide) ?_
  refine xw_iald (show xlook 149 6 = some (6, .iaload, 1, 0, 0, 0, 0) from xlk (by decide +kernel)) (xtg_12_2 _ xob_12.1 xob_12.2).1 (by rw [(xtg_12_2 _ xob_12.1 xob_12.2).2]; decide) (n := 7) rfl ?_
  refine xw_istore_n (n := 8) (show xlook 149 7 = some (7, .istore_n 2, 1, 0, 0, 0, 0) from xlk (by decide +kernel)) rfl (ls' := [.ref (131), vi (x1), vi ((F) (133) 7)]) (Nat.le_of_ble_eq_true rfl) rfl ?_
  refine xw_iload_n (n := 9) (show xlook 149 8 = some (8, .iload_n 2, 1, 0, 0, 0, 0) from xlk (by decide +kernel)) rfl rfl ?_
  refine xw_bipush (n := 11) (show xlook 149 9 = some (9, .bipush 6, 2, 0, 0, 0, 0) from xlk (by decide +kernel)) rfl (by decide) ?_
  obtain ⟨q0, t⟩ := t
  refine xw_icmp_ne (n := 14) (m := 21) (show xlook 149 11 = some (11, .if_icmp .ne 10, 3, 21, 0, 0, 0) from xlk (by decide +kernel)) rfl rfl q0 ⟨by decide, by decide⟩ ⟨fun c => ?_, fun c => ?_⟩
  · replace t := t.1 c
    refine xw_aload_n (n := 22) (show xlook 149 21 = some (21, .aload_n 0, 1, 0, 0, 0, 0) from xlk (by decide +kernel)) rfl rfl ?_
    refine xw_getr (q := 133) (show xlook 149 22 = some (22, .getfield 17, 3, 12, 2, 0, 221) from xlk (by decide +kernel)) (by decide) (xobf xob_12 (by decide) (by decide)) rfl (xPT_get (k := 2) (f := 2) hPT xob_12 (by decide)) (by have := (xtg_12_2 _ xob_12.1 xob_12.2).1.1; omega) (n := 25) rfl ?_
    refine xw_sipush (n := 28) (show xlook 149 25 = some (25, .sipush 142, 3, 0, 0, 0, 0) from xlk (by decide +kernel)) rfl (by decide) ?_
    refine xw_iconst (n := 29) (show xlook 149 28 = some (28, .iconst 3, 1, 0, 0, 0, 0) from xlk (by decide +kernel)) rfl ?_
    refine xw_iload_n (n := 30) (show xlook 149 29 = some (29, .iload_n 2, 1, 0, 0, 0, 0) from xlk (by decide +kernel)) rfl rfl ?_
    refine xw_imul (n := 31) (show xlook 149 30 = some (30, .imul, 1, 0, 0, 0, 0) from xlk (by decide +kernel)) rfl ?_
    refine xw_iadd (n := 32) (show xlook 149 31 = some (31, .iadd, 1, 0, 0, 0, 0) from xlk (by decide +kernel)) rfl ?_
    refine xw_aload_n (n := 33) (show xlook 149 32 = some (32, .aload_n 0, 1, 0, 0, 0, 0) from xlk (by decide +kernel)) rfl rfl ?_
    refine xw_iconst (n := 34) (show xlook 149 33 = some (33, .iconst 0, 1, 0, 0, 0, 0) from xlk (by decide +kernel)) rfl ?_
    refine xw_aload_n (n := 35) (show xlook 149 34 = some (34, .aload_n 0, 1, 0, 0, 0, 0) from xlk (by decide +kernel)) rfl rfl ?_
    refine xw_getr (q := 133) (show xlook 149 35 = some (35, .getfield 17, 3, 12, 2, 0, 221) from xlk (by decide +kernel)) (by decide) (xobf xob_12 (by decide) (by decide)) rfl (xPT_get (k := 2) (f := 2) hPT xob_12 (by decide)) (by have := (xtg_12_2 _ xob_12.1 xob_12.2).1.1; omega) (n := 38) rfl ?_
    refine xw_iconst (n := 39) (show xlook 149 38 = some (38, .iconst 5, 1, 0, 0, 0, 0) from xlk (by decide +kernel)) rfl ?_
    refine xw_iald (show xlook 149 39 = some (39, .iaload, 1, 0, 0, 0, 0) from xlk (by decide +kernel)) (xtg_12_2 _ xob_12.1 xob_12.2).1 (by rw [(xtg_12_2 _ xob_12.1 xob_12.2).2]; decide) (n := 40) rfl ?_
    refine xw_iconst (n := 41) (show xlook 149 40 = some (40, .iconst 1, 1, 0, 0, 0, 0) from xlk (by decide +kernel)) rfl ?_
    refine xw_isub (n := 42) (show xlook 149 41 = some (41, .isub, 1, 0, 0, 0, 0) from xlk (by decide +kernel)) rfl ?_
    obtain ⟨j1, hj1, rr1, G1, hm1, hG1, t⟩ := t
    obtain ⟨y1, rfl, t⟩ := t
    refine xw_callv (dk := j1) (o := 131) (as := [vi (0), vi (((F) (133) 5) - (1))]) (show xlook 149 42 = some (42, .invokevirtual 129, 3, 143, 3, 0, 161) from xlk (by decide +kernel)) (by decide) hj1 ⟨Nat.le_of_ble_eq_true rfl, Nat.le_of_ble_eq_true rfl, Nat.le_of_ble_eq_true rfl⟩ ⟨xob_12.1, xob_12.2, by decide⟩ rfl hm1 (n := 45) rfl ?_
    show xW X d 149 45 [.ref (131), vi (x1), vi ((F) (133) 7)] [vi (y1), vi ((142) + ((3) * ((F) (133) 7))), .ref (133)] G1 (xqv Q)
    obtain ⟨q1, t⟩ := t
    refine xw_iast (show xlook 149 45 = some (45, .iastore, 1, 0, 0, 0, 0) from xlk (by decide +kernel)) (xtg_12_2 _ xob_12.1 xob_12.2).1 (by rw [(xtg_12_2 _ xob_12.1 xob_12.2).2]; exact q1) (n := 46) rfl ?_
    refine xw_aload_n (n := 47) (show xlook 149 46 = some (46, .aload_n 0, 1, 0, 0, 0, 0) from xlk (by decide +kernel)) rfl rfl ?_
    refine xw_getr (q := 133) (show xlook 149 47 = some (47, .getfield 17, 3, 12, 2, 0, 221) from xlk (by decide +kernel)) (by decide) (xobf xob_12 (by decide) (by decide)) rfl (xPT_get (k := 2) (f := 2) (xPT_arr hG1 (Or.inl (xtg_12_2 _ xob_12.1 xob_12.2).1.2)) xob_12 (by decide)) (by have := (xtg_12_2 _ xob_12.1 xob_12.2).1.1; omega) (n := 50) rfl ?_
    refine xw_sipush (n := 53) (show xlook 149 50 = some (50, .sipush 142, 3, 0, 0, 0, 0) from xlk (by decide +kernel)) rfl (by decide) ?_
    refine xw_iconst (n := 54) (show xlook 149 53 = some (53, .iconst 3, 1, 0, 0, 0, 0) from xlk (by decide +kernel)) rfl ?_
    refine xw_iload_n (n := 55) (show xlook 149 54 = some (54, .iload_n 2, 1, 0, 0, 0, 0) from xlk (by decide +kernel)) rfl rfl ?_
    refine xw_imul (n := 56) (show xlook 149 55 = some (55, .imul, 1, 0, 0, 0, 0) from xlk (by decide +kernel)) rfl ?_
    refine xw_iadd (n := 57) (show xlook 149 56 = some (56, .iadd, 1, 0, 0, 0, 0) from xlk (by decide +kernel)) rfl ?_
    refine xw_iconst (n := 58) (show xlook 149 57 = some (57, .iconst 1, 1, 0, 0, 0, 0) from xlk (by decide +kernel)) rfl ?_
    refine xw_iadd (n := 59) (show xlook 149 58 = some (58, .iadd, 1, 0, 0, 0, 0) from xlk (by decide +kernel)) rfl ?_
    refine xw_aload_n (n := 60) (show xlook 149 59 = some (59, .aload_n 0, 1, 0, 0, 0, 0) from xlk (by decide +kernel)) rfl rfl ?_
    refine xw_bipush (n := 62) (show xlook 149 60 = some (60, .bipush 16, 2, 0, 0, 0, 0) from xlk (by decide +kernel)) rfl (by decide) ?_
    refine xw_iconst (n := 63) (show xlook 149 62 = some (62, .iconst 0, 1, 0, 0, 0, 0) from xlk (by decide +kernel)) rfl ?_
    refine xw_sipush (n := 66) (show xlook 149 63 = some (63, .sipush 1999, 3, 0, 0, 0, 0) from xlk (by decide +kernel)) rfl (by decide) ?_
    obtain ⟨j2, hj2, rr2, G2, hm2, hG2, t⟩ := t
    obtain ⟨y2, rfl, t⟩ := t
    refine xw_callv (dk := j2) (o := 131) (as := [vi (16), vi (0), vi (1999)]) (show xlook 149 66 = some (66, .invokevirtual 133, 3, 144, 4, 0, 162) from xlk (by decide +kernel)) (by decide) hj2 ⟨Nat.le_of_ble_eq_true rfl, Nat.le_of_ble_eq_true rfl, Nat.le_of_ble_eq_true rfl⟩ ⟨xob_12.1, xob_12.2, by decide⟩ rfl hm2 (n := 69) rfl ?_
    show xW X d 149 69 [.ref (131), vi (x1), vi ((F) (133) 7)] [vi (y2), vi (((142) + ((3) * ((F) (133) 7))) + (1)), .ref (133)] G2 (xqv Q)
    obtain ⟨q1, t⟩ := t
    refine xw_iast (show xlook 149 69 = some (69, .iastore, 1, 0, 0, 0, 0) from xlk (by decide +kernel)) (xtg_12_2 _ xob_12.1 xob_12.2).1 (by rw [(xtg_12_2 _ xob_12.1 xob_12.2).2]; exact q1) (n := 70) rfl ?_
    refine xw_aload_n (n := 71) (show xlook 149 70 = some (70, .aload_n 0, 1, 0, 0, 0, 0) from xlk (by decide +kernel)) rfl rfl ?_
    refine xw_getr (q := 133) (show xlook 149 71 = some (71, .getfield 17, 3, 12, 2, 0, 221) from xlk (by decide +kernel)) (by decide) (xobf xob_12 (by decide) (by decide)) rfl (xPT_get (k := 2) (f := 2) (xPT_arr hG2 (Or.inl (xtg_12_2 _ xob_12.1 xob_12.2).1.2)) xob_12 (by decide)) (by have := (xtg_12_2 _ xob_12.1 xob_12.2).1.1; omega) (n := 74) rfl ?_
    refine xw_sipush (n := 77) (show xlook 149 74 = some (74, .sipush 142, 3, 0, 0, 0, 0) from xlk (by decide +kernel)) rfl (by decide) ?_
    refine xw_iconst (n := 78) (show xlook 149 77 = some (77, .iconst 3, 1, 0, 0, 0, 0) from xlk (by decide +kernel)) rfl ?_
    refine xw_iload_n (n := 79) (show xlook 149 78 = some (78, .iload_n 2, 1, 0, 0, 0, 0) from xlk (by decide +kernel)) rfl rfl ?_
    refine xw_imul (n := 80) (show xlook 149 79 = some (79, .imul, 1, 0, 0, 0, 0) from xlk (by decide +kernel)) rfl ?_
    refine xw_iadd (n := 81) (show xlook 149 80 = some (80, .iadd, 1, 0, 0, 0, 0) from xlk (by decide +kernel)) rfl ?_
    refine xw_iconst (n := 82) (show xlook 149 81 = some (81, .iconst 2, 1, 0, 0, 0, 0) from xlk (by decide +kernel)) rfl ?_
    refine xw_iadd (n := 83) (show xlook 149 82 = some (82, .iadd, 1, 0, 0, 0, 0) from xlk (by decide +kernel)) rfl ?_
    refine xw_aload_n (n := 84) (show xlook 149 83 = some (83, .aload_n 0, 1, 0, 0, 0, 0) from xlk (by decide +kernel)) rfl rfl ?_
    refine xw_bipush (n := 86) (show xlook 149 84 = some (84, .bipush 17, 2, 0, 0, 0, 0) from xlk (by decide +kernel)) rfl (by decide) ?_
    refine xw_iconst (n := 87) (show xlook 149 86 = some (86, .iconst 1, 1, 0, 0, 0, 0) from xlk (by decide +kernel)) rfl ?_
    refine xw_sipush (n := 90) (show xlook 149 87 = some (87, .sipush 500, 3, 0, 0, 0, 0) from xlk (by decide +kernel)) rfl (by decide) ?_
    obtain ⟨j3, hj3, rr3, G3, hm3, hG3, t⟩ := t
    obtain ⟨y3, rfl, t⟩ := t
    refine xw_callv (dk := j3) (o := 131) (as := [vi (17), vi (1), vi (500)]) (show xlook 149 90 = some (90, .invokevirtual 133, 3, 144, 4, 0, 162) from xlk (by decide +kernel)) (by decide) hj3 ⟨Nat.le_of_ble_eq_true rfl, Nat.le_of_ble_eq_true rfl, Nat.le_of_ble_eq_true rfl⟩ ⟨xob_12.1, xob_12.2, by decide⟩ rfl hm3 (n := 93) rfl ?_
    show xW X d 149 93 [.ref (131), vi (x1), vi ((F) (133) 7)] [vi (y3), vi (((142) + ((3) * ((F) (133) 7))) + (2)), .ref (133)] G3 (xqv Q)
    obtain ⟨q1, t⟩ := t
    refine xw_iast (show xlook 149 93 = some (93, .iastore, 1, 0, 0, 0, 0) from xlk (by decide +kernel)) (xtg_12_2 _ xob_12.1 xob_12.2).1 (by rw [(xtg_12_2 _ xob_12.1 xob_12.2).2]; exact q1) (n := 94) rfl ?_
    refine xw_aload_n (n := 95) (show xlook 149 94 = some (94, .aload_n 0, 1, 0, 0, 0, 0) from xlk (by decide +kernel)) rfl rfl ?_
    refine xw_getr (q := 133) (show xlook 149 95 = some (95, .getfield 17, 3, 12, 2, 0, 221) from xlk (by decide +kernel)) (by decide) (xobf xob_12 (by decide) (by decide)) rfl (xPT_get (k := 2) (f := 2) (xPT_arr hG3 (Or.inl (xtg_12_2 _ xob_12.1 xob_12.2).1.2)) xob_12 (by decide)) (by have := (xtg_12_2 _ xob_12.1 xob_12.2).1.1; omega) (n := 98) rfl ?_
    refine xw_bipush (n := 100) (show xlook 149 98 = some (98, .bipush 7, 2, 0, 0, 0, 0) from xlk (by decide +kernel)) rfl (by decide) ?_
    refine xw_dup2 (n := 101) (show xlook 149 100 = some (100, .dup2, 1, 0, 0, 0, 0) from xlk (by decide +kernel)) rfl ?_
    refine xw_iald (show xlook 149 101 = some (101, .iaload, 1, 0, 0, 0, 0) from xlk (by decide +kernel)) (xtg_12_2 _ xob_12.1 xob_12.2).1 (by rw [(xtg_12_2 _ xob_12.1 xob_12.2).2]; decide) (n := 102) rfl ?_
    refine xw_iconst (n := 103) (show xlook 149 102 = some (102, .iconst 1, 1, 0, 0, 0, 0) from xlk (by decide +kernel)) rfl ?_
    refine xw_iadd (n := 104) (show xlook 149 103 = some (103, .iadd, 1, 0, 0, 0, 0) from xlk (by decide +kernel)) rfl ?_
    refine xw_iast (show xlook 149 104 = some (104, .iastore, 1, 0, 0, 0, 0) from xlk (by decide +kernel)) (xtg_12_2 _ xob_12.1 xob_12.2).1 (by rw [(xtg_12_2 _ xob_12.1 xob_12.2).2]; decide) (n := 105) rfl ?_
    exact xw_return (xPT_arr (xPT_arr hG3 (Or.inl (xtg_12_2 _ xob_12.1 xob_12.2).1.2)) (Or.inl (xtg_12_2 _ xob_12.1 xob_12.2).1.2)) (show xlook 149 105 = some (105, .return_, 1, 0, 0, 0, 0) from xlk (by decide +kernel)) rfl (t (xPT_arr (xPT_arr hG3 (Or.inl (xtg_12_2 _ xob_12.1 xob_12.2).1.2)) (Or.inl (xtg_12_2 _ xob_12.1 xob_12.2).1.2)))
  · replace t := t.2 c
    refine xw_aload_n (n := 15) (show xlook 149 14 = some (14, .aload_n 0, 1, 0, 0, 0, 0) from xlk (by decide +kernel)) rfl rfl ?_
    refine xw_iconst (n := 16) (show xlook 149 15 = some (15, .iconst 3, 1, 0, 0, 0, 0) from xlk (by decide +kernel)) rfl ?_
    refine xw_iload_n (n := 17) (show xlook 149 16 = some (16, .iload_n 1, 1, 0, 0, 0, 0) from xlk (by decide +kernel)) rfl rfl ?_
    obtain ⟨j4, hj4, rr4, G4, hm4, hG4, t⟩ := t
    obtain ⟨rfl, t⟩ := t
    refine xw_callv (dk := j4) (o := 131) (as := [vi (3), vi (x1)]) (show xlook 149 17 = some (17, .invokevirtual 116, 3, 137, 3, 0, 158) from xlk (by decide +kernel)) (by decide) hj4 ⟨Nat.le_of_ble_eq_true rfl, Nat.le_of_ble_eq_true rfl, Nat.le_of_ble_eq_true rfl⟩ ⟨xob_12.1, xob_12.2, by decide⟩ rfl hm4 (n := 20) rfl ?_
    show xW X d 149 20 [.ref (131), vi (x1), vi ((F) (133) 7)] [] G4 (xqv Q)
    exact xw_return hG4 (show xlook 149 20 = some (20, .return_, 1, 0, 0, 0, 0) from xlk (by decide +kernel)) rfl (t hG4)
theorem m149 {X : List Int32} {d : Nat} {F : XF} {Q : XF → Prop} {x1 : Int} (hPT : xPT F)  (t : inR ((F) (133) 7) ∧ (((¬ ((F) (133) 7) = (6)) → (∃ (j1 : Nat), j1 < d ∧ xMI X j1 143 [.ref (131), vi (0), vi (((F) (133) 5) - (1))] (F) (fun (y1 : Int) (G1 : XF) => ((0 ≤ ((142) + ((3) * ((F) (133) 7))) ∧ ((142) + ((3) * ((F) (133) 7))) < 163) ∧ (∃ (j2 : Nat), j2 < d ∧ xMI X j2 144 [.ref (131), vi (16), vi (0), vi (1999)] (xup (G1) (133) ((142) + ((3) * ((F) (133) 7))) (y1)) (fun (y2 : Int) (G2 : XF) => ((0 ≤ (((142) + ((3) * ((F) (133) 7))) + (1)) ∧ (((142) + ((3) * ((F) (133) 7))) + (1)) < 163) ∧ (∃ (j3 : Nat), j3 < d ∧ xMI X j3 144 [.ref (131), vi (17), vi (1), vi (500)] (xup (G2) (133) (((142) + ((3) * ((F) (133) 7))) + (1)) (y2)) (fun (y3 : Int) (G3 : XF) => ((0 ≤ (((142) + ((3) * ((F) (133) 7))) + (2)) ∧ (((142) + ((3) * ((F) (133) 7))) + (2)) < 163) ∧ (xPT (xup (xup (G3) (133) (((142) + ((3) * ((F) (133) 7))) + (2)) (y3)) (133) 7 (((xup (G3) (133) (((142) + ((3) * ((F) (133) 7))) + (2)) (y3)) (133) 7) + (1))) → Q (xup (xup (G3) (133) (((142) + ((3) * ((F) (133) 7))) + (2)) (y3)) (133) 7 (((xup (G3) (133) (((142) + ((3) * ((F) (133) 7))) + (2)) (y3)) (133) 7) + (1)))))))))))))) ∧ (¬ (¬ ((F) (133) 7) = (6)) → (∃ (j4 : Nat), j4 < d ∧ xMV X j4 137 [.ref (131), vi (3), vi (x1)] (F) (fun (G4 : XF) => (xPT (G4) → Q (G4))))))) : xMV X d 149 [.ref (131), vi (x1)] F Q := by
  show xW X d 149 0 [.ref (131), vi (x1), xU0] [] F (xqv Q)
  exact s149_0 hPT  t

theorem s150_0 {X : List Int32} {d : Nat} {F : XF} {Q : XF → Prop} {w1 : Value} {w2 : Value} (hPT : xPT F)  (t : ∃ (j1 : Nat), j1 < d ∧ xMI X j1 140 [.ref (131)] (F) (fun (y1 : Int) (G1 : XF) => (inR (y1) ∧ ((((y1) = ((-1))) → (∃ (j2 : Nat), j2 < d ∧ xMV X j2 137 [.ref (131), vi (1), vi ((G1) (131) 6)] (G1) (fun (G2 : XF) => (xPT (G2) → xW X d 150 57 [.ref (131), vi (y1), vi ((G1) (131) 6)] [] (G2) (xqv Q))))) ∧ (¬ ((y1) = ((-1))) → (inR (y1) ∧ ((((8) < (y1)) → (∃ (j3 : Nat), j3 < d ∧ xMV X j3 137 [.ref (131), vi (1), vi ((G1) (131) 6)] (G1) (fun (G3 : XF) => (xPT (G3) → xW X d 150 57 [.ref (131), vi (y1), vi ((G1) (131) 6)] [] (G3) (xqv Q))))) ∧ (¬ ((8) < (y1)) → (inR (xand (xshr ((G1) (131) 9) (y1)) (1)) ∧ (((¬ (xand (xshr ((G1) (131) 9) (y1)) (1)) = (1)) → (xPT (G1) → xW X d 150 38 [.ref (131), vi (y1), vi ((G1) (131) 6)] [] (G1) (xqv Q))) ∧ (¬ (¬ (xand (xshr ((G1) (131) 9) (y1)) (1)) = (1)) → (inR (y1) ∧ ((((y1) ≤ (3)) → (∃ (j4 : Nat), j4 < d ∧ xMV X j4 137 [.ref (131), vi (1), vi ((G1) (131) 6)] (G1) (fun (G4 : XF) => (xPT (G4) → xW X d 150 57 [.ref (131), vi (y1), vi ((G1) (131) 6)] [] (G4) (xqv Q))))) ∧ (¬ ((y1) ≤ (3)) → (xPT (G1) → xW X d 150 38 [.ref (131), vi (y1), vi ((G1) (131) 6)] [] (G1) (xqv Q)))))))))))))))) : xW X d 150 0 [.ref (131), w1, w2] [] F (xqv Q) := by
  refine xw_aload_n (n := 1) (show xlook 150 0 = some (0, .aload_n 0, 1, 0, 0, 0, 0) from xlk (by decide +kernel)) rfl rfl ?_
  obtain ⟨j1, hj1, rr1, G1, hm1, hG1, t⟩ := t
  obtain ⟨y1, rfl, t⟩ := t
  refine xw_callv (dk := j1) (o := 131) (as := []) (show xlook 150 1 = some (1, .invokevirtual 110, 3, 140, 1, 0, 156) from xlk (by decide +kernel)) (by decide) hj1 ⟨Nat.le_of_ble_eq_true rfl, Nat.le_of_ble_eq_true rfl, Nat.le_of_ble_eq_true rfl⟩ ⟨xob_12.1, xob_12.2, by decide⟩ rfl hm1 (n := 4) rfl ?_
  show xW X d 150 4 [.ref (131), w1, w2] [vi (y1)] G1 (xqv Q)
  refine xw_istore_n (n := 5) (show xlook 150 4 = some (4, .istore_n 1, 1, 0, 0, 0, 0) from xlk (by decide +kernel)) rfl (ls' := [.ref (131), vi (y1), w2]) (Nat.le_of_ble_eq_true rfl) rfl ?_
  refine xw_aload_n (n := 6) (show xlook 150 5 = some (5, .aload_n 0, 1, 0, 0, 0, 0) from xlk (by decide +kernel)) rfl rfl ?_
  refine xw_geti (show xlook 150 6 = some (6, .getfield 70, 3, 12, 6, 0, 237) from xlk (by decide +kernel)) (by decide) (xobf xob_12 (by decide) (by decide)) rfl (n := 9) rfl ?_
  refine xw_istore_n (n := 10) (show xlook 150 9 = some (9, .istore_n 2, 1, 0, 0, 0, 0) from xlk (by decide +kernel)) rfl (ls' := [.ref (131), vi (y1), vi ((G1) (131) 6)]) (Nat.le_of_ble_eq_true rfl) rfl ?_
  refine xw_iload_n (n := 11) (show xlook 150 10 = some (10, .iload_n 1, 1, 0, 0, 0, 0) from xlk (by decide +kernel)) rfl rfl ?_
  refine xw_iconst (n := 12) (show xlook 150 11 = some (11, .iconst (-1), 1, 0, 0, 0, 0) from xlk (by decide +kernel)) rfl ?_
  obtain ⟨q0, t⟩ := t
  refine xw_icmp_eq (n := 15) (m := 51) (show xlook 150 12 = some (12, .if_icmp .eq 39, 3, 51, 0, 0, 0) from xlk (by decide +kernel)) rfl rfl q0 ⟨by decide, by decide⟩ ⟨fun c => ?_, fun c => ?_⟩
  · replace t := t.1 c
    refine xw_aload_n (n := 52) (show xlook 150 51 = some (51, .aload_n 0, 1, 0, 0, 0, 0) from xlk (by decide +kernel)) rfl rfl ?_
    refine xw_iconst (n := 53) (show xlook 150 52 = some (52, .iconst 1, 1, 0, 0, 0, 0) from xlk (by decide +kernel)) rfl ?_
    refine xw_iload_n (n := 54) (show xlook 150 53 = some (53, .iload_n 2, 1, 0, 0, 0, 0) from xlk (by decide +kernel)) rfl rfl ?_
    obtain ⟨j2, hj2, rr2, G2, hm2, hG2, t⟩ := t
    obtain ⟨rfl, t⟩ := t
    refine xw_callv (dk := j2) (o := 131) (as := [vi (1), vi ((G1) (131) 6)]) (show xlook 150 54 = some (54, .invokevirtual 116, 3, 137, 3, 0, 158) from xlk (by decide +kernel)) (by decide) hj2 ⟨Nat.le_of_ble_eq_true rfl, Nat.le_of_ble_eq_true rfl, Nat.le_of_ble_eq_true rfl⟩ ⟨xob_12.1, xob_12.2, by decide⟩ rfl hm2 (n := 57) rfl ?_
    show xW X d 150 57 [.ref (131), vi (y1), vi ((G1) (131) 6)] [] G2 (xqv Q)
    exact t hG2
  · replace t := t.2 c
    refine xw_iload_n (n := 16) (show xlook 150 15 = some (15, .iload_n 1, 1, 0, 0, 0, 0) from xlk (by decide +kernel)) rfl rfl ?_
    refine xw_bipush (n := 18) (show xlook 150 16 = some (16, .bipush 8, 2, 0, 0, 0, 0) from xlk (by decide +kernel)) rfl (by decide) ?_
    obtain ⟨q0, t⟩ := t
    refine xw_icmp_gt (n := 21) (m := 51) (show xlook 150 18 = some (18, .if_icmp .gt 33, 3, 51, 0, 0, 0) from xlk (by decide +kernel)) rfl rfl q0 ⟨by decide, by decide⟩ ⟨fun c => ?_, fun c => ?_⟩
    · replace t := t.1 c
      refine xw_aload_n (n := 52) (show xlook 150 51 = some (51, .aload_n 0, 1, 0, 0, 0, 0) from xlk (by decide +kernel)) rfl rfl ?_
      refine xw_iconst (n := 53) (show xlook 150 52 = some (52, .iconst 1, 1, 0, 0, 0, 0) from xlk (by decide +kernel)) rfl ?_
      refine xw_iload_n (n := 54) (show xlook 150 53 = some (53, .iload_n 2, 1, 0, 0, 0, 0) from xlk (by decide +kernel)) rfl rfl ?_
      obtain ⟨j3, hj3, rr3, G3, hm3, hG3, t⟩ := t
      obtain ⟨rfl, t⟩ := t
      refine xw_callv (dk := j3) (o := 131) (as := [vi (1), vi ((G1) (131) 6)]) (show xlook 150 54 = some (54, .invokevirtual 116, 3, 137, 3, 0, 158) from xlk (by decide +kernel)) (by decide) hj3 ⟨Nat.le_of_ble_eq_true rfl, Nat.le_of_ble_eq_true rfl, Nat.le_of_ble_eq_true rfl⟩ ⟨xob_12.1, xob_12.2, by decide⟩ rfl hm3 (n := 57) rfl ?_
      show xW X d 150 57 [.ref (131), vi (y1), vi ((G1) (131) 6)] [] G3 (xqv Q)
      exact t hG3
    · replace t := t.2 c
      refine xw_aload_n (n := 22) (show xlook 150 21 = some (21, .aload_n 0, 1, 0, 0, 0, 0) from xlk (by decide +kernel)) rfl rfl ?_
      refine xw_geti (show xlook 150 22 = some (22, .getfield 137, 3, 12, 9, 0, 241) from xlk (by decide +kernel)) (by decide) (xobf xob_12 (by decide) (by decide)) rfl (n := 25) rfl ?_
      refine xw_iload_n (n := 26) (show xlook 150 25 = some (25, .iload_n 1, 1, 0, 0, 0, 0) from xlk (by decide +kernel)) rfl rfl ?_
      refine xw_ishr (n := 27) (show xlook 150 26 = some (26, .ishr, 1, 0, 0, 0, 0) from xlk (by decide +kernel)) rfl ?_
      refine xw_iconst (n := 28) (show xlook 150 27 = some (27, .iconst 1, 1, 0, 0, 0, 0) from xlk (by decide +kernel)) rfl ?_
      refine xw_iand (n := 29) (show xlook 150 28 = some (28, .iand, 1, 0, 0, 0, 0) from xlk (by decide +kernel)) rfl ?_
      refine xw_iconst (n := 30) (show xlook 150 29 = some (29, .iconst 1, 1, 0, 0, 0, 0) from xlk (by decide +kernel)) rfl ?_
      obtain ⟨q0, t⟩ := t
      refine xw_icmp_ne (n := 33) (m := 38) (show xlook 150 30 = some (30, .if_icmp .ne 8, 3, 38, 0, 0, 0) from xlk (by decide +kernel)) rfl rfl q0 ⟨by decide, by decide⟩ ⟨fun c => ?_, fun c => ?_⟩
      · replace t := t.1 c
        exact t hG1
      · replace t := t.2 c
        refine xw_iload_n (n := 34) (show xlook 150 33 = some (33, .iload_n 1, 1, 0, 0, 0, 0) from xlk (by decide +kernel)) rfl rfl ?_
        refine xw_iconst (n := 35) (show xlook 150 34 = some (34, .iconst 3, 1, 0, 0, 0, 0) from xlk (by decide +kernel)) rfl ?_
        obtain ⟨q0, t⟩ := t
        refine xw_icmp_le (n := 38) (m := 51) (show xlook 150 35 = some (35, .if_icmp .le 16, 3, 51, 0, 0, 0) from xlk (by decide +kernel)) rfl rfl q0 ⟨by decide, by decide⟩ ⟨fun c => ?_, fun c => ?_⟩
        · replace t := t.1 c
          refine xw_aload_n (n := 52) (show xlook 150 51 = some (51, .aload_n 0, 1, 0, 0, 0, 0) from xlk (by decide +kernel)) rfl rfl ?_
          refine xw_iconst (n := 53) (show xlook 150 52 = some (52, .iconst 1, 1, 0, 0, 0, 0) from xlk (by decide +kernel)) rfl ?_
          refine xw_iload_n (n := 54) (show xlook 150 53 = some (53, .iload_n 2, 1, 0, 0, 0, 0) from xlk (by decide +kernel)) rfl rfl ?_
          obtain ⟨j4, hj4, rr4, G4, hm4, hG4, t⟩ := t
          obtain ⟨rfl, t⟩ := t
          refine xw_callv (dk := j4) (o := 131) (as := [vi (1), vi ((G1) (131) 6)]) (show xlook 150 54 = some (54, .invokevirtual 116, 3, 137, 3, 0, 158) from xlk (by decide +kernel)) (by decide) hj4 ⟨Nat.le_of_ble_eq_true rfl, Nat.le_of_ble_eq_true rfl, Nat.le_of_ble_eq_true rfl⟩ ⟨xob_12.1, xob_12.2, by decide⟩ rfl hm4 (n := 57) rfl ?_
          show xW X d 150 57 [.ref (131), vi (y1), vi ((G1) (131) 6)] [] G4 (xqv Q)
          exact t hG4
        · replace t := t.2 c
          exact t hG1
theorem m150 {X : List Int32} {d : Nat} {F : XF} {Q : XF → Prop}  (hPT : xPT F)  (t : ∃ (j1 : Nat), j1 < d ∧ xMI X j1 140 [.ref (131)] (F) (fun (y1 : Int) (G1 : XF) => (inR (y1) ∧ ((((y1) = ((-1))) → (∃ (j2 : Nat), j2 < d ∧ xMV X j2 137 [.ref (131), vi (1), vi ((G1) (131) 6)] (G1) (fun (G2 : XF) => (xPT (G2) → xW X d 150 57 [.ref (131), vi (y1), vi ((G1) (131) 6)] [] (G2) (xqv Q))))) ∧ (¬ ((y1) = ((-1))) → (inR (y1) ∧ ((((8) < (y1)) → (∃ (j3 : Nat), j3 < d ∧ xMV X j3 137 [.ref (131), vi (1), vi ((G1) (131) 6)] (G1) (fun (G3 : XF) => (xPT (G3) → xW X d 150 57 [.ref (131), vi (y1), vi ((G1) (131) 6)] [] (G3) (xqv Q))))) ∧ (¬ ((8) < (y1)) → (inR (xand (xshr ((G1) (131) 9) (y1)) (1)) ∧ (((¬ (xand (xshr ((G1) (131) 9) (y1)) (1)) = (1)) → (xPT (G1) → xW X d 150 38 [.ref (131), vi (y1), vi ((G1) (131) 6)] [] (G1) (xqv Q))) ∧ (¬ (¬ (xand (xshr ((G1) (131) 9) (y1)) (1)) = (1)) → (inR (y1) ∧ ((((y1) ≤ (3)) → (∃ (j4 : Nat), j4 < d ∧ xMV X j4 137 [.ref (131), vi (1), vi ((G1) (131) 6)] (G1) (fun (G4 : XF) => (xPT (G4) → xW X d 150 57 [.ref (131), vi (y1), vi ((G1) (131) 6)] [] (G4) (xqv Q))))) ∧ (¬ ((y1) ≤ (3)) → (xPT (G1) → xW X d 150 38 [.ref (131), vi (y1), vi ((G1) (131) 6)] [] (G1) (xqv Q)))))))))))))))) : xMV X d 150 [.ref (131)] F Q := by
  show xW X d 150 0 [.ref (131), xU0, xU0] [] F (xqv Q)
  exact s150_0 hPT  t

theorem s150_38 {X : List Int32} {d : Nat} {F : XF} {Q : XF → Prop} {x1 : Int} {x2 : Int} (hPT : xPT F)  (t : inR (x1) ∧ (((¬ (x1) = (0)) → (xPT (F) → xW X d 150 57 [.ref (131), vi (x1), vi (x2)] [] (F) (xqv Q))) ∧ (¬ (¬ (x1) = (0)) → (inR ((F) (131) 9) ∧ (((((F) (131) 9) ≤ (15)) → (xPT (F) → xW X d 150 57 [.ref (131), vi (x1), vi (x2)] [] (F) (xqv Q))) ∧ (¬ (((F) (131) 9) ≤ (15)) → (∃ (j1 : Nat), j1 < d ∧ xMV X j1 137 [.ref (131), vi (1), vi (x2)] (F) (fun (G1 : XF) => (xPT (G1) → xW X d 150 57 [.ref (131), vi (x1), vi (x2)] [] (G1) (xqv Q)))))))))) : xW X d 150 38 [.ref (131), vi (x1), vi (x2)] [] F (xqv Q) := by
  refine xw_iload_n (n := 39) (show xlook 150 38 = some (38, .iload_n 1, 1, 0, 0, 0, 0) from xlk (by decide +kernel)) rfl rfl ?_
  obtain ⟨q0, t⟩ := t
  refine xw_if_ne (n := 42) (m := 57) (show xlook 150 39 = some (39, .ifCond .ne 18, 3, 57, 0, 0, 0) from xlk (by decide +kernel)) rfl rfl q0 ⟨fun c => ?_, fun c => ?_⟩
  · replace t := t.1 c
    exact t hPT
  · replace t := t.2 c
    refine xw_aload_n (n := 43) (show xlook 150 42 = some (42, .aload_n 0, 1, 0, 0, 0, 0) from xlk (by decide +kernel)) rfl rfl ?_
    refine xw_geti (show xlook 150 43 = some (43, .getfield 137, 3, 12, 9, 0, 241) from xlk (by decide +kernel)) (by decide) (xobf xob_12 (by decide) (by decide)) rfl (n := 46) rfl ?_
    refine xw_bipush (n := 48) (show xlook 150 46 = some (46, .bipush 15, 2, 0, 0, 0, 0) from xlk (by decide +kernel)) rfl (by decide) ?_
    obtain ⟨q0, t⟩ := t
    refine xw_icmp_le (n := 51) (m := 57) (show xlook 150 48 = some (48, .if_icmp .le 9, 3, 57, 0, 0, 0) from xlk (by decide +kernel)) rfl rfl q0 ⟨by decide, by decide⟩ ⟨fun c => ?_, fun c => ?_⟩
    · replace t := t.1 c
      exact t hPT
    · replace t := t.2 c
      refine xw_aload_n (n := 52) (show xlook 150 51 = some (51, .aload_n 0, 1, 0, 0, 0, 0) from xlk (by decide +kernel)) rfl rfl ?_
      refine xw_iconst (n := 53) (show xlook 150 52 = some (52, .iconst 1, 1, 0, 0, 0, 0) from xlk (by decide +kernel)) rfl ?_
      refine xw_iload_n (n := 54) (show xlook 150 53 = some (53, .iload_n 2, 1, 0, 0, 0, 0) from xlk (by decide +kernel)) rfl rfl ?_
      obtain ⟨j1, hj1, rr1, G1, hm1, hG1, t⟩ := t
      obtain ⟨rfl, t⟩ := t
      refine xw_callv (dk := j1) (o := 131) (as := [vi (1), vi (x2)]) (show xlook 150 54 = some (54, .invokevirtual 116, 3, 137, 3, 0, 158) from xlk (by decide +kernel)) (by decide) hj1 ⟨Nat.le_of_ble_eq_true rfl, Nat.le_of_ble_eq_true rfl, Nat.le_of_ble_eq_true rfl⟩ ⟨xob_12.1, xob_12.2, by decide⟩ rfl hm1 (n := 57) rfl ?_
      show xW X d 150 57 [.ref (131), vi (x1), vi (x2)] [] G1 (xqv Q)
      exact t hG1

theorem s150_57 {X : List Int32} {d : Nat} {F : XF} {Q : XF → Prop} {x1 : Int} {x2 : Int} (hPT : xPT F)  (t : inR ((F) (131) 7) ∧ (((((F) (131) 7) = (0)) → (∃ (j1 : Nat), j1 < d ∧ xMV X j1 141 [.ref (131)] (xup (F) (131) 9 (xior ((F) (131) 9) (xshl (1) (x1)))) (fun (G1 : XF) => (inR (x1) ∧ ((x1 < 0 ∨ 7 < x1) → (∃ (j2 : Nat), j2 < d ∧ xMV X j2 149 [.ref (131), vi (x2)] (G1) (fun (G2 : XF) => (xPT (G2) → xW X d 150 230 [.ref (131), vi (x1), vi (x2)] [] (G2) (xqv Q))))) ∧ (((x1) = 0) → (∃ (j3 : Nat), j3 < d ∧ xMI X j3 143 [.ref (131), vi (10), vi (1000)] (G1) (fun (y3 : Int) (G3 : XF) => (xPT (xup (G3) (133) 0 (y3)) → xW X d 150 230 [.ref (131), vi (x1), vi (x2)] [] (xup (G3) (133) 0 (y3)) (xqv Q))))) ∧ (((x1) = 1) → (∃ (j4 : Nat), j4 < d ∧ xMI X j4 143 [.ref (131), vi (1), vi (50)] (G1) (fun (y4 : Int) (G4 : XF) => (xPT (xup (G4) (133) 1 (y4)) → xW X d 150 230 [.ref (131), vi (x1), vi (x2)] [] (xup (G4) (133) 1 (y4)) (xqv Q))))) ∧ (((x1) = 2) → (∃ (j5 : Nat), j5 < d ∧ xMI X j5 143 [.ref (131), vi (0), vi (50)] (G1) (fun (y5 : Int) (G5 : XF) => (xPT (xup (G5) (133) 2 (y5)) → xW X d 150 230 [.ref (131), vi (x1), vi (x2)] [] (xup (G5) (133) 2 (y5)) (xqv Q))))) ∧ (((x1) = 3) → (∃ (j6 : Nat), j6 < d ∧ xMI X j6 143 [.ref (131), vi (0), vi (999)] (G1) (fun (y6 : Int) (G6 : XF) => (xPT (xup (G6) (133) 3 (y6)) → xW X d 150 230 [.ref (131), vi (x1), vi (x2)] [] (xup (G6) (133) 3 (y6)) (xqv Q))))) ∧ (((x1) = 4) → (∃ (j7 : Nat), j7 < d ∧ xMV X j7 145 [.ref (131), vi (x2)] (G1) (fun (G7 : XF) => (xPT (G7) → xW X d 150 230 [.ref (131), vi (x1), vi (x2)] [] (G7) (xqv Q))))) ∧ (((x1) = 5) → (∃ (j8 : Nat), j8 < d ∧ xMV X j8 146 [.ref (131)] (G1) (fun (G8 : XF) => (xPT (G8) → xW X d 150 230 [.ref (131), vi (x1), vi (x2)] [] (G8) (xqv Q))))) ∧ (((x1) = 6) → (∃ (j9 : Nat), j9 < d ∧ xMV X j9 147 [.ref (131)] (G1) (fun (G9 : XF) => (xPT (G9) → xW X d 150 230 [.ref (131), vi (x1), vi (x2)] [] (G9) (xqv Q))))) ∧ (((x1) = 7) → (∃ (j10 : Nat), j10 < d ∧ xMV X j10 148 [.ref (131), vi (x2)] (G1) (fun (G10 : XF) => (xPT (G10) → xW X d 150 230 [.ref (131), vi (x1), vi (x2)] [] (G10) (xqv Q))))))))) ∧ (¬ (((F) (131) 7) = (0)) → (xPT (F) → Q (F))))) : xW X d 150 57 [.ref (131), vi (x1), vi (x2)] [] F (xqv Q) := by
  refine xw_aload_n (n := 58) (show xlook 150 57 = some (57, .aload_n 0, 1, 0, 0, 0, 0) from xlk (by decide +kernel)) rfl rfl ?_
  refine xw_geti (show xlook 150 58 = some (58, .getfield 76, 3, 12, 7, 0, 239) from xlk (by decide +kernel)) (by decide) (xobf xob_12 (by decide) (by decide)) rfl (n := 61) rfl ?_
  obtain ⟨q0, t⟩ := t
  refine xw_if_eq (n := 64) (m := 65) (show xlook 150 61 = some (61, .ifCond .eq 4, 3, 65, 0, 0, 0) from xlk (by decide +kernel)) rfl rfl q0 ⟨fun c => ?_, fun c => ?_⟩
  · replace t := t.1 c
    refine xw_aload_n (n := 66) (show xlook 150 65 = some (65, .aload_n 0, 1, 0, 0, 0, 0) from xlk (by decide +kernel)) rfl rfl ?_
    refine xw_dupr (n := 67) (show xlook 150 66 = some (66, .dup, 1, 0, 0, 0, 0) from xlk (by decide +kernel)) rfl ?_
    refine xw_geti (show xlook 150 67 = some (67, .getfield 137, 3, 12, 9, 0, 241) from xlk (by decide +kernel)) (by decide) (xobf xob_12 (by decide) (by decide)) rfl (n := 70) rfl ?_
    refine xw_iconst (n := 71) (show xlook 150 70 = some (70, .iconst 1, 1, 0, 0, 0, 0) from xlk (by decide +kernel)) rfl ?_
    refine xw_iload_n (n := 72) (show xlook 150 71 = some (71, .iload_n 1, 1, 0, 0, 0, 0) from xlk (by decide +kernel)) rfl rfl ?_
    refine xw_ishl (n := 73) (show xlook 150 72 = some (72, .ishl, 1, 0, 0, 0, 0) from xlk (by decide +kernel)) rfl ?_
    refine xw_ior (n := 74) (show xlook 150 73 = some (73, .ior, 1, 0, 0, 0, 0) from xlk (by decide +kernel)) rfl ?_
    refine xw_puti (show xlook 150 74 = some (74, .putfield 137, 3, 12, 9, 0, 241) from xlk (by decide +kernel)) (xobf xob_12 (by decide) (by decide)) rfl (n := 77) rfl ?_
    refine xw_aload_n (n := 78) (show xlook 150 77 = some (77, .aload_n 0, 1, 0, 0, 0, 0) from xlk (by decide +kernel)) rfl rfl ?_
    obtain ⟨j1, hj1, rr1, G1, hm1, hG1, t⟩ := t
    obtain ⟨rfl, t⟩ := t
    refine xw_callv (dk := j1) (o := 131) (as := []) (show xlook 150 78 = some (78, .invokevirtual 113, 3, 141, 1, 0, 157) from xlk (by decide +kernel)) (by decide) hj1 ⟨Nat.le_of_ble_eq_true rfl, Nat.le_of_ble_eq_true rfl, Nat.le_of_ble_eq_true rfl⟩ ⟨xob_12.1, xob_12.2, by decide⟩ rfl hm1 (n := 81) rfl ?_
    show xW X d 150 81 [.ref (131), vi (x1), vi (x2)] [] G1 (xqv Q)
    refine xw_iload_n (n := 82) (show xlook 150 81 = some (81, .iload_n 1, 1, 0, 0, 0, 0) from xlk (by decide +kernel)) rfl rfl ?_
    obtain ⟨q1, td, u0, u1, u2, u3, u4, u5, u6, u7⟩ := t
    by_cases hq : (x1 < 0 ∨ 7 < x1)
    · replace t := td hq
      refine xw_tabOut (t := 225) (show xlook 150 82 = some (82, .tableswitch 143 0 7 #[46, 64, 80, 96, 113, 121, 128, 135], 46, 0, 0, 0, 0) from xlk (by decide +kernel)) q1 hq rfl ?_
      refine xw_aload_n (n := 226) (show xlook 150 225 = some (225, .aload_n 0, 1, 0, 0, 0, 0) from xlk (by decide +kernel)) rfl rfl ?_
      refine xw_iload_n (n := 227) (show xlook 150 226 = some (226, .iload_n 2, 1, 0, 0, 0, 0) from xlk (by decide +kernel)) rfl rfl ?_
      obtain ⟨j2, hj2, rr2, G2, hm2, hG2, t⟩ := t
      obtain ⟨rfl, t⟩ := t
      refine xw_callv (dk := j2) (o := 131) (as := [vi (x2)]) (show xlook 150 227 = some (227, .invokevirtual 152, 3, 149, 2, 0, 167) from xlk (by decide +kernel)) (by decide) hj2 ⟨Nat.le_of_ble_eq_true rfl, Nat.le_of_ble_eq_true rfl, Nat.le_of_ble_eq_true rfl⟩ ⟨xob_12.1, xob_12.2, by decide⟩ rfl hm2 (n := 230) rfl ?_
      show xW X d 150 230 [.ref (131), vi (x1), vi (x2)] [] G2 (xqv Q)
      exact t hG2
    rcases (show (x1) = 0 ∨ (x1) = 1 ∨ (x1) = 2 ∨ (x1) = 3 ∨ (x1) = 4 ∨ (x1) = 5 ∨ (x1) = 6 ∨ (x1) = 7 by omega) with e | e | e | e | e | e | e | e
    · replace t := u0 e
      refine xw_tabIn (off := 46) (t := 128) (show xlook 150 82 = some (82, .tableswitch 143 0 7 #[46, 64, 80, 96, 113, 121, 128, 135], 46, 0, 0, 0, 0) from xlk (by decide +kernel)) q1 hq (by show (#[46, 64, 80, 96, 113, 121, 128, 135] : Array Int)[((x1 : Int) - (0)).toNat]? = some (46); rw [e]; rfl) rfl ?_
      refine xw_aload_n (n := 129) (show xlook 150 128 = some (128, .aload_n 0, 1, 0, 0, 0, 0) from xlk (by decide +kernel)) rfl rfl ?_
      refine xw_getr (q := 133) (show xlook 150 129 = some (129, .getfield 17, 3, 12, 2, 0, 221) from xlk (by decide +kernel)) (by decide) (xobf xob_12 (by decide) (by decide)) rfl (xPT_get (k := 2) (f := 2) hG1 xob_12 (by decide)) (by have := (xtg_12_2 _ xob_12.1 xob_12.2).1.1; omega) (n := 132) rfl ?_
      refine xw_iconst (n := 133) (show xlook 150 132 = some (132, .iconst 0, 1, 0, 0, 0, 0) from xlk (by decide +kernel)) rfl ?_
      refine xw_aload_n (n := 134) (show xlook 150 133 = some (133, .aload_n 0, 1, 0, 0, 0, 0) from xlk (by decide +kernel)) rfl rfl ?_
      refine xw_bipush (n := 136) (show xlook 150 134 = some (134, .bipush 10, 2, 0, 0, 0, 0) from xlk (by decide +kernel)) rfl (by decide) ?_
      refine xw_sipush (n := 139) (show xlook 150 136 = some (136, .sipush 1000, 3, 0, 0, 0, 0) from xlk (by decide +kernel)) rfl (by decide) ?_
      obtain ⟨j3, hj3, rr3, G3, hm3, hG3, t⟩ := t
      obtain ⟨y3, rfl, t⟩ := t
      refine xw_callv (dk := j3) (o := 131) (as := [vi (10), vi (1000)]) (show xlook 150 139 = some (139, .invokevirtual 129, 3, 143, 3, 0, 161) from xlk (by decide +kernel)) (by decide) hj3 ⟨Nat.le_of_ble_eq_true rfl, Nat.le_of_ble_eq_true rfl, Nat.le_of_ble_eq_true rfl⟩ ⟨xob_12.1, xob_12.2, by decide⟩ rfl hm3 (n := 142) rfl ?_
      show xW X d 150 142 [.ref (131), vi (x1), vi (x2)] [vi (y3), vi (0), .ref (133)] G3 (xqv Q)
      refine xw_iast (show xlook 150 142 = some (142, .iastore, 1, 0, 0, 0, 0) from xlk (by decide +kernel)) (xtg_12_2 _ xob_12.1 xob_12.2).1 (by rw [(xtg_12_2 _ xob_12.1 xob_12.2).2]; decide) (n := 143) rfl ?_
      refine xw_goto (m := 230) (show xlook 150 143 = some (143, .goto 87, 3, 230, 0, 0, 0) from xlk (by decide +kernel)) rfl ?_
      exact t (xPT_arr hG3 (Or.inl (xtg_12_2 _ xob_12.1 xob_12.2).1.2))
    · replace t := u1 e
      refine xw_tabIn (off := 64) (t := 146) (show xlook 150 82 = some (82, .tableswitch 143 0 7 #[46, 64, 80, 96, 113, 121, 128, 135], 46, 0, 0, 0, 0) from xlk (by decide +kernel)) q1 hq (by show (#[46, 64, 80, 96, 113, 121, 128, 135] : Array Int)[((x1 : Int) - (0)).toNat]? = some (64); rw [e]; rfl) rfl ?_
      refine xw_aload_n (n := 147) (show xlook 150 146 = some (146, .aload_n 0, 1, 0, 0, 0, 0) from xlk (by decide +kernel)) rfl rfl ?_
      refine xw_getr (q := 133) (show xlook 150 147 = some (147, .getfield 17, 3, 12, 2, 0, 221) from xlk (by decide +kernel)) (by decide) (xobf xob_12 (by decide) (by decide)) rfl (xPT_get (k := 2) (f := 2) hG1 xob_12 (by decide)) (by have := (xtg_12_2 _ xob_12.1 xob_12.2).1.1; omega) (n := 150) rfl ?_
      refine xw_iconst (n := 151) (show xlook 150 150 = some (150, .iconst 1, 1, 0, 0, 0, 0) from xlk (by decide +kernel)) rfl ?_
      refine xw_aload_n (n := 152) (show xlook 150 151 = some (151, .aload_n 0, 1, 0, 0, 0, 0) from xlk (by decide +kernel)) rfl rfl ?_
      refine xw_iconst (n := 153) (show xlook 150 152 = some (152, .iconst 1, 1, 0, 0, 0, 0) from xlk (by decide +kernel)) rfl ?_
      refine xw_bipush (n := 155) (show xlook 150 153 = some (153, .bipush 50, 2, 0, 0, 0, 0) from xlk (by decide +kernel)) rfl (by decide) ?_
      obtain ⟨j4, hj4, rr4, G4, hm4, hG4, t⟩ := t
      obtain ⟨y4, rfl, t⟩ := t
      refine xw_callv (dk := j4) (o := 131) (as := [vi (1), vi (50)]) (show xlook 150 155 = some (155, .invokevirtual 129, 3, 143, 3, 0, 161) from xlk (by decide +kernel)) (by decide) hj4 ⟨Nat.le_of_ble_eq_true rfl, Nat.le_of_ble_eq_true rfl, Nat.le_of_ble_eq_true rfl⟩ ⟨xob_12.1, xob_12.2, by decide⟩ rfl hm4 (n := 158) rfl ?_
      show xW X d 150 158 [.ref (131), vi (x1), vi (x2)] [vi (y4), vi (1), .ref (133)] G4 (xqv Q)
      refine xw_iast (show xlook 150 158 = some (158, .iastore, 1, 0, 0, 0, 0) from xlk (by decide +kernel)) (xtg_12_2 _ xob_12.1 xob_12.2).1 (by rw [(xtg_12_2 _ xob_12.1 xob_12.2).2]; decide) (n := 159) rfl ?_
      refine xw_goto (m := 230) (show xlook 150 159 = some (159, .goto 71, 3, 230, 0, 0, 0) from xlk (by decide +kernel)) rfl ?_
      exact t (xPT_arr hG4 (Or.inl (xtg_12_2 _ xob_12.1 xob_12.2).1.2))
    · replace t := u2 e
      refine xw_tabIn (off := 80) (t := 162) (show xlook 150 82 = some (82, .tableswitch 143 0 7 #[46, 64, 80, 96, 113, 121, 128, 135], 46, 0, 0, 0, 0) from xlk (by decide +kernel)) q1 hq (by show (#[46, 64, 80, 96, 113, 121, 128, 135] : Array Int)[((x1 : Int) - (0)).toNat]? = some (80); rw [e]; rfl) rfl ?_
      refine xw_aload_n (n := 163) (show xlook 150 162 = some (162, .aload_n 0, 1, 0, 0, 0, 0) from xlk (by decide +kernel)) rfl rfl ?_
      refine xw_getr (q := 133) (show xlook 150 163 = some (163, .getfield 17, 3, 12, 2, 0, 221) from xlk (by decide +kernel)) (by decide) (xobf xob_12 (by decide) (by decide)) rfl (xPT_get (k := 2) (f := 2) hG1 xob_12 (by decide)) (by have := (xtg_12_2 _ xob_12.1 xob_12.2).1.1; omega) (n := 166) rfl ?_
      refine xw_iconst (n := 167) (show xlook 150 166 = some (166, .iconst 2, 1, 0, 0, 0, 0) from xlk (by decide +kernel)) rfl ?_
      refine xw_aload_n (n := 168) (show xlook 150 167 = some (167, .aload_n 0, 1, 0, 0, 0, 0) from xlk (by decide +kernel)) rfl rfl ?_
      refine xw_iconst (n := 169) (show xlook 150 168 = some (168, .iconst 0, 1, 0, 0, 0, 0) from xlk (by decide +kernel)) rfl ?_
      refine xw_bipush (n := 171) (show xlook 150 169 = some (169, .bipush 50, 2, 0, 0, 0, 0) from xlk (by decide +kernel)) rfl (by decide) ?_
      obtain ⟨j5, hj5, rr5, G5, hm5, hG5, t⟩ := t
      obtain ⟨y5, rfl, t⟩ := t
      refine xw_callv (dk := j5) (o := 131) (as := [vi (0), vi (50)]) (show xlook 150 171 = some (171, .invokevirtual 129, 3, 143, 3, 0, 161) from xlk (by decide +kernel)) (by decide) hj5 ⟨Nat.le_of_ble_eq_true rfl, Nat.le_of_ble_eq_true rfl, Nat.le_of_ble_eq_true rfl⟩ ⟨xob_12.1, xob_12.2, by decide⟩ rfl hm5 (n := 174) rfl ?_
      show xW X d 150 174 [.ref (131), vi (x1), vi (x2)] [vi (y5), vi (2), .ref (133)] G5 (xqv Q)
      refine xw_iast (show xlook 150 174 = some (174, .iastore, 1, 0, 0, 0, 0) from xlk (by decide +kernel)) (xtg_12_2 _ xob_12.1 xob_12.2).1 (by rw [(xtg_12_2 _ xob_12.1 xob_12.2).2]; decide) (n := 175) rfl ?_
      refine xw_goto (m := 230) (show xlook 150 175 = some (175, .goto 55, 3, 230, 0, 0, 0) from xlk (by decide +kernel)) rfl ?_
      exact t (xPT_arr hG5 (Or.inl (xtg_12_2 _ xob_12.1 xob_12.2).1.2))
    · replace t := u3 e
      refine xw_tabIn (off := 96) (t := 178) (show xlook 150 82 = some (82, .tableswitch 143 0 7 #[46, 64, 80, 96, 113, 121, 128, 135], 46, 0, 0, 0, 0) from xlk (by decide +kernel)) q1 hq (by show (#[46, 64, 80, 96, 113, 121, 128, 135] : Array Int)[((x1 : Int) - (0)).toNat]? = some (96); rw [e]; rfl) rfl ?_
      refine xw_aload_n (n := 179) (show xlook 150 178 = some (178, .aload_n 0, 1, 0, 0, 0, 0) from xlk (by decide +kernel)) rfl rfl ?_
      refine xw_getr (q := 133) (show xlook 150 179 = some (179, .getfield 17, 3, 12, 2, 0, 221) from xlk (by decide +kernel)) (by decide) (xobf xob_12 (by decide) (by decide)) rfl (xPT_get (k := 2) (f := 2) hG1 xob_12 (by decide)) (by have := (xtg_12_2 _ xob_12.1 xob_12.2).1.1; omega) (n := 182) rfl ?_
      refine xw_iconst (n := 183) (show xlook 150 182 = some (182, .iconst 3, 1, 0, 0, 0, 0) from xlk (by decide +kernel)) rfl ?_
      refine xw_aload_n (n := 184) (show xlook 150 183 = some (183, .aload_n 0, 1, 0, 0, 0, 0) from xlk (by decide +kernel)) rfl rfl ?_
      refine xw_iconst (n := 185) (show xlook 150 184 = some (184, .iconst 0, 1, 0, 0, 0, 0) from xlk (by decide +kernel)) rfl ?_
      refine xw_sipush (n := 188) (show xlook 150 185 = some (185, .sipush 999, 3, 0, 0, 0, 0) from xlk (by decide +kernel)) rfl (by decide) ?_
      obtain ⟨j6, hj6, rr6, G6, hm6, hG6, t⟩ := t
      obtain ⟨y6, rfl, t⟩ := t
      refine xw_callv (dk := j6) (o := 131) (as := [vi (0), vi (999)]) (show xlook 150 188 = some (188, .invokevirtual 129, 3, 143, 3, 0, 161) from xlk (by decide +kernel)) (by decide) hj6 ⟨Nat.le_of_ble_eq_true rfl, Nat.le_of_ble_eq_true rfl, Nat.le_of_ble_eq_true rfl⟩ ⟨xob_12.1, xob_12.2, by decide⟩ rfl hm6 (n := 191) rfl ?_
      show xW X d 150 191 [.ref (131), vi (x1), vi (x2)] [vi (y6), vi (3), .ref (133)] G6 (xqv Q)
      refine xw_iast (show xlook 150 191 = some (191, .iastore, 1, 0, 0, 0, 0) from xlk (by decide +kernel)) (xtg_12_2 _ xob_12.1 xob_12.2).1 (by rw [(xtg_12_2 _ xob_12.1 xob_12.2).2]; decide) (n := 192) rfl ?_
      refine xw_goto (m := 230) (show xlook 150 192 = some (192, .goto 38, 3, 230, 0, 0, 0) from xlk (by decide +kernel)) rfl ?_
      exact t (xPT_arr hG6 (Or.inl (xtg_12_2 _ xob_12.1 xob_12.2).1.2))
    · replace t := u4 e
      refine xw_tabIn (off := 113) (t := 195) (show xlook 150 82 = some (82, .tableswitch 143 0 7 #[46, 64, 80, 96, 113, 121, 128, 135], 46, 0, 0, 0, 0) from xlk (by decide +kernel)) q1 hq (by show (#[46, 64, 80, 96, 113, 121, 128, 135] : Array Int)[((x1 : Int) - (0)).toNat]? = some (113); rw [e]; rfl) rfl ?_
      refine xw_aload_n (n := 196) (show xlook 150 195 = some (195, .aload_n 0, 1, 0, 0, 0, 0) from xlk (by decide +kernel)) rfl rfl ?_
      refine xw_iload_n (n := 197) (show xlook 150 196 = some (196, .iload_n 2, 1, 0, 0, 0, 0) from xlk (by decide +kernel)) rfl rfl ?_
      obtain ⟨j7, hj7, rr7, G7, hm7, hG7, t⟩ := t
      obtain ⟨rfl, t⟩ := t
      refine xw_callv (dk := j7) (o := 131) (as := [vi (x2)]) (show xlook 150 197 = some (197, .invokevirtual 140, 3, 145, 2, 0, 163) from xlk (by decide +kernel)) (by decide) hj7 ⟨Nat.le_of_ble_eq_true rfl, Nat.le_of_ble_eq_true rfl, Nat.le_of_ble_eq_true rfl⟩ ⟨xob_12.1, xob_12.2, by decide⟩ rfl hm7 (n := 200) rfl ?_
      show xW X d 150 200 [.ref (131), vi (x1), vi (x2)] [] G7 (xqv Q)
      refine xw_goto (m := 230) (show xlook 150 200 = some (200, .goto 30, 3, 230, 0, 0, 0) from xlk (by decide +kernel)) rfl ?_
      exact t hG7
    · replace t := u5 e
      refine xw_tabIn (off := 121) (t := 203) (show xlook 150 82 = some (82, .tableswitch 143 0 7 #[46, 64, 80, 96, 113, 121, 128, 135], 46, 0, 0, 0, 0) from xlk (by decide +kernel)) q1 hq (by show (#[46, 64, 80, 96, 113, 121, 128, 135] : Array Int)[((x1 : Int) - (0)).toNat]? = some (121); rw [e]; rfl) rfl ?_
      refine xw_aload_n (n := 204) (show xlook 150 203 = some (203, .aload_n 0, 1, 0, 0, 0, 0) from xlk (by decide +kernel)) rfl rfl ?_
      obtain ⟨j8, hj8, rr8, G8, hm8, hG8, t⟩ := t
      obtain ⟨rfl, t⟩ := t
      refine xw_callv (dk := j8) (o := 131) (as := []) (show xlook 150 204 = some (204, .invokevirtual 143, 3, 146, 1, 0, 164) from xlk (by decide +kernel)) (by decide) hj8 ⟨Nat.le_of_ble_eq_true rfl, Nat.le_of_ble_eq_true rfl, Nat.le_of_ble_eq_true rfl⟩ ⟨xob_12.1, xob_12.2, by decide⟩ rfl hm8 (n := 207) rfl ?_
      show xW X d 150 207 [.ref (131), vi (x1), vi (x2)] [] G8 (xqv Q)
      refine xw_goto (m := 230) (show xlook 150 207 = some (207, .goto 23, 3, 230, 0, 0, 0) from xlk (by decide +kernel)) rfl ?_
      exact t hG8
    · replace t := u6 e
      refine xw_tabIn (off := 128) (t := 210) (show xlook 150 82 = some (82, .tableswitch 143 0 7 #[46, 64, 80, 96, 113, 121, 128, 135], 46, 0, 0, 0, 0) from xlk (by decide +kernel)) q1 hq (by show (#[46, 64, 80, 96, 113, 121, 128, 135] : Array Int)[((x1 : Int) - (0)).toNat]? = some (128); rw [e]; rfl) rfl ?_
      refine xw_aload_n (n := 211) (show xlook 150 210 = some (210, .aload_n 0, 1, 0, 0, 0, 0) from xlk (by decide +kernel)) rfl rfl ?_
      obtain ⟨j9, hj9, rr9, G9, hm9, hG9, t⟩ := t
      obtain ⟨rfl, t⟩ := t
      refine xw_callv (dk := j9) (o := 131) (as := []) (show xlook 150 211 = some (211, .invokevirtual 146, 3, 147, 1, 0, 165) from xlk (by decide +kernel)) (by decide) hj9 ⟨Nat.le_of_ble_eq_true rfl, Nat.le_of_ble_eq_true rfl, Nat.le_of_ble_eq_true rfl⟩ ⟨xob_12.1, xob_12.2, by decide⟩ rfl hm9 (n := 214) rfl ?_
      show xW X d 150 214 [.ref (131), vi (x1), vi (x2)] [] G9 (xqv Q)
      refine xw_goto (m := 230) (show xlook 150 214 = some (214, .goto 16, 3, 230, 0, 0, 0) from xlk (by decide +kernel)) rfl ?_
      exact t hG9
    · replace t := u7 e
      refine xw_tabIn (off := 135) (t := 217) (show xlook 150 82 = some (82, .tableswitch 143 0 7 #[46, 64, 80, 96, 113, 121, 128, 135], 46, 0, 0, 0, 0) from xlk (by decide +kernel)) q1 hq (by show (#[46, 64, 80, 96, 113, 121, 128, 135] : Array Int)[((x1 : Int) - (0)).toNat]? = some (135); rw [e]; rfl) rfl ?_
      refine xw_aload_n (n := 218) (show xlook 150 217 = some (217, .aload_n 0, 1, 0, 0, 0, 0) from xlk (by decide +kernel)) rfl rfl ?_
      refine xw_iload_n (n := 219) (show xlook 150 218 = some (218, .iload_n 2, 1, 0, 0, 0, 0) from xlk (by decide +kernel)) rfl rfl ?_
      obtain ⟨j10, hj10, rr10, G10, hm10, hG10, t⟩ := t
      obtain ⟨rfl, t⟩ := t
      refine xw_callv (dk := j10) (o := 131) (as := [vi (x2)]) (show xlook 150 219 = some (219, .invokevirtual 149, 3, 148, 2, 0, 166) from xlk (by decide +kernel)) (by decide) hj10 ⟨Nat.le_of_ble_eq_true rfl, Nat.le_of_ble_eq_true rfl, Nat.le_of_ble_eq_true rfl⟩ ⟨xob_12.1, xob_12.2, by decide⟩ rfl hm10 (n := 222) rfl ?_
      show xW X d 150 222 [.ref (131), vi (x1), vi (x2)] [] G10 (xqv Q)
      refine xw_goto (m := 230) (show xlook 150 222 = some (222, .goto 8, 3, 230, 0, 0, 0) from xlk (by decide +kernel)) rfl ?_
      exact t hG10
  · replace t := t.2 c
    exact xw_return hPT (show xlook 150 64 = some (64, .return_, 1, 0, 0, 0, 0) from xlk (by decide +kernel)) rfl (t hPT)

theorem s150_230 {X : List Int32} {d : Nat} {F : XF} {Q : XF → Prop} {x1 : Int} {x2 : Int} (hPT : xPT F)  (t : inR ((F) (131) 7) ∧ (((¬ ((F) (131) 7) = (0)) → (xPT (xup (F) (131) 6 (((F) (131) 6) + (1))) → Q (xup (F) (131) 6 (((F) (131) 6) + (1))))) ∧ (¬ (¬ ((F) (131) 7) = (0)) → (∃ (j1 : Nat), j1 < d ∧ xMI X j1 136 [.ref (131)] (F) (fun (y1 : Int) (G1 : XF) => (inR (y1) ∧ ((((y1) = (59)) → (xPT (xup (G1) (131) 6 (((G1) (131) 6) + (1))) → Q (xup (G1) (131) 6 (((G1) (131) 6) + (1))))) ∧ (¬ ((y1) = (59)) → (∃ (j2 : Nat), j2 < d ∧ xMV X j2 137 [.ref (131), vi (1), vi ((G1) (131) 6)] (G1) (fun (G2 : XF) => (xPT (xup (G2) (131) 6 (((G2) (131) 6) + (1))) → Q (xup (G2) (131) 6 (((G2) (131) 6) + (1)))))))))))))) : xW X d 150 230 [.ref (131), vi (x1), vi (x2)] [] F (xqv Q) := by
  refine xw_aload_n (n := 231) (show xlook 150 230 = some (230, .aload_n 0, 1, 0, 0, 0, 0) from xlk (by decide +kernel)) rfl rfl ?_
  refine xw_geti (show xlook 150 231 = some (231, .getfield 76, 3, 12, 7, 0, 239) from xlk (by decide +kernel)) (by decide) (xobf xob_12 (by decide) (by decide)) rfl (n := 234) rfl ?_
  obtain ⟨q0, t⟩ := t
  refine xw_if_ne (n := 237) (m := 255) (show xlook 150 234 = some (234, .ifCond .ne 21, 3, 255, 0, 0, 0) from xlk (by decide +kernel)) rfl rfl q0 ⟨fun c => ?_, fun c => ?_⟩
  · replace t := t.1 c
    refine xw_aload_n (n := 256) (show xlook 150 255 = some (255, .aload_n 0, 1, 0, 0, 0, 0) from xlk (by decide +kernel)) rfl rfl ?_
    refine xw_dupr (n := 257) (show xlook 150 256 = some (256, .dup, 1, 0, 0, 0, 0) from xlk (by decide +kernel)) rfl ?_
    refine xw_geti (show xlook 150 257 = some (257, .getfield 70, 3, 12, 6, 0, 237) from xlk (by decide +kernel)) (by decide) (xobf xob_12 (by decide) (by decide)) rfl (n := 260) rfl ?_
    refine xw_iconst (n := 261) (show xlook 150 260 = some (260, .iconst 1, 1, 0, 0, 0, 0) from xlk (by decide +kernel)) rfl ?_
    refine xw_iadd (n := 262) (show xlook 150 261 = some (261, .iadd, 1, 0, 0, 0, 0) from xlk (by decide +kernel)) rfl ?_
    refine xw_puti (show xlook 150 262 = some (262, .putfield 70, 3, 12, 6, 0, 237) from xlk (by decide +kernel)) (xobf xob_12 (by decide) (by decide)) rfl (n := 265) rfl ?_
    exact xw_return (xPT_fld (k := 6) hPT xob_12 (by decide) (by decide)) (show xlook 150 265 = some (265, .return_, 1, 0, 0, 0, 0) from xlk (by decide +kernel)) rfl (t (xPT_fld (k := 6) hPT xob_12 (by decide) (by decide)))
  · replace t := t.2 c
    refine xw_aload_n (n := 238) (show xlook 150 237 = some (237, .aload_n 0, 1, 0, 0, 0, 0) from xlk (by decide +kernel)) rfl rfl ?_
    obtain ⟨j1, hj1, rr1, G1, hm1, hG1, t⟩ := t
    obtain ⟨y1, rfl, t⟩ := t
    refine xw_callv (dk := j1) (o := 131) (as := []) (show xlook 150 238 = some (238, .invokevirtual 91, 3, 136, 1, 0, 152) from xlk (by decide +kernel)) (by decide) hj1 ⟨Nat.le_of_ble_eq_true rfl, Nat.le_of_ble_eq_true rfl, Nat.le_of_ble_eq_true rfl⟩ ⟨xob_12.1, xob_12.2, by decide⟩ rfl hm1 (n := 241) rfl ?_
    show xW X d 150 241 [.ref (131), vi (x1), vi (x2)] [vi (y1)] G1 (xqv Q)
    refine xw_bipush (n := 243) (show xlook 150 241 = some (241, .bipush 59, 2, 0, 0, 0, 0) from xlk (by decide +kernel)) rfl (by decide) ?_
    obtain ⟨q0, t⟩ := t
    refine xw_icmp_eq (n := 246) (m := 255) (show xlook 150 243 = some (243, .if_icmp .eq 12, 3, 255, 0, 0, 0) from xlk (by decide +kernel)) rfl rfl q0 ⟨by decide, by decide⟩ ⟨fun c => ?_, fun c => ?_⟩
    · replace t := t.1 c
      refine xw_aload_n (n := 256) (show xlook 150 255 = some (255, .aload_n 0, 1, 0, 0, 0, 0) from xlk (by decide +kernel)) rfl rfl ?_
      refine xw_dupr (n := 257) (show xlook 150 256 = some (256, .dup, 1, 0, 0, 0, 0) from xlk (by decide +kernel)) rfl ?_
      refine xw_geti (show xlook 150 257 = some (257, .getfield 70, 3, 12, 6, 0, 237) from xlk (by decide +kernel)) (by decide) (xobf xob_12 (by decide) (by decide)) rfl (n := 260) rfl ?_
      refine xw_iconst (n := 261) (show xlook 150 260 = some (260, .iconst 1, 1, 0, 0, 0, 0) from xlk (by decide +kernel)) rfl ?_
      refine xw_iadd (n := 262) (show xlook 150 261 = some (261, .iadd, 1, 0, 0, 0, 0) from xlk (by decide +kernel)) rfl ?_
      refine xw_puti (show xlook 150 262 = some (262, .putfield 70, 3, 12, 6, 0, 237) from xlk (by decide +kernel)) (xobf xob_12 (by decide) (by decide)) rfl (n := 265) rfl ?_
      exact xw_return (xPT_fld (k := 6) hG1 xob_12 (by decide) (by decide)) (show xlook 150 265 = some (265, .return_, 1, 0, 0, 0, 0) from xlk (by decide +kernel)) rfl (t (xPT_fld (k := 6) hG1 xob_12 (by decide) (by decide)))
    · replace t := t.2 c
      refine xw_aload_n (n := 247) (show xlook 150 246 = some (246, .aload_n 0, 1, 0, 0, 0, 0) from xlk (by decide +kernel)) rfl rfl ?_
      refine xw_iconst (n := 248) (show xlook 150 247 = some (247, .iconst 1, 1, 0, 0, 0, 0) from xlk (by decide +kernel)) rfl ?_
      refine xw_aload_n (n := 249) (show xlook 150 248 = some (248, .aload_n 0, 1, 0, 0, 0, 0) from xlk (by decide +kernel)) rfl rfl ?_
      refine xw_geti (show xlook 150 249 = some (249, .getfield 70, 3, 12, 6, 0, 237) from xlk (by decide +kernel)) (by decide) (xobf xob_12 (by decide) (by decide)) rfl (n := 252) rfl ?_
      obtain ⟨j2, hj2, rr2, G2, hm2, hG2, t⟩ := t
      obtain ⟨rfl, t⟩ := t
      refine xw_callv (dk := j2) (o := 131) (as := [vi (1), vi ((G1) (131) 6)]) (show xlook 150 252 = some (252, .invokevirtual 116, 3, 137, 3, 0, 158) from xlk (by decide +kernel)) (by decide) hj2 ⟨Nat.le_of_ble_eq_true rfl, Nat.le_of_ble_eq_true rfl, Nat.le_of_ble_eq_true rfl⟩ ⟨xob_12.1, xob_12.2, by decide⟩ rfl hm2 (n := 255) rfl ?_
      show xW X d 150 255 [.ref (131), vi (x1), vi (x2)] [] G2 (xqv Q)
      refine xw_aload_n (n := 256) (show xlook 150 255 = some (255, .aload_n 0, 1, 0, 0, 0, 0) from xlk (by decide +kernel)) rfl rfl ?_
      refine xw_dupr (n := 257) (show xlook 150 256 = some (256, .dup, 1, 0, 0, 0, 0) from xlk (by decide +kernel)) rfl ?_
      refine xw_geti (show xlook 150 257 = some (257, .getfield 70, 3, 12, 6, 0, 237) from xlk (by decide +kernel)) (by decide) (xobf xob_12 (by decide) (by decide)) rfl (n := 260) rfl ?_
      refine xw_iconst (n := 261) (show xlook 150 260 = some (260, .iconst 1, 1, 0, 0, 0, 0) from xlk (by decide +kernel)) rfl ?_
      refine xw_iadd (n := 262) (show xlook 150 261 = some (261, .iadd, 1, 0, 0, 0, 0) from xlk (by decide +kernel)) rfl ?_
      refine xw_puti (show xlook 150 262 = some (262, .putfield 70, 3, 12, 6, 0, 237) from xlk (by decide +kernel)) (xobf xob_12 (by decide) (by decide)) rfl (n := 265) rfl ?_
      exact xw_return (xPT_fld (k := 6) hG2 xob_12 (by decide) (by decide)) (show xlook 150 265 = some (265, .return_, 1, 0, 0, 0, 0) from xlk (by decide +kernel)) rfl (t (xPT_fld (k := 6) hG2 xob_12 (by decide) (by decide)))

theorem s151_0 {X : List Int32} {d : Nat} {F : XF} {Q : Int → XF → Prop} {x1 : Int} {w2 : Value} {w3 : Value} (hPT : xPT F)  (t : (inR (x1)) ∧ ((inR ((F) (131) 4)) ∧ (∃ (j1 : Nat), j1 < d ∧ xMI X j1 132 [vl (x1), vl (0), vl ((F) (131) 4)] (xup (F) (131) 0 (0)) (fun (y1 : Int) (G1 : XF) => (inR (y1) ∧ (((¬ (y1) = (0)) → (∃ (j2 : Nat), j2 < d ∧ xMV X j2 134 [.ref (131)] (xup (xup (xup (xup (xup (xup (G1) (131) 4 (0)) (131) 5 (x1)) (131) 6 (0)) (131) 7 (0)) (131) 8 ((-1))) (131) 9 (0)) (fun (G2 : XF) => (xPT (G2) → xW X d 151 58 [.ref (131), vi (x1), vi (0), w3] [] (G2) (xqi Q))))) ∧ (¬ (¬ (y1) = (0)) → (xPT (G1) → Q ((-3)) (G1))))))))) : xW X d 151 0 [.ref (131), vi (x1), w2, w3] [] F (xqi Q) := by
  refine xw_aload_n (n := 1) (show xlook 151 0 = some (0, .aload_n 0, 1, 0, 0, 0, 0) from xlk (by decide +kernel)) rfl rfl ?_
  refine xw_iconst (n := 2) (show xlook 151 1 = some (1, .iconst 0, 1, 0, 0, 0, 0) from xlk (by decide +kernel)) rfl ?_
  refine xw_puti (show xlook 151 2 = some (2, .putfield 1, 3, 12, 0, 0, 235) from xlk (by decide +kernel)) (xobf xob_12 (by decide) (by decide)) rfl (n := 5) rfl ?_
  refine xw_iload_n (n := 6) (show xlook 151 5 = some (5, .iload_n 1, 1, 0, 0, 0, 0) from xlk (by decide +kernel)) rfl rfl ?_
  obtain ⟨q1, t⟩ := t
  refine xw_i2l (n := 7) (show xlook 151 6 = some (6, .i2l, 1, 0, 0, 0, 0) from xlk (by decide +kernel)) rfl q1 ?_
  refine xw_lconst (n := 8) (show xlook 151 7 = some (7, .lconst 0, 1, 0, 0, 0, 0) from xlk (by decide +kernel)) rfl (k := 0) (by decide) ?_
  refine xw_aload_n (n := 9) (show xlook 151 8 = some (8, .aload_n 0, 1, 0, 0, 0, 0) from xlk (by decide +kernel)) rfl rfl ?_
  refine xw_geti2 (u := (F) (131) 4) (show xlook 151 9 = some (9, .getfield 67, 3, 12, 4, 0, 236) from xlk (by decide +kernel)) (by decide) (xobf xob_12 (by decide) (by decide)) rfl (xup_i (by decide)) (n := 12) rfl ?_
  obtain ⟨q1, t⟩ := t
  refine xw_i2l (n := 13) (show xlook 151 12 = some (12, .i2l, 1, 0, 0, 0, 0) from xlk (by decide +kernel)) rfl q1 ?_
  obtain ⟨j1, hj1, rr1, G1, hm1, hG1, t⟩ := t
  obtain ⟨y1, rfl, t⟩ := t
  refine xw_calls (dk := j1) (as := [vl (x1), vl (0), vl ((F) (131) 4)]) (show xlook 151 13 = some (13, .invokestatic 83, 3, 132, 3, 0, 151) from xlk (by decide +kernel)) (by decide) hj1 ⟨Nat.le_of_ble_eq_true rfl, Nat.le_of_ble_eq_true rfl, Nat.le_of_ble_eq_true rfl, by decide⟩ rfl hm1 (n := 16) rfl ?_
  show xW X d 151 16 [.ref (131), vi (x1), w2, w3] [vi (y1)] G1 (xqi Q)
  obtain ⟨q0, t⟩ := t
  refine xw_if_ne (n := 19) (m := 22) (show xlook 151 16 = some (16, .ifCond .ne 6, 3, 22, 0, 0, 0) from xlk (by decide +kernel)) rfl rfl q0 ⟨fun c => ?_, fun c => ?_⟩
  · replace t := t.1 c
    refine xw_aload_n (n := 23) (show xlook 151 22 = some (22, .aload_n 0, 1, 0, 0, 0, 0) from xlk (by decide +kernel)) rfl rfl ?_
    refine xw_iconst (n := 24) (show xlook 151 23 = some (23, .iconst 0, 1, 0, 0, 0, 0) from xlk (by decide +kernel)) rfl ?_
    refine xw_puti (show xlook 151 24 = some (24, .putfield 67, 3, 12, 4, 0, 236) from xlk (by decide +kernel)) (xobf xob_12 (by decide) (by decide)) rfl (n := 27) rfl ?_
    refine xw_aload_n (n := 28) (show xlook 151 27 = some (27, .aload_n 0, 1, 0, 0, 0, 0) from xlk (by decide +kernel)) rfl rfl ?_
    refine xw_iload_n (n := 29) (show xlook 151 28 = some (28, .iload_n 1, 1, 0, 0, 0, 0) from xlk (by decide +kernel)) rfl rfl ?_
    refine xw_puti (show xlook 151 29 = some (29, .putfield 73, 3, 12, 5, 0, 238) from xlk (by decide +kernel)) (xobf xob_12 (by decide) (by decide)) rfl (n := 32) rfl ?_
    refine xw_aload_n (n := 33) (show xlook 151 32 = some (32, .aload_n 0, 1, 0, 0, 0, 0) from xlk (by decide +kernel)) rfl rfl ?_
    refine xw_iconst (n := 34) (show xlook 151 33 = some (33, .iconst 0, 1, 0, 0, 0, 0) from xlk (by decide +kernel)) rfl ?_
    refine xw_puti (show xlook 151 34 = some (34, .putfield 70, 3, 12, 6, 0, 237) from xlk (by decide +kernel)) (xobf xob_12 (by decide) (by decide)) rfl (n := 37) rfl ?_
    refine xw_aload_n (n := 38) (show xlook 151 37 = some (37, .aload_n 0, 1, 0, 0, 0, 0) from xlk (by decide +kernel)) rfl rfl ?_
    refine xw_iconst (n := 39) (show xlook 151 38 = some (38, .iconst 0, 1, 0, 0, 0, 0) from xlk (by decide +kernel)) rfl ?_
    refine xw_puti (show xlook 151 39 = some (39, .putfield 76, 3, 12, 7, 0, 239) from xlk (by decide +kernel)) (xobf xob_12 (by decide) (by decide)) rfl (n := 42) rfl ?_
    refine xw_aload_n (n := 43) (show xlook 151 42 = some (42, .aload_n 0, 1, 0, 0, 0, 0) from xlk (by decide +kernel)) rfl rfl ?_
    refine xw_iconst (n := 44) (show xlook 151 43 = some (43, .iconst (-1), 1, 0, 0, 0, 0) from xlk (by decide +kernel)) rfl ?_
    refine xw_puti (show xlook 151 44 = some (44, .putfield 24, 3, 12, 8, 0, 223) from xlk (by decide +kernel)) (xobf xob_12 (by decide) (by decide)) rfl (n := 47) rfl ?_
    refine xw_aload_n (n := 48) (show xlook 151 47 = some (47, .aload_n 0, 1, 0, 0, 0, 0) from xlk (by decide +kernel)) rfl rfl ?_
    refine xw_iconst (n := 49) (show xlook 151 48 = some (48, .iconst 0, 1, 0, 0, 0, 0) from xlk (by decide +kernel)) rfl ?_
    refine xw_puti (show xlook 151 49 = some (49, .putfield 137, 3, 12, 9, 0, 241) from xlk (by decide +kernel)) (xobf xob_12 (by decide) (by decide)) rfl (n := 52) rfl ?_
    refine xw_aload_n (n := 53) (show xlook 151 52 = some (52, .aload_n 0, 1, 0, 0, 0, 0) from xlk (by decide +kernel)) rfl rfl ?_
    obtain ⟨j2, hj2, rr2, G2, hm2, hG2, t⟩ := t
    obtain ⟨rfl, t⟩ := t
    refine xw_callv (dk := j2) (o := 131) (as := []) (show xlook 151 53 = some (53, .invokevirtual 60, 3, 134, 1, 0, 149) from xlk (by decide +kernel)) (by decide) hj2 ⟨Nat.le_of_ble_eq_true rfl, Nat.le_of_ble_eq_true rfl, Nat.le_of_ble_eq_true rfl⟩ ⟨xob_12.1, xob_12.2, by decide⟩ rfl hm2 (n := 56) rfl ?_
    show xW X d 151 56 [.ref (131), vi (x1), w2, w3] [] G2 (xqi Q)
    refine xw_iconst (n := 57) (show xlook 151 56 = some (56, .iconst 0, 1, 0, 0, 0, 0) from xlk (by decide +kernel)) rfl ?_
    refine xw_istore_n (n := 58) (show xlook 151 57 = some (57, .istore_n 2, 1, 0, 0, 0, 0) from xlk (by decide +kernel)) rfl (ls' := [.ref (131), vi (x1), vi (0), w3]) (Nat.le_of_ble_eq_true rfl) rfl ?_
    exact t hG2
  · replace t := t.2 c
    refine xw_bipush (n := 21) (show xlook 151 19 = some (19, .bipush (-3), 2, 0, 0, 0, 0) from xlk (by decide +kernel)) rfl (by decide) ?_
    exact xw_ireturn hG1 (show xlook 151 21 = some (21, .ireturn, 1, 0, 0, 0, 0) from xlk (by decide +kernel)) rfl (t hG1)
theorem m151 {X : List Int32} {d : Nat} {F : XF} {Q : Int → XF → Prop} {x1 : Int} (hPT : xPT F)  (t : (inR (x1)) ∧ ((inR ((F) (131) 4)) ∧ (∃ (j1 : Nat), j1 < d ∧ xMI X j1 132 [vl (x1), vl (0), vl ((F) (131) 4)] (xup (F) (131) 0 (0)) (fun (y1 : Int) (G1 : XF) => (inR (y1) ∧ (((¬ (y1) = (0)) → (∃ (j2 : Nat), j2 < d ∧ xMV X j2 134 [.ref (131)] (xup (xup (xup (xup (xup (xup (G1) (131) 4 (0)) (131) 5 (x1)) (131) 6 (0)) (131) 7 (0)) (131) 8 ((-1))) (131) 9 (0)) (fun (G2 : XF) => (xPT (G2) → xW X d 151 58 [.ref (131), vi (x1), vi (0), xU0] [] (G2) (xqi Q))))) ∧ (¬ (¬ (y1) = (0)) → (xPT (G1) → Q ((-3)) (G1))))))))) : xMI X d 151 [.ref (131), vi (x1)] F Q := by
  show xW X d 151 0 [.ref (131), vi (x1), xU0, xU0] [] F (xqi Q)
  exact s151_0 hPT  t

