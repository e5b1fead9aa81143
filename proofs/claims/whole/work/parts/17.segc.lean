set_option maxHeartbeats 4000000
set_option maxRecDepth 100000
theorem s63_70 {X : List Int32} {d : Nat} {F : XF} {Q : XF → Prop} {o0 : Nat} {x1 : Int} {x2 : Int} {x3 : Int} {x4 : Int} {x5 : Int} {x6 : Int} {w7 : Value} {w8 : Value} (hPT : xPT F) (h0 : xob 6 o0) (t : inR (x6) ∧ ((((x6) = (0)) → ((0 ≤ (x1) ∧ (x1) < 30) ∧ (xPT (F) → xW X d 63 96 [.ref (o0), vi (x1), vi (x2), vi (x3), vi (x4), vi (x5), vi (x6), vi ((F) (o0 + 9) (x1)), vi ((F) (o0 + 9) (x1))] [] (F) (xqv Q)))) ∧ (¬ ((x6) = (0)) → ((0 ≤ (x1) ∧ (x1) < 30) ∧ (xPT (F) → xW X d 63 96 [.ref (o0), vi (x1), vi (x2), vi (x3), vi (x4), vi (x5), vi (x6), vi ((F) (o0 + 10) (x1)), vi ((F) (o0 + 10) (x1))] [] (F) (xqv Q)))))) : xW X d 63 70 [.ref (o0), vi (x1), vi (x2), vi (x3), vi (x4), vi (x5), vi (x6), w7, w8] [] F (xqv Q) := by
  refine xw_iload (n := 72) (show xlook 63 70 = some (70, .iload 6, 2, 0, 0, 0, 0) from xlk (by decide +kernel)) rfl rfl ?_
  obtain ⟨q0, t⟩ := t
  refine xw_if_eq (n := 75) (m := 84) (show xlook 63 72 = some (72, .ifCond .eq 12, 3, 84, 0, 0, 0) from xlk (by decide +kernel)) rfl rfl q0 ⟨fun c => ?_, fun c => ?_⟩
  · replace t := t.1 c
    refine xw_aload_n (n := 85) (show xlook 63 84 = some (84, .aload_n 0, 1, 0, 0, 0, 0) from xlk (by decide +kernel)) rfl rfl ?_
    refine xw_getr (q := o0 + 9) (show xlook 63 85 = some (85, .getfield 25, 3, 6, 8, 0, 77) from xlk (by decide +kernel)) (by decide) (xobf h0 (by decide) (by decide)) rfl (xPT_get (k := 8) (f := 9) hPT h0 (by decide)) (by have := (xtg_6_8 _ h0.1 h0.2).1.1; omega) (n := 88) rfl ?_
    refine xw_iload_n (n := 89) (show xlook 63 88 = some (88, .iload_n 1, 1, 0, 0, 0, 0) from xlk (by decide +kernel)) rfl rfl ?_
    obtain ⟨q1, t⟩ := t
    refine xw_iald (show xlook 63 89 = some (89, .iaload, 1, 0, 0, 0, 0) from xlk (by decide +kernel)) (xtg_6_8 _ h0.1 h0.2).1 (by rw [(xtg_6_8 _ h0.1 h0.2).2]; exact q1) (n := 90) rfl ?_
    refine xw_istore (n := 92) (show xlook 63 90 = some (90, .istore 7, 2, 0, 0, 0, 0) from xlk (by decide +kernel)) rfl (ls' := [.ref (o0), vi (x1), vi (x2), vi (x3), vi (x4), vi (x5), vi (x6), vi ((F) (o0 + 9) (x1)), w8]) (Nat.le_of_ble_eq_true rfl) rfl ?_
    refine xw_iload (n := 94) (show xlook 63 92 = some (92, .iload 7, 2, 0, 0, 0, 0) from xlk (by decide +kernel)) rfl rfl ?_
    refine xw_istore (n := 96) (show xlook 63 94 = some (94, .istore 8, 2, 0, 0, 0, 0) from xlk (by decide +kernel)) rfl (ls' := [.ref (o0), vi (x1), vi (x2), vi (x3), vi (x4), vi (x5), vi (x6), vi ((F) (o0 + 9) (x1)), vi ((F) (o0 + 9) (x1))]) (Nat.le_of_ble_eq_true rfl) rfl ?_
    exact t hPT
  · replace t := t.2 c
    refine xw_aload_n (n := 76) (show xlook 63 75 = some (75, .aload_n 0, 1, 0, 0, 0, 0) from xlk (by decide +kernel)) rfl rfl ?_
    refine xw_getr (q := o0 + 10) (show xlook 63 76 = some (76, .getfield 28, 3, 6, 9, 0, 78) from xlk (by decide +kernel)) (by decide) (xobf h0 (by decide) (by decide)) rfl (xPT_get (k := 9) (f := 10) hPT h0 (by decide)) (by have := (xtg_6_9 _ h0.1 h0.2).1.1; omega) (n := 79) rfl ?_
    refine xw_iload_n (n := 80) (show xlook 63 79 = some (79, .iload_n 1, 1, 0, 0, 0, 0) from xlk (by decide +kernel)) rfl rfl ?_
    obtain ⟨q1, t⟩ := t
    refine xw_iald (show xlook 63 80 = some (80, .iaload, 1, 0, 0, 0, 0) from xlk (by decide +kernel)) (xtg_6_9 _ h0.1 h0.2).1 (by rw [(xtg_6_9 _ h0.1 h0.2).2]; exact q1) (n := 81) rfl ?_
    refine xw_goto (m := 90) (show xlook 63 81 = some (81, .goto 9, 3, 90, 0, 0, 0) from xlk (by decide +kernel)) rfl ?_
    refine xw_istore (n := 92) (show xlook 63 90 = some (90, .istore 7, 2, 0, 0, 0, 0) from xlk (by decide +kernel)) rfl (ls' := [.ref (o0), vi (x1), vi (x2), vi (x3), vi (x4), vi (x5), vi (x6), vi ((F) (o0 + 10) (x1)), w8]) (Nat.le_of_ble_eq_true rfl) rfl ?_
    refine xw_iload (n := 94) (show xlook 63 92 = some (92, .iload 7, 2, 0, 0, 0, 0) from xlk (by decide +kernel)) rfl rfl ?_
    refine xw_istore (n := 96) (show xlook 63 94 = some (94, .istore 8, 2, 0, 0, 0, 0) from xlk (by decide +kernel)) rfl (ls' := [.ref (o0), vi (x1), vi (x2), vi (x3), vi (x4), vi (x5), vi (x6), vi ((F) (o0 + 10) (x1)), vi ((F) (o0 + 10) (x1))]) (Nat.le_of_ble_eq_true rfl) rfl ?_
    exact t hPT

theorem s63_96 {X : List Int32} {d : Nat} {F : XF} {Q : XF → Prop} {o0 : Nat} {x1 : Int} {x2 : Int} {x3 : Int} {x4 : Int} {x5 : Int} {x6 : Int} {x7 : Int} {x8 : Int} (hPT : xPT F) (h0 : xob 6 o0) (t : ∃ t1 : Nat, (F) (o0) 0 = (t1 : Int) ∧ xob 9 t1 ∧ (inR (x8) ∧ inR ((F) (t1) 4) ∧ (((((F) (t1) 4) ≤ (x8)) → (xPT (F) → xW X d 63 256 [.ref (o0), vi (x1), vi (x2), vi (x3), vi (x4), vi (x5), vi (x6), vi (x7), vi (x8)] [] (F) (xqv Q))) ∧ (¬ (((F) (t1) 4) ≤ (x8)) → (∃ t2 : Nat, (F) (o0) 0 = (t2 : Int) ∧ xob 9 t2 ∧ ((0 ≤ (x8 : Int) ∧ (x8 : Int) < 10) ∧ (inR ((F) (t2 + 1 + 6 + (x8 : Int).toNat) 0) ∧ inR (x3) ∧ (((((F) (t2 + 1 + 6 + (x8 : Int).toNat) 0) < (x3)) → (inR (x5) ∧ ((((x5) = (0)) → (xPT (F) → xW X d 63 180 [.ref (o0), vi (x1), vi (x2), vi (x3), vi (x4), vi (x5), vi (x6), vi (x7), vi (x8)] [] (F) (xqv Q))) ∧ (¬ ((x5) = (0)) → ((0 ≤ (x1) ∧ (x1) < 30) ∧ (inR (x8) ∧ inR ((F) (o0 + 9) (x1)) ∧ (((¬ (x8) = ((F) (o0 + 9) (x1))) → (xPT (F) → xW X d 63 180 [.ref (o0), vi (x1), vi (x2), vi (x3), vi (x4), vi (x5), vi (x6), vi (x7), vi (x8)] [] (F) (xqv Q))) ∧ (¬ (¬ (x8) = ((F) (o0 + 9) (x1))) → ((0 ≤ (x1) ∧ (x1) < 30) ∧ ((0 ≤ (x1) ∧ (x1) < 30) ∧ ((0 ≤ (x8) ∧ (x8) < 10) ∧ ((0 ≤ (x8) ∧ (x8) < 10) ∧ (∃ (j4 : Nat), j4 < d ∧ xMV X j4 17 [.ref (o0 + 13), vi (0), vi ((F) (o0) 2), vi (x8), vi (x2)] (xup (xup (F) (o0 + 9) (x1) (((F) (o0 + 9) (x1)) + (1))) (o0 + 11) (x8) (((F) (o0 + 11) (x8)) + (1))) (fun (G4 : XF) => (xPT (G4) → xW X d 63 180 [.ref (o0), vi (x1), vi (x2), vi (x3), vi (x4), vi (x5), vi (x6), vi (x7), vi (x8)] [] (G4) (xqv Q)))))))))))))))) ∧ (¬ (((F) (t2 + 1 + 6 + (x8 : Int).toNat) 0) < (x3)) → (xPT (F) → xW X d 63 256 [.ref (o0), vi (x1), vi (x2), vi (x3), vi (x4), vi (x5), vi (x6), vi (x7), vi (x8)] [] (F) (xqv Q))))))))))) : xW X d 63 96 [.ref (o0), vi (x1), vi (x2), vi (x3), vi (x4), vi (x5), vi (x6), vi (x7), vi (x8)] [] F (xqv Q) := by
  refine xw_iload (n := 98) (show xlook 63 96 = some (96, .iload 8, 2, 0, 0, 0, 0) from xlk (by decide +kernel)) rfl rfl ?_
  refine xw_aload_n (n := 99) (show xlook 63 98 = some (98, .aload_n 0, 1, 0, 0, 0, 0) from xlk (by decide +kernel)) rfl rfl ?_
  obtain ⟨t1, q1, ht1, t⟩ := t
  refine xw_getr (q := t1) (show xlook 63 99 = some (99, .getfield 40, 3, 6, 0, 0, 81) from xlk (by decide +kernel)) (by decide) (xobf h0 (by decide) (by decide)) rfl q1 (by have := ht1.1; omega) (n := 102) rfl ?_
  refine xw_geti (show xlook 63 102 = some (102, .getfield 86, 3, 9, 4, 0, 91) from xlk (by decide +kernel)) (by decide) (xobf ht1 (by decide) (by decide)) rfl (n := 105) rfl ?_
  obtain ⟨q0, q1, t⟩ := t
  refine xw_icmp_ge (n := 108) (m := 256) (show xlook 63 105 = some (105, .if_icmp .ge 151, 3, 256, 0, 0, 0) from xlk (by decide +kernel)) rfl rfl q0 q1 ⟨fun c => ?_, fun c => ?_⟩
  · replace t := t.1 c
    exact t hPT
  · replace t := t.2 c
    refine xw_aload_n (n := 109) (show xlook 63 108 = some (108, .aload_n 0, 1, 0, 0, 0, 0) from xlk (by decide +kernel)) rfl rfl ?_
    obtain ⟨t2, q1, ht2, t⟩ := t
    refine xw_getr (q := t2) (show xlook 63 109 = some (109, .getfield 40, 3, 6, 0, 0, 81) from xlk (by decide +kernel)) (by decide) (xobf h0 (by decide) (by decide)) rfl q1 (by have := ht2.1; omega) (n := 112) rfl ?_
    refine xw_getr (q := t2 + 1) (show xlook 63 112 = some (112, .getfield 92, 3, 9, 5, 0, 92) from xlk (by decide +kernel)) (by decide) (xobf ht2 (by decide) (by decide)) rfl (xPT_get (k := 5) (f := 1) hPT ht2 (by decide)) (by have := (xtg_9_5 _ ht2.1 ht2.2).1.1; omega) (n := 115) rfl ?_
    refine xw_iload (n := 117) (show xlook 63 115 = some (115, .iload 8, 2, 0, 0, 0, 0) from xlk (by decide +kernel)) rfl rfl ?_
    obtain ⟨q1, t⟩ := t
    have hb3 : xob 1 (t2 + 1 + 6 + (x8 : Int).toNat) := xel15 _ (xtg_9_5 _ ht2.1 ht2.2).1.1 (xtg_9_5 _ ht2.1 ht2.2).1.2 _ (xidx10 q1)
    refine xw_aald (q := t2 + 1 + 6 + (x8 : Int).toNat) (show xlook 63 117 = some (117, .aaload, 1, 0, 0, 0, 0) from xlk (by decide +kernel)) ⟨(xtg_9_5 _ ht2.1 ht2.2).1.1, (Or.inl (xtg_9_5 _ ht2.1 ht2.2).1.2)⟩ (by rw [xln15 _ (xtg_9_5 _ ht2.1 ht2.2).1.1 (Or.inl (xtg_9_5 _ ht2.1 ht2.2).1.2)]; exact q1) (xPT_el hPT (Or.inl (xtg_9_5 _ ht2.1 ht2.2).1) q1.1 q1.2) (by have := hb3.1; omega) (n := 118) rfl ?_
    refine xw_geti (show xlook 63 118 = some (118, .getfield 100, 3, 1, 0, 0, 95) from xlk (by decide +kernel)) (by decide) (xobf hb3 (by decide) (by decide)) rfl (n := 121) rfl ?_
    refine xw_iload_n (n := 122) (show xlook 63 121 = some (121, .iload_n 3, 1, 0, 0, 0, 0) from xlk (by decide +kernel)) rfl rfl ?_
    obtain ⟨q0, q1, t⟩ := t
    refine xw_icmp_lt (n := 125) (m := 128) (show xlook 63 122 = some (122, .if_icmp .lt 6, 3, 128, 0, 0, 0) from xlk (by decide +kernel)) rfl rfl q0 q1 ⟨fun c => ?_, fun c => ?_⟩
    · replace t := t.1 c
      refine xw_iload (n := 130) (show xlook 63 128 = some (128, .iload 5, 2, 0, 0, 0, 0) from xlk (by decide +kernel)) rfl rfl ?_
      obtain ⟨q0, t⟩ := t
      refine xw_if_eq (n := 133) (m := 180) (show xlook 63 130 = some (130, .ifCond .eq 50, 3, 180, 0, 0, 0) from xlk (by decide +kernel)) rfl rfl q0 ⟨fun c => ?_, fun c => ?_⟩
      · replace t := t.1 c
        exact t hPT
      · replace t := t.2 c
        refine xw_iload (n := 135) (show xlook 63 133 = some (133, .iload 8, 2, 0, 0, 0, 0) from xlk (by decide +kernel)) rfl rfl ?_
        refine xw_aload_n (n := 136) (show xlook 63 135 = some (135, .aload_n 0, 1, 0, 0, 0, 0) from xlk (by decide +kernel)) rfl rfl ?_
        refine xw_getr (q := o0 + 9) (show xlook 63 136 = some (136, .getfield 25, 3, 6, 8, 0, 77) from xlk (by decide +kernel)) (by decide) (xobf h0 (by decide) (by decide)) rfl (xPT_get (k := 8) (f := 9) hPT h0 (by decide)) (by have := (xtg_6_8 _ h0.1 h0.2).1.1; omega) (n := 139) rfl ?_
        refine xw_iload_n (n := 140) (show xlook 63 139 = some (139, .iload_n 1, 1, 0, 0, 0, 0) from xlk (by decide +kernel)) rfl rfl ?_
        obtain ⟨q1, t⟩ := t
        refine xw_iald (show xlook 63 140 = some (140, .iaload, 1, 0, 0, 0, 0) from xlk (by decide +kernel)) (xtg_6_8 _ h0.1 h0.2).1 (by rw [(xtg_6_8 _ h0.1 h0.2).2]; exact q1) (n := 141) rfl ?_
        obtain ⟨q0, q1, t⟩ := t
        refine xw_icmp_ne (n := 144) (m := 180) (show xlook 63 141 = some (141, .if_icmp .ne 39, 3, 180, 0, 0, 0) from xlk (by decide +kernel)) rfl rfl q0 q1 ⟨fun c => ?_, fun c => ?_⟩
        · replace t := t.1 c
          exact t hPT
        · replace t := t.2 c
          refine xw_aload_n (n := 145) (show xlook 63 144 = some (144, .aload_n 0, 1, 0, 0, 0, 0) from xlk (by decide +kernel)) rfl rfl ?_
          refine xw_getr (q := o0 + 9) (show xlook 63 145 = some (145, .getfield 25, 3, 6, 8, 0, 77) from xlk (by decide +kernel)) (by decide) (xobf h0 (by decide) (by decide)) rfl (xPT_get (k := 8) (f := 9) hPT h0 (by decide)) (by have := (xtg_6_8 _ h0.1 h0.2).1.1; omega) (n := 148) rfl ?_
          refine xw_iload_n (n := 149) (show xlook 63 148 = some (148, .iload_n 1, 1, 0, 0, 0, 0) from xlk (by decide +kernel)) rfl rfl ?_
          refine xw_dup2 (n := 150) (show xlook 63 149 = some (149, .dup2, 1, 0, 0, 0, 0) from xlk (by decide +kernel)) rfl ?_
          obtain ⟨q1, t⟩ := t
          refine xw_iald (show xlook 63 150 = some (150, .iaload, 1, 0, 0, 0, 0) from xlk (by decide +kernel)) (xtg_6_8 _ h0.1 h0.2).1 (by rw [(xtg_6_8 _ h0.1 h0.2).2]; exact q1) (n := 151) rfl ?_
          refine xw_iconst (n := 152) (show xlook 63 151 = some (151, .iconst 1, 1, 0, 0, 0, 0) from xlk (by decide +kernel)) rfl ?_
          refine xw_iadd (n := 153) (show xlook 63 152 = some (152, .iadd, 1, 0, 0, 0, 0) from xlk (by decide +kernel)) rfl ?_
          obtain ⟨q1, t⟩ := t
          refine xw_iast (show xlook 63 153 = some (153, .iastore, 1, 0, 0, 0, 0) from xlk (by decide +kernel)) (xtg_6_8 _ h0.1 h0.2).1 (by rw [(xtg_6_8 _ h0.1 h0.2).2]; exact q1) (n := 154) rfl ?_
          refine xw_aload_n (n := 155) (show xlook 63 154 = some (154, .aload_n 0, 1, 0, 0, 0, 0) from xlk (by decide +kernel)) rfl rfl ?_
          refine xw_getr (q := o0 + 11) (show xlook 63 155 = some (155, .getfield 31, 3, 6, 10, 0, 79) from xlk (by decide +kernel)) (by decide) (xobf h0 (by decide) (by decide)) rfl (xPT_get (k := 10) (f := 11) (xPT_arr hPT (Or.inl (xtg_6_8 _ h0.1 h0.2).1.2)) h0 (by decide)) (by have := (xtg_6_10 _ h0.1 h0.2).1.1; omega) (n := 158) rfl ?_
          refine xw_iload (n := 160) (show xlook 63 158 = some (158, .iload 8, 2, 0, 0, 0, 0) from xlk (by decide +kernel)) rfl rfl ?_
          refine xw_dup2 (n := 161) (show xlook 63 160 = some (160, .dup2, 1, 0, 0, 0, 0) from xlk (by decide +kernel)) rfl ?_
          obtain ⟨q1, t⟩ := t
          refine xw_iald2 (u := (F) (o0 + 11) (x8)) (show xlook 63 161 = some (161, .iaload, 1, 0, 0, 0, 0) from xlk (by decide +kernel)) (xtg_6_10 _ h0.1 h0.2).1 (by rw [(xtg_6_10 _ h0.1 h0.2).2]; exact q1) (xup_o (by omega)) (n := 162) rfl ?_
          refine xw_iconst (n := 163) (show xlook 63 162 = some (162, .iconst 1, 1, 0, 0, 0, 0) from xlk (by decide +kernel)) rfl ?_
          refine xw_iadd (n := 164) (show xlook 63 163 = some (163, .iadd, 1, 0, 0, 0, 0) from xlk (by decide +kernel)) rfl ?_
          obtain ⟨q1, t⟩ := t
          refine xw_iast (show xlook 63 164 = some (164, .iastore, 1, 0, 0, 0, 0) from xlk (by decide +kernel)) (xtg_6_10 _ h0.1 h0.2).1 (by rw [(xtg_6_10 _ h0.1 h0.2).2]; exact q1) (n := 165) rfl ?_
          refine xw_aload_n (n := 166) (show xlook 63 165 = some (165, .aload_n 0, 1, 0, 0, 0, 0) from xlk (by decide +kernel)) rfl rfl ?_
          refine xw_getr (q := o0 + 13) (show xlook 63 166 = some (166, .getfield 49, 3, 6, 12, 0, 82) from xlk (by decide +kernel)) (by decide) (xobf h0 (by decide) (by decide)) rfl (xPT_get (k := 12) (f := 13) (xPT_arr (xPT_arr hPT (Or.inl (xtg_6_8 _ h0.1 h0.2).1.2)) (Or.inl (xtg_6_10 _ h0.1 h0.2).1.2)) h0 (by decide)) (by have := (xtg_6_12 _ h0.1 h0.2).1; omega) (n := 169) rfl ?_
          refine xw_iconst (n := 170) (show xlook 63 169 = some (169, .iconst 0, 1, 0, 0, 0, 0) from xlk (by decide +kernel)) rfl ?_
          refine xw_aload_n (n := 171) (show xlook 63 170 = some (170, .aload_n 0, 1, 0, 0, 0, 0) from xlk (by decide +kernel)) rfl rfl ?_
          refine xw_geti2 (u := (F) (o0) 2) (show xlook 63 171 = some (171, .getfield 58, 3, 6, 2, 0, 83) from xlk (by decide +kernel)) (by decide) (xobf h0 (by decide) (by decide)) rfl ((xup_o (by omega)).trans (xup_o (by omega))) (n := 174) rfl ?_
          refine xw_iload (n := 176) (show xlook 63 174 = some (174, .iload 8, 2, 0, 0, 0, 0) from xlk (by decide +kernel)) rfl rfl ?_
          refine xw_iload_n (n := 177) (show xlook 63 176 = some (176, .iload_n 2, 1, 0, 0, 0, 0) from xlk (by decide +kernel)) rfl rfl ?_
          obtain ⟨j4, hj4, rr4, G4, hm4, hG4, t⟩ := t
          obtain ⟨rfl, t⟩ := t
          refine xw_callv (dk := j4) (o := o0 + 13) (as := [vi (0), vi ((F) (o0) 2), vi (x8), vi (x2)]) (show xlook 63 177 = some (177, .invokevirtual 206, 3, 17, 5, 0, 74) from xlk (by decide +kernel)) (by decide) hj4 ⟨Nat.le_of_ble_eq_true rfl, Nat.le_of_ble_eq_true rfl, Nat.le_of_ble_eq_true rfl⟩ ⟨(xtg_6_12 _ h0.1 h0.2).1, (xtg_6_12 _ h0.1 h0.2).2, by decide⟩ rfl hm4 (n := 180) rfl ?_
          show xW X d 63 180 [.ref (o0), vi (x1), vi (x2), vi (x3), vi (x4), vi (x5), vi (x6), vi (x7), vi (x8)] [] G4 (xqv Q)
          exact t hG4
    · replace t := t.2 c
      refine xw_goto (m := 256) (show xlook 63 125 = some (125, .goto 131, 3, 256, 0, 0, 0) from xlk (by decide +kernel)) rfl ?_
      exact t hPT

theorem s63_180 {X : List Int32} {d : Nat} {F : XF} {Q : XF → Prop} {o0 : Nat} {x1 : Int} {x2 : Int} {x3 : Int} {x4 : Int} {x5 : Int} {x6 : Int} {x7 : Int} {x8 : Int} (hPT : xPT F) (h0 : xob 6 o0) (t : inR (x6) ∧ ((((x6) = (0)) → (xPT (F) → xW X d 63 96 [.ref (o0), vi (x1), vi (x2), vi (x3), vi (x4), vi (x5), vi (x6), vi (x7), vi (x8 + 1)] [] (F) (xqv Q))) ∧ (¬ ((x6) = (0)) → ((0 ≤ (x1) ∧ (x1) < 30) ∧ (inR (x8) ∧ inR ((F) (o0 + 10) (x1)) ∧ (((¬ (x8) = ((F) (o0 + 10) (x1))) → (xPT (F) → xW X d 63 96 [.ref (o0), vi (x1), vi (x2), vi (x3), vi (x4), vi (x5), vi (x6), vi (x7), vi (x8 + 1)] [] (F) (xqv Q))) ∧ (¬ (¬ (x8) = ((F) (o0 + 10) (x1))) → (∃ t1 : Nat, (F) (o0) 0 = (t1 : Int) ∧ xob 9 t1 ∧ ((0 ≤ (x8 : Int) ∧ (x8 : Int) < 10) ∧ (inR ((F) (t1 + 1 + 6 + (x8 : Int).toNat) 1) ∧ inR (x4) ∧ ((((x4) < ((F) (t1 + 1 + 6 + (x8 : Int).toNat) 1)) → (xPT (F) → xW X d 63 96 [.ref (o0), vi (x1), vi (x2), vi (x3), vi (x4), vi (x5), vi (x6), vi (x7), vi (x8 + 1)] [] (F) (xqv Q))) ∧ (¬ ((x4) < ((F) (t1 + 1 + 6 + (x8 : Int).toNat) 1)) → ((0 ≤ (x1) ∧ (x1) < 30) ∧ ((0 ≤ (x1) ∧ (x1) < 30) ∧ ((0 ≤ (x8) ∧ (x8) < 10) ∧ ((0 ≤ (x8) ∧ (x8) < 10) ∧ (∃ (j3 : Nat), j3 < d ∧ xMV X j3 17 [.ref (o0 + 13), vi (1), vi ((F) (o0) 2), vi (x8), vi (x2)] (xup (xup (F) (o0 + 10) (x1) (((F) (o0 + 10) (x1)) + (1))) (o0 + 11) (x8) (((F) (o0 + 11) (x8)) - (1))) (fun (G3 : XF) => (xPT (G3) → xW X d 63 96 [.ref (o0), vi (x1), vi (x2), vi (x3), vi (x4), vi (x5), vi (x6), vi (x7), vi (x8 + 1)] [] (G3) (xqv Q)))))))))))))))))))) : xW X d 63 180 [.ref (o0), vi (x1), vi (x2), vi (x3), vi (x4), vi (x5), vi (x6), vi (x7), vi (x8)] [] F (xqv Q) := by
  refine xw_iload (n := 182) (show xlook 63 180 = some (180, .iload 6, 2, 0, 0, 0, 0) from xlk (by decide +kernel)) rfl rfl ?_
  obtain ⟨q0, t⟩ := t
  refine xw_if_eq (n := 185) (m := 250) (show xlook 63 182 = some (182, .ifCond .eq 68, 3, 250, 0, 0, 0) from xlk (by decide +kernel)) rfl rfl q0 ⟨fun c => ?_, fun c => ?_⟩
  · replace t := t.1 c
    refine xw_iinc (n := 253) (show xlook 63 250 = some (250, .iinc 8 1, 3, 0, 0, 0, 0) from xlk (by decide +kernel)) rfl (ls' := [.ref (o0), vi (x1), vi (x2), vi (x3), vi (x4), vi (x5), vi (x6), vi (x7), vi (x8 + 1)]) rfl rfl ?_
    refine xw_goto (m := 96) (show xlook 63 253 = some (253, .goto (-157), 3, 96, 0, 0, 0) from xlk (by decide +kernel)) rfl ?_
    exact t hPT
  · replace t := t.2 c
    refine xw_iload (n := 187) (show xlook 63 185 = some (185, .iload 8, 2, 0, 0, 0, 0) from xlk (by decide +kernel)) rfl rfl ?_
    refine xw_aload_n (n := 188) (show xlook 63 187 = some (187, .aload_n 0, 1, 0, 0, 0, 0) from xlk (by decide +kernel)) rfl rfl ?_
    refine xw_getr (q := o0 + 10) (show xlook 63 188 = some (188, .getfield 28, 3, 6, 9, 0, 78) from xlk (by decide +kernel)) (by decide) (xobf h0 (by decide) (by decide)) rfl (xPT_get (k := 9) (f := 10) hPT h0 (by decide)) (by have := (xtg_6_9 _ h0.1 h0.2).1.1; omega) (n := 191) rfl ?_
    refine xw_iload_n (n := 192) (show xlook 63 191 = some (191, .iload_n 1, 1, 0, 0, 0, 0) from xlk (by decide +kernel)) rfl rfl ?_
    obtain ⟨q1, t⟩ := t
    refine xw_iald (show xlook 63 192 = some (192, .iaload, 1, 0, 0, 0, 0) from xlk (by decide +kernel)) (xtg_6_9 _ h0.1 h0.2).1 (by rw [(xtg_6_9 _ h0.1 h0.2).2]; exact q1) (n := 193) rfl ?_
    obtain ⟨q0, q1, t⟩ := t
    refine xw_icmp_ne (n := 196) (m := 250) (show xlook 63 193 = some (193, .if_icmp .ne 57, 3, 250, 0, 0, 0) from xlk (by decide +kernel)) rfl rfl q0 q1 ⟨fun c => ?_, fun c => ?_⟩
    · replace t := t.1 c
      refine xw_iinc (n := 253) (show xlook 63 250 = some (250, .iinc 8 1, 3, 0, 0, 0, 0) from xlk (by decide +kernel)) rfl (ls' := [.ref (o0), vi (x1), vi (x2), vi (x3), vi (x4), vi (x5), vi (x6), vi (x7), vi (x8 + 1)]) rfl rfl ?_
      refine xw_goto (m := 96) (show xlook 63 253 = some (253, .goto (-157), 3, 96, 0, 0, 0) from xlk (by decide +kernel)) rfl ?_
      exact t hPT
    · replace t := t.2 c
      refine xw_aload_n (n := 197) (show xlook 63 196 = some (196, .aload_n 0, 1, 0, 0, 0, 0) from xlk (by decide +kernel)) rfl rfl ?_
      obtain ⟨t1, q1, ht1, t⟩ := t
      refine xw_getr (q := t1) (show xlook 63 197 = some (197, .getfield 40, 3, 6, 0, 0, 81) from xlk (by decide +kernel)) (by decide) (xobf h0 (by decide) (by decide)) rfl q1 (by have := ht1.1; omega) (n := 200) rfl ?_
      refine xw_getr (q := t1 + 1) (show xlook 63 200 = some (200, .getfield 92, 3, 9, 5, 0, 92) from xlk (by decide +kernel)) (by decide) (xobf ht1 (by decide) (by decide)) rfl (xPT_get (k := 5) (f := 1) hPT ht1 (by decide)) (by have := (xtg_9_5 _ ht1.1 ht1.2).1.1; omega) (n := 203) rfl ?_
      refine xw_iload (n := 205) (show xlook 63 203 = some (203, .iload 8, 2, 0, 0, 0, 0) from xlk (by decide +kernel)) rfl rfl ?_
      obtain ⟨q1, t⟩ := t
      have hb2 : xob 1 (t1 + 1 + 6 + (x8 : Int).toNat) := xel15 _ (xtg_9_5 _ ht1.1 ht1.2).1.1 (xtg_9_5 _ ht1.1 ht1.2).1.2 _ (xidx10 q1)
      refine xw_aald (q := t1 + 1 + 6 + (x8 : Int).toNat) (show xlook 63 205 = some (205, .aaload, 1, 0, 0, 0, 0) from xlk (by decide +kernel)) ⟨(xtg_9_5 _ ht1.1 ht1.2).1.1, (Or.inl (xtg_9_5 _ ht1.1 ht1.2).1.2)⟩ (by rw [xln15 _ (xtg_9_5 _ ht1.1 ht1.2).1.1 (Or.inl (xtg_9_5 _ ht1.1 ht1.2).1.2)]; exact q1) (xPT_el hPT (Or.inl (xtg_9_5 _ ht1.1 ht1.2).1) q1.1 q1.2) (by have := hb2.1; omega) (n := 206) rfl ?_
      refine xw_geti (show xlook 63 206 = some (206, .getfield 112, 3, 1, 1, 0, 97) from xlk (by decide +kernel)) (by decide) (xobf hb2 (by decide) (by decide)) rfl (n := 209) rfl ?_
      refine xw_iload (n := 211) (show xlook 63 209 = some (209, .iload 4, 2, 0, 0, 0, 0) from xlk (by decide +kernel)) rfl rfl ?_
      obtain ⟨q0, q1, t⟩ := t
      refine xw_icmp_gt (n := 214) (m := 250) (show xlook 63 211 = some (211, .if_icmp .gt 39, 3, 250, 0, 0, 0) from xlk (by decide +kernel)) rfl rfl q0 q1 ⟨fun c => ?_, fun c => ?_⟩
      · replace t := t.1 c
        refine xw_iinc (n := 253) (show xlook 63 250 = some (250, .iinc 8 1, 3, 0, 0, 0, 0) from xlk (by decide +kernel)) rfl (ls' := [.ref (o0), vi (x1), vi (x2), vi (x3), vi (x4), vi (x5), vi (x6), vi (x7), vi (x8 + 1)]) rfl rfl ?_
        refine xw_goto (m := 96) (show xlook 63 253 = some (253, .goto (-157), 3, 96, 0, 0, 0) from xlk (by decide +kernel)) rfl ?_
        exact t hPT
      · replace t := t.2 c
        refine xw_aload_n (n := 215) (show xlook 63 214 = some (214, .aload_n 0, 1, 0, 0, 0, 0) from xlk (by decide +kernel)) rfl rfl ?_
        refine xw_getr (q := o0 + 10) (show xlook 63 215 = some (215, .getfield 28, 3, 6, 9, 0, 78) from xlk (by decide +kernel)) (by decide) (xobf h0 (by decide) (by decide)) rfl (xPT_get (k := 9) (f := 10) hPT h0 (by decide)) (by have := (xtg_6_9 _ h0.1 h0.2).1.1; omega) (n := 218) rfl ?_
        refine xw_iload_n (n := 219) (show xlook 63 218 = some (218, .iload_n 1, 1, 0, 0, 0, 0) from xlk (by decide +kernel)) rfl rfl ?_
        refine xw_dup2 (n := 220) (show xlook 63 219 = some (219, .dup2, 1, 0, 0, 0, 0) from xlk (by decide +kernel)) rfl ?_
        obtain ⟨q1, t⟩ := t
        refine xw_iald (show xlook 63 220 = some (220, .iaload, 1, 0, 0, 0, 0) from xlk (by decide +kernel)) (xtg_6_9 _ h0.1 h0.2).1 (by rw [(xtg_6_9 _ h0.1 h0.2).2]; exact q1) (n := 221) rfl ?_
        refine xw_iconst (n := 222) (show xlook 63 221 = some (221, .iconst 1, 1, 0, 0, 0, 0) from xlk (by decide +kernel)) rfl ?_
        refine xw_iadd (n := 223) (show xlook 63 222 = some (222, .iadd, 1, 0, 0, 0, 0) from xlk (by decide +kernel)) rfl ?_
        obtain ⟨q1, t⟩ := t
        refine xw_iast (show xlook 63 223 = some (223, .iastore, 1, 0, 0, 0, 0) from xlk (by decide +kernel)) (xtg_6_9 _ h0.1 h0.2).1 (by rw [(xtg_6_9 _ h0.1 h0.2).2]; exact q1) (n := 224) rfl ?_
        refine xw_aload_n (n := 225) (show xlook 63 224 = some (224, .aload_n 0, 1, 0, 0, 0, 0) from xlk (by decide +kernel)) rfl rfl ?_
        refine xw_getr (q := o0 + 11) (show xlook 63 225 = some (225, .getfield 31, 3, 6, 10, 0, 79) from xlk (by decide +kernel)) (by decide) (xobf h0 (by decide) (by decide)) rfl (xPT_get (k := 10) (f := 11) (xPT_arr hPT (Or.inl (xtg_6_9 _ h0.1 h0.2).1.2)) h0 (by decide)) (by have := (xtg_6_10 _ h0.1 h0.2).1.1; omega) (n := 228) rfl ?_
        refine xw_iload (n := 230) (show xlook 63 228 = some (228, .iload 8, 2, 0, 0, 0, 0) from xlk (by decide +kernel)) rfl rfl ?_
        refine xw_dup2 (n := 231) (show xlook 63 230 = some (230, .dup2, 1, 0, 0, 0, 0) from xlk (by decide +kernel)) rfl ?_
        obtain ⟨q1, t⟩ := t
        refine xw_iald2 (u := (F) (o0 + 11) (x8)) (show xlook 63 231 = some (231, .iaload, 1, 0, 0, 0, 0) from xlk (by decide +kernel)) (xtg_6_10 _ h0.1 h0.2).1 (by rw [(xtg_6_10 _ h0.1 h0.2).2]; exact q1) (xup_o (by omega)) (n := 232) rfl ?_
        refine xw_iconst (n := 233) (show xlook 63 232 = some (232, .iconst 1, 1, 0, 0, 0, 0) from xlk (by decide +kernel)) rfl ?_
        refine xw_isub (n := 234) (show xlook 63 233 = some (233, .isub, 1, 0, 0, 0, 0) from xlk (by decide +kernel)) rfl ?_
        obtain ⟨q1, t⟩ := t
        refine xw_iast (show xlook 63 234 = some (234, .iastore, 1, 0, 0, 0, 0) from xlk (by decide +kernel)) (xtg_6_10 _ h0.1 h0.2).1 (by rw [(xtg_6_10 _ h0.1 h0.2).2]; exact q1) (n := 235) rfl ?_
        refine xw_aload_n (n := 236) (show xlook 63 235 = some (235, .aload_n 0, 1, 0, 0, 0, 0) from xlk (by decide +kernel)) rfl rfl ?_
        refine xw_getr (q := o0 + 13) (show xlook 63 236 = some (236, .getfield 49, 3, 6, 12, 0, 82) from xlk (by decide +kernel)) (by decide) (xobf h0 (by decide) (by decide)) rfl (xPT_get (k := 12) (f := 13) (xPT_arr (xPT_arr hPT (Or.inl (xtg_6_9 _ h0.1 h0.2).1.2)) (Or.inl (xtg_6_10 _ h0.1 h0.2).1.2)) h0 (by decide)) (by have := (xtg_6_12 _ h0.1 h0.2).1; omega) (n := 239) rfl ?_
        refine xw_iconst (n := 240) (show xlook 63 239 = some (239, .iconst 1, 1, 0, 0, 0, 0) from xlk (by decide +kernel)) rfl ?_
        refine xw_aload_n (n := 241) (show xlook 63 240 = some (240, .aload_n 0, 1, 0, 0, 0, 0) from xlk (by decide +kernel)) rfl rfl ?_
        refine xw_geti2 (u := (F) (o0) 2) (show xlook 63 241 = some (241, .getfield 58, 3, 6, 2, 0, 83) from xlk (by decide +kernel)) (by decide) (xobf h0 (by decide) (by decide)) rfl ((xup_o (by omega)).trans (xup_o (by omega))) (n := 244) rfl ?_
        refine xw_iload (n := 246) (show xlook 63 244 = some (244, .iload 8, 2, 0, 0, 0, 0) from xlk (by decide +kernel)) rfl rfl ?_
        refine xw_iload_n (n := 247) (show xlook 63 246 = some (246, .iload_n 2, 1, 0, 0, 0, 0) from xlk (by decide +kernel)) rfl rfl ?_
        obtain ⟨j3, hj3, rr3, G3, hm3, hG3, t⟩ := t
        obtain ⟨rfl, t⟩ := t
        refine xw_callv (dk := j3) (o := o0 + 13) (as := [vi (1), vi ((F) (o0) 2), vi (x8), vi (x2)]) (show xlook 63 247 = some (247, .invokevirtual 206, 3, 17, 5, 0, 74) from xlk (by decide +kernel)) (by decide) hj3 ⟨Nat.le_of_ble_eq_true rfl, Nat.le_of_ble_eq_true rfl, Nat.le_of_ble_eq_true rfl⟩ ⟨(xtg_6_12 _ h0.1 h0.2).1, (xtg_6_12 _ h0.1 h0.2).2, by decide⟩ rfl hm3 (n := 250) rfl ?_
        show xW X d 63 250 [.ref (o0), vi (x1), vi (x2), vi (x3), vi (x4), vi (x5), vi (x6), vi (x7), vi (x8)] [] G3 (xqv Q)
        refine xw_iinc (n := 253) (show xlook 63 250 = some (250, .iinc 8 1, 3, 0, 0, 0, 0) from xlk (by decide +kernel)) rfl (ls' := [.ref (o0), vi (x1), vi (x2), vi (x3), vi (x4), vi (x5), vi (x6), vi (x7), vi (x8 + 1)]) rfl rfl ?_
        refine xw_goto (m := 96) (show xlook 63 253 = some (253, .goto (-157), 3, 96, 0, 0, 0) from xlk (by decide +kernel)) rfl ?_
        exact t hG3

theorem s63_256 {X : List Int32} {d : Nat} {F : XF} {Q : XF → Prop} {o0 : Nat} {x1 : Int} {x2 : Int} {x3 : Int} {x4 : Int} {x5 : Int} {x6 : Int} {w7 : Value} {w8 : Value} (hPT : xPT F) (h0 : xob 6 o0) (t : ∃ t1 : Nat, (F) (o0) 0 = (t1 : Int) ∧ xob 9 t1 ∧ (inR (x4) ∧ inR ((F) (t1) 0) ∧ ((((x4) < ((F) (t1) 0)) → (xPT (F) → Q (F))) ∧ (¬ ((x4) < ((F) (t1) 0)) → (∃ (j2 : Nat), j2 < d ∧ xMV X j2 17 [.ref (o0 + 13), vi (2), vi ((F) (o0) 2), vi ((-1)), vi (x1)] (xup (F) (o0) 3 ((x1) + (1))) (fun (G2 : XF) => (xPT (G2) → Q (G2)))))))) : xW X d 63 256 [.ref (o0), vi (x1), vi (x2), vi (x3), vi (x4), vi (x5), vi (x6), w7, w8] [] F (xqv Q) := by
  refine xw_iload (n := 258) (show xlook 63 256 = some (256, .iload 4, 2, 0, 0, 0, 0) from xlk (by decide +kernel)) rfl rfl ?_
  refine xw_aload_n (n := 259) (show xlook 63 258 = some (258, .aload_n 0, 1, 0, 0, 0, 0) from xlk (by decide +kernel)) rfl rfl ?_
  obtain ⟨t1, q1, ht1, t⟩ := t
  refine xw_getr (q := t1) (show xlook 63 259 = some (259, .getfield 40, 3, 6, 0, 0, 81) from xlk (by decide +kernel)) (by decide) (xobf h0 (by decide) (by decide)) rfl q1 (by have := ht1.1; omega) (n := 262) rfl ?_
  refine xw_geti (show xlook 63 262 = some (262, .getfield 173, 3, 9, 0, 0, 104) from xlk (by decide +kernel)) (by decide) (xobf ht1 (by decide) (by decide)) rfl (n := 265) rfl ?_
  obtain ⟨q0, q1, t⟩ := t
  refine xw_icmp_lt (n := 268) (m := 289) (show xlook 63 265 = some (265, .if_icmp .lt 24, 3, 289, 0, 0, 0) from xlk (by decide +kernel)) rfl rfl q0 q1 ⟨fun c => ?_, fun c => ?_⟩
  · replace t := t.1 c
    exact xw_return hPT (show xlook 63 289 = some (289, .return_, 1, 0, 0, 0, 0) from xlk (by decide +kernel)) rfl (t hPT)
  · replace t := t.2 c
    refine xw_aload_n (n := 269) (show xlook 63 268 = some (268, .aload_n 0, 1, 0, 0, 0, 0) from xlk (by decide +kernel)) rfl rfl ?_
    refine xw_iload_n (n := 270) (show xlook 63 269 = some (269, .iload_n 1, 1, 0, 0, 0, 0) from xlk (by decide +kernel)) rfl rfl ?_
    refine xw_iconst (n := 271) (show xlook 63 270 = some (270, .iconst 1, 1, 0, 0, 0, 0) from xlk (by decide +kernel)) rfl ?_
    refine xw_iadd (n := 272) (show xlook 63 271 = some (271, .iadd, 1, 0, 0, 0, 0) from xlk (by decide +kernel)) rfl ?_
    refine xw_puti (show xlook 63 272 = some (272, .putfield 62, 3, 6, 3, 0, 84) from xlk (by decide +kernel)) (xobf h0 (by decide) (by decide)) rfl (n := 275) rfl ?_
    refine xw_aload_n (n := 276) (show xlook 63 275 = some (275, .aload_n 0, 1, 0, 0, 0, 0) from xlk (by decide +kernel)) rfl rfl ?_
    refine xw_getr (q := o0 + 13) (show xlook 63 276 = some (276, .getfield 49, 3, 6, 12, 0, 82) from xlk (by decide +kernel)) (by decide) (xobf h0 (by decide) (by decide)) rfl (xPT_get (k := 12) (f := 13) (xPT_fld (k := 3) hPT h0 (by decide) (by decide)) h0 (by decide)) (by have := (xtg_6_12 _ h0.1 h0.2).1; omega) (n := 279) rfl ?_
    refine xw_iconst (n := 280) (show xlook 63 279 = some (279, .iconst 2, 1, 0, 0, 0, 0) from xlk (by decide +kernel)) rfl ?_
    refine xw_aload_n (n := 281) (show xlook 63 280 = some (280, .aload_n 0, 1, 0, 0, 0, 0) from xlk (by decide +kernel)) rfl rfl ?_
    refine xw_geti2 (u := (F) (o0) 2) (show xlook 63 281 = some (281, .getfield 58, 3, 6, 2, 0, 83) from xlk (by decide +kernel)) (by decide) (xobf h0 (by decide) (by decide)) rfl (xup_i (by decide)) (n := 284) rfl ?_
    refine xw_iconst (n := 285) (show xlook 63 284 = some (284, .iconst (-1), 1, 0, 0, 0, 0) from xlk (by decide +kernel)) rfl ?_
    refine xw_iload_n (n := 286) (show xlook 63 285 = some (285, .iload_n 1, 1, 0, 0, 0, 0) from xlk (by decide +kernel)) rfl rfl ?_
    obtain ⟨j2, hj2, rr2, G2, hm2, hG2, t⟩ := t
    obtain ⟨rfl, t⟩ := t
    refine xw_callv (dk := j2) (o := o0 + 13) (as := [vi (2), vi ((F) (o0) 2), vi ((-1)), vi (x1)]) (show xlook 63 286 = some (286, .invokevirtual 206, 3, 17, 5, 0, 74) from xlk (by decide +kernel)) (by decide) hj2 ⟨Nat.le_of_ble_eq_true rfl, Nat.le_of_ble_eq_true rfl, Nat.le_of_ble_eq_true rfl⟩ ⟨(xtg_6_12 _ h0.1 h0.2).1, (xtg_6_12 _ h0.1 h0.2).2, by decide⟩ rfl hm2 (n := 289) rfl ?_
    show xW X d 63 289 [.ref (o0), vi (x1), vi (x2), vi (x3), vi (x4), vi (x5), vi (x6), w7, w8] [] G2 (xqv Q)
    exact xw_return hG2 (show xlook 63 289 = some (289, .return_, 1, 0, 0, 0, 0) from xlk (by decide +kernel)) rfl (t hG2)

theorem s65_0 {X : List Int32} {d : Nat} {F : XF} {Q : XF → Prop} {o0 : Nat} {o1 : Nat} {w2 : Value} {w3 : Value} (hPT : xPT F) (h0 : xob 7 o0) (h1 : xob 9 o1) (t : xPT (xup (F) (o0) 0 (0)) → xW X d 65 7 [.ref (o0), .ref (o1), vi (0), w3] [] (xup (F) (o0) 0 (0)) (xqv Q)) : xW X d 65 0 [.ref (o0), .ref (o1), w2, w3] [] F (xqv Q) := by
  refine xw_aload_n (n := 1) (show xlook 65 0 = some (0, .aload_n 0, 1, 0, 0, 0, 0) from xlk (by decide +kernel)) rfl rfl ?_
  refine xw_iconst (n := 2) (show xlook 65 1 = some (1, .iconst 0, 1, 0, 0, 0, 0) from xlk (by decide +kernel)) rfl ?_
  refine xw_puti (show xlook 65 2 = some (2, .putfield 27, 3, 7, 0, 0, 113) from xlk (by decide +kernel)) (xobf h0 (by decide) (by decide)) rfl (n := 5) rfl ?_
  refine xw_iconst (n := 6) (show xlook 65 5 = some (5, .iconst 0, 1, 0, 0, 0, 0) from xlk (by decide +kernel)) rfl ?_
  refine xw_istore_n (n := 7) (show xlook 65 6 = some (6, .istore_n 2, 1, 0, 0, 0, 0) from xlk (by decide +kernel)) rfl (ls' := [.ref (o0), .ref (o1), vi (0), w3]) (Nat.le_of_ble_eq_true rfl) rfl ?_
  exact t (xPT_fld (k := 0) hPT h0 (by decide) (by decide))
theorem m65 {X : List Int32} {d : Nat} {F : XF} {Q : XF → Prop} {o0 : Nat} {o1 : Nat} (hPT : xPT F) (h0 : xob 7 o0) (h1 : xob 9 o1) (t : xPT (xup (F) (o0) 0 (0)) → xW X d 65 7 [.ref (o0), .ref (o1), vi (0), xU0] [] (xup (F) (o0) 0 (0)) (xqv Q)) : xMV X d 65 [.ref (o0), .ref (o1)] F Q := by
  show xW X d 65 0 [.ref (o0), .ref (o1), xU0, xU0] [] F (xqv Q)
  exact s65_0 hPT h0 h1 t

theorem s65_7 {X : List Int32} {d : Nat} {F : XF} {Q : XF → Prop} {o0 : Nat} {o1 : Nat} {x2 : Int} {w3 : Value} (hPT : xPT F) (h0 : xob 7 o0) (h1 : xob 9 o1) (t : inR (x2) ∧ inR ((F) (o1) 6) ∧ (((((F) (o1) 6) ≤ (x2)) → (xPT (F) → xW X d 65 137 [.ref (o0), .ref (o1), vi (0), w3] [] (F) (xqv Q))) ∧ (¬ (((F) (o1) 6) ≤ (x2)) → (inR (x2) ∧ ((((x2) = (0)) → (xPT (F) → xW X d 65 32 [.ref (o0), .ref (o1), vi (x2), w3] [] (F) (xqv Q))) ∧ (¬ ((x2) = (0)) → (inR (xand (xshr ((F) (o1) 8) ((x2) - (1))) (1)) ∧ ((((xand (xshr ((F) (o1) 8) ((x2) - (1))) (1)) = (0)) → ((0 ≤ (((F) (o0) 0) - (1)) ∧ (((F) (o0) 0) - (1)) < 30) ∧ ((0 ≤ (x2) ∧ (x2) < 30) ∧ ((0 ≤ (((F) (o0) 0) - (1)) ∧ (((F) (o0) 0) - (1)) < 30) ∧ (xPT (xup (F) (o0 + 3) (((F) (o0) 0) - (1)) (((F) (o0 + 3) (((F) (o0) 0) - (1))) + (((F) (o1) 2) + ((F) (o1 + 2) (x2))))) → xW X d 65 105 [.ref (o0), .ref (o1), vi (x2), vi (0)] [] (xup (F) (o0 + 3) (((F) (o0) 0) - (1)) (((F) (o0 + 3) (((F) (o0) 0) - (1))) + (((F) (o1) 2) + ((F) (o1 + 2) (x2))))) (xqv Q)))))) ∧ (¬ ((xand (xshr ((F) (o1) 8) ((x2) - (1))) (1)) = (0)) → (xPT (F) → xW X d 65 32 [.ref (o0), .ref (o1), vi (x2), w3] [] (F) (xqv Q))))))))))) : xW X d 65 7 [.ref (o0), .ref (o1), vi (x2), w3] [] F (xqv Q) := by
  refine xw_iload_n (n := 8) (show xlook 65 7 = some (7, .iload_n 2, 1, 0, 0, 0, 0) from xlk (by decide +kernel)) rfl rfl ?_
  refine xw_aload_n (n := 9) (show xlook 65 8 = some (8, .aload_n 1, 1, 0, 0, 0, 0) from xlk (by decide +kernel)) rfl rfl ?_
  refine xw_geti (show xlook 65 9 = some (9, .getfield 31, 3, 9, 6, 0, 114) from xlk (by decide +kernel)) (by decide) (xobf h1 (by decide) (by decide)) rfl (n := 12) rfl ?_
  obtain ⟨q0, q1, t⟩ := t
  refine xw_icmp_ge (n := 15) (m := 135) (show xlook 65 12 = some (12, .if_icmp .ge 123, 3, 135, 0, 0, 0) from xlk (by decide +kernel)) rfl rfl q0 q1 ⟨fun c => ?_, fun c => ?_⟩
  · replace t := t.1 c
    refine xw_iconst (n := 136) (show xlook 65 135 = some (135, .iconst 0, 1, 0, 0, 0, 0) from xlk (by decide +kernel)) rfl ?_
    refine xw_istore_n (n := 137) (show xlook 65 136 = some (136, .istore_n 2, 1, 0, 0, 0, 0) from xlk (by decide +kernel)) rfl (ls' := [.ref (o0), .ref (o1), vi (0), w3]) (Nat.le_of_ble_eq_true rfl) rfl ?_
    exact t hPT
  · replace t := t.2 c
    refine xw_iload_n (n := 16) (show xlook 65 15 = some (15, .iload_n 2, 1, 0, 0, 0, 0) from xlk (by decide +kernel)) rfl rfl ?_
    obtain ⟨q0, t⟩ := t
    refine xw_if_eq (n := 19) (m := 32) (show xlook 65 16 = some (16, .ifCond .eq 16, 3, 32, 0, 0, 0) from xlk (by decide +kernel)) rfl rfl q0 ⟨fun c => ?_, fun c => ?_⟩
    · replace t := t.1 c
      exact t hPT
    · replace t := t.2 c
      refine xw_aload_n (n := 20) (show xlook 65 19 = some (19, .aload_n 1, 1, 0, 0, 0, 0) from xlk (by decide +kernel)) rfl rfl ?_
      refine xw_geti (show xlook 65 20 = some (20, .getfield 36, 3, 9, 8, 0, 115) from xlk (by decide +kernel)) (by decide) (xobf h1 (by decide) (by decide)) rfl (n := 23) rfl ?_
      refine xw_iload_n (n := 24) (show xlook 65 23 = some (23, .iload_n 2, 1, 0, 0, 0, 0) from xlk (by decide +kernel)) rfl rfl ?_
      refine xw_iconst (n := 25) (show xlook 65 24 = some (24, .iconst 1, 1, 0, 0, 0, 0) from xlk (by decide +kernel)) rfl ?_
      refine xw_isub (n := 26) (show xlook 65 25 = some (25, .isub, 1, 0, 0, 0, 0) from xlk (by decide +kernel)) rfl ?_
      refine xw_ishr (n := 27) (show xlook 65 26 = some (26, .ishr, 1, 0, 0, 0, 0) from xlk (by decide +kernel)) rfl ?_
      refine xw_iconst (n := 28) (show xlook 65 27 = some (27, .iconst 1, 1, 0, 0, 0, 0) from xlk (by decide +kernel)) rfl ?_
      refine xw_iand (n := 29) (show xlook 65 28 = some (28, .iand, 1, 0, 0, 0, 0) from xlk (by decide +kernel)) rfl ?_
      obtain ⟨q0, t⟩ := t
      refine xw_if_eq (n := 32) (m := 36) (show xlook 65 29 = some (29, .ifCond .eq 7, 3, 36, 0, 0, 0) from xlk (by decide +kernel)) rfl rfl q0 ⟨fun c => ?_, fun c => ?_⟩
      · replace t := t.1 c
        refine xw_iconst (n := 37) (show xlook 65 36 = some (36, .iconst 0, 1, 0, 0, 0, 0) from xlk (by decide +kernel)) rfl ?_
        refine xw_istore_n (n := 38) (show xlook 65 37 = some (37, .istore_n 3, 1, 0, 0, 0, 0) from xlk (by decide +kernel)) rfl (ls' := [.ref (o0), .ref (o1), vi (x2), vi (0)]) (Nat.le_of_ble_eq_true rfl) rfl ?_
        refine xw_iload_n (n := 39) (show xlook 65 38 = some (38, .iload_n 3, 1, 0, 0, 0, 0) from xlk (by decide +kernel)) rfl rfl ?_
        refine xw_if_eq (n := 42) (m := 80) (show xlook 65 39 = some (39, .ifCond .eq 41, 3, 80, 0, 0, 0) from xlk (by decide +kernel)) rfl rfl ⟨by decide, by decide⟩ ⟨fun _ => ?_, fun c => absurd c (by decide)⟩
        refine xw_aload_n (n := 81) (show xlook 65 80 = some (80, .aload_n 0, 1, 0, 0, 0, 0) from xlk (by decide +kernel)) rfl rfl ?_
        refine xw_getr (q := o0 + 3) (show xlook 65 81 = some (81, .getfield 18, 3, 7, 3, 0, 110) from xlk (by decide +kernel)) (by decide) (xobf h0 (by decide) (by decide)) rfl (xPT_get (k := 3) (f := 3) hPT h0 (by decide)) (by have := (xtg_7_3 _ h0.1 h0.2).1.1; omega) (n := 84) rfl ?_
        refine xw_aload_n (n := 85) (show xlook 65 84 = some (84, .aload_n 0, 1, 0, 0, 0, 0) from xlk (by decide +kernel)) rfl rfl ?_
        refine xw_geti (show xlook 65 85 = some (85, .getfield 27, 3, 7, 0, 0, 113) from xlk (by decide +kernel)) (by decide) (xobf h0 (by decide) (by decide)) rfl (n := 88) rfl ?_
        refine xw_iconst (n := 89) (show xlook 65 88 = some (88, .iconst 1, 1, 0, 0, 0, 0) from xlk (by decide +kernel)) rfl ?_
        refine xw_isub (n := 90) (show xlook 65 89 = some (89, .isub, 1, 0, 0, 0, 0) from xlk (by decide +kernel)) rfl ?_
        refine xw_dup2 (n := 91) (show xlook 65 90 = some (90, .dup2, 1, 0, 0, 0, 0) from xlk (by decide +kernel)) rfl ?_
        obtain ⟨q1, t⟩ := t
        refine xw_iald (show xlook 65 91 = some (91, .iaload, 1, 0, 0, 0, 0) from xlk (by decide +kernel)) (xtg_7_3 _ h0.1 h0.2).1 (by rw [(xtg_7_3 _ h0.1 h0.2).2]; exact q1) (n := 92) rfl ?_
        refine xw_aload_n (n := 93) (show xlook 65 92 = some (92, .aload_n 1, 1, 0, 0, 0, 0) from xlk (by decide +kernel)) rfl rfl ?_
        refine xw_geti (show xlook 65 93 = some (93, .getfield 42, 3, 9, 2, 0, 117) from xlk (by decide +kernel)) (by decide) (xobf h1 (by decide) (by decide)) rfl (n := 96) rfl ?_
        refine xw_aload_n (n := 97) (show xlook 65 96 = some (96, .aload_n 1, 1, 0, 0, 0, 0) from xlk (by decide +kernel)) rfl rfl ?_
        refine xw_getr (q := o1 + 2) (show xlook 65 97 = some (97, .getfield 39, 3, 9, 7, 0, 116) from xlk (by decide +kernel)) (by decide) (xobf h1 (by decide) (by decide)) rfl (xPT_get (k := 7) (f := 2) hPT h1 (by decide)) (by have := (xtg_9_7 _ h1.1 h1.2).1.1; omega) (n := 100) rfl ?_
        refine xw_iload_n (n := 101) (show xlook 65 100 = some (100, .iload_n 2, 1, 0, 0, 0, 0) from xlk (by decide +kernel)) rfl rfl ?_
        obtain ⟨q1, t⟩ := t
        refine xw_iald (show xlook 65 101 = some (101, .iaload, 1, 0, 0, 0, 0) from xlk (by decide +kernel)) (xtg_9_7 _ h1.1 h1.2).1 (by rw [(xtg_9_7 _ h1.1 h1.2).2]; exact q1) (n := 102) rfl ?_
        refine xw_iadd (n := 103) (show xlook 65 102 = some (102, .iadd, 1, 0, 0, 0, 0) from xlk (by decide +kernel)) rfl ?_
        refine xw_iadd (n := 104) (show xlook 65 103 = some (103, .iadd, 1, 0, 0, 0, 0) from xlk (by decide +kernel)) rfl ?_
        obtain ⟨q1, t⟩ := t
        refine xw_iast (show xlook 65 104 = some (104, .iastore, 1, 0, 0, 0, 0) from xlk (by decide +kernel)) (xtg_7_3 _ h0.1 h0.2).1 (by rw [(xtg_7_3 _ h0.1 h0.2).2]; exact q1) (n := 105) rfl ?_
        exact t (xPT_arr hPT (Or.inl (xtg_7_3 _ h0.1 h0.2).1.2))
      · replace t := t.2 c
        exact t hPT

theorem s65_32 {X : List Int32} {d : Nat} {F : XF} {Q : XF → Prop} {o0 : Nat} {o1 : Nat} {x2 : Int} {w3 : Value} (hPT : xPT F) (h0 : xob 7 o0) (h1 : xob 9 o1) (t : (0 ≤ ((F) (o0) 0) ∧ ((F) (o0) 0) < 30) ∧ ((0 ≤ (x2) ∧ (x2) < 30) ∧ ((0 ≤ ((F) (o0) 0) ∧ ((F) (o0) 0) < 30) ∧ (xPT (xup (xup (xup (F) (o0 + 1) ((F) (o0) 0) (x2)) (o0 + 3) ((F) (o0) 0) ((xup (F) (o0 + 1) ((F) (o0) 0) (x2)) (o1 + 2) (x2))) (o0) 0 (((F) (o0) 0) + (1))) → xW X d 65 105 [.ref (o0), .ref (o1), vi (x2), vi (1)] [] (xup (xup (xup (F) (o0 + 1) ((F) (o0) 0) (x2)) (o0 + 3) ((F) (o0) 0) ((xup (F) (o0 + 1) ((F) (o0) 0) (x2)) (o1 + 2) (x2))) (o0) 0 (((F) (o0) 0) + (1))) (xqv Q))))) : xW X d 65 32 [.ref (o0), .ref (o1), vi (x2), w3] [] F (xqv Q) := by
  refine xw_iconst (n := 33) (show xlook 65 32 = some (32, .iconst 1, 1, 0, 0, 0, 0) from xlk (by decide +kernel)) rfl ?_
  refine xw_goto (m := 37) (show xlook 65 33 = some (33, .goto 4, 3, 37, 0, 0, 0) from xlk (by decide +kernel)) rfl ?_
  refine xw_istore_n (n := 38) (show xlook 65 37 = some (37, .istore_n 3, 1, 0, 0, 0, 0) from xlk (by decide +kernel)) rfl (ls' := [.ref (o0), .ref (o1), vi (x2), vi (1)]) (Nat.le_of_ble_eq_true rfl) rfl ?_
  refine xw_iload_n (n := 39) (show xlook 65 38 = some (38, .iload_n 3, 1, 0, 0, 0, 0) from xlk (by decide +kernel)) rfl rfl ?_
  refine xw_if_eq (n := 42) (m := 80) (show xlook 65 39 = some (39, .ifCond .eq 41, 3, 80, 0, 0, 0) from xlk (by decide +kernel)) rfl rfl ⟨by decide, by decide⟩ ⟨fun c => absurd c (by decide), fun _ => ?_⟩
  refine xw_aload_n (n := 43) (show xlook 65 42 = some (42, .aload_n 0, 1, 0, 0, 0, 0) from xlk (by decide +kernel)) rfl rfl ?_
  refine xw_getr (q := o0 + 1) (show xlook 65 43 = some (43, .getfield 9, 3, 7, 1, 0, 108) from xlk (by decide +kernel)) (by decide) (xobf h0 (by decide) (by decide)) rfl (xPT_get (k := 1) (f := 1) hPT h0 (by decide)) (by have := (xtg_7_1 _ h0.1 h0.2).1.1; omega) (n := 46) rfl ?_
  refine xw_aload_n (n := 47) (show xlook 65 46 = some (46, .aload_n 0, 1, 0, 0, 0, 0) from xlk (by decide +kernel)) rfl rfl ?_
  refine xw_geti (show xlook 65 47 = some (47, .getfield 27, 3, 7, 0, 0, 113) from xlk (by decide +kernel)) (by decide) (xobf h0 (by decide) (by decide)) rfl (n := 50) rfl ?_
  refine xw_iload_n (n := 51) (show xlook 65 50 = some (50, .iload_n 2, 1, 0, 0, 0, 0) from xlk (by decide +kernel)) rfl rfl ?_
  obtain ⟨q1, t⟩ := t
  refine xw_iast (show xlook 65 51 = some (51, .iastore, 1, 0, 0, 0, 0) from xlk (by decide +kernel)) (xtg_7_1 _ h0.1 h0.2).1 (by rw [(xtg_7_1 _ h0.1 h0.2).2]; exact q1) (n := 52) rfl ?_
  refine xw_aload_n (n := 53) (show xlook 65 52 = some (52, .aload_n 0, 1, 0, 0, 0, 0) from xlk (by decide +kernel)) rfl rfl ?_
  refine xw_getr (q := o0 + 3) (show xlook 65 53 = some (53, .getfield 18, 3, 7, 3, 0, 110) from xlk (by decide +kernel)) (by decide) (xobf h0 (by decide) (by decide)) rfl (xPT_get (k := 3) (f := 3) (xPT_arr hPT (Or.inl (xtg_7_1 _ h0.1 h0.2).1.2)) h0 (by decide)) (by have := (xtg_7_3 _ h0.1 h0.2).1.1; omega) (n := 56) rfl ?_
  refine xw_aload_n (n := 57) (show xlook 65 56 = some (56, .aload_n 0, 1, 0, 0, 0, 0) from xlk (by decide +kernel)) rfl rfl ?_
  refine xw_geti2 (u := (F) (o0) 0) (show xlook 65 57 = some (57, .getfield 27, 3, 7, 0, 0, 113) from xlk (by decide +kernel)) (by decide) (xobf h0 (by decide) (by decide)) rfl (xup_o (by omega)) (n := 60) rfl ?_
  refine xw_aload_n (n := 61) (show xlook 65 60 = some (60, .aload_n 1, 1, 0, 0, 0, 0) from xlk (by decide +kernel)) rfl rfl ?_
  refine xw_getr (q := o1 + 2) (show xlook 65 61 = some (61, .getfield 39, 3, 9, 7, 0, 116) from xlk (by decide +kernel)) (by decide) (xobf h1 (by decide) (by decide)) rfl (xPT_get (k := 7) (f := 2) (xPT_arr hPT (Or.inl (xtg_7_1 _ h0.1 h0.2).1.2)) h1 (by decide)) (by have := (xtg_9_7 _ h1.1 h1.2).1.1; omega) (n := 64) rfl ?_
  refine xw_iload_n (n := 65) (show xlook 65 64 = some (64, .iload_n 2, 1, 0, 0, 0, 0) from xlk (by decide +kernel)) rfl rfl ?_
  obtain ⟨q1, t⟩ := t
  refine xw_iald (show xlook 65 65 = some (65, .iaload, 1, 0, 0, 0, 0) from xlk (by decide +kernel)) (xtg_9_7 _ h1.1 h1.2).1 (by rw [(xtg_9_7 _ h1.1 h1.2).2]; exact q1) (n := 66) rfl ?_
  obtain ⟨q1, t⟩ := t
  refine xw_iast (show xlook 65 66 = some (66, .iastore, 1, 0, 0, 0, 0) from xlk (by decide +kernel)) (xtg_7_3 _ h0.1 h0.2).1 (by rw [(xtg_7_3 _ h0.1 h0.2).2]; exact q1) (n := 67) rfl ?_
  refine xw_aload_n (n := 68) (show xlook 65 67 = some (67, .aload_n 0, 1, 0, 0, 0, 0) from xlk (by decide +kernel)) rfl rfl ?_
  refine xw_dupr (n := 69) (show xlook 65 68 = some (68, .dup, 1, 0, 0, 0, 0) from xlk (by decide +kernel)) rfl ?_
  refine xw_geti2 (u := (F) (o0) 0) (show xlook 65 69 = some (69, .getfield 27, 3, 7, 0, 0, 113) from xlk (by decide +kernel)) (by decide) (xobf h0 (by decide) (by decide)) rfl ((xup_o (by omega)).trans (xup_o (by omega))) (n := 72) rfl ?_
  refine xw_iconst (n := 73) (show xlook 65 72 = some (72, .iconst 1, 1, 0, 0, 0, 0) from xlk (by decide +kernel)) rfl ?_
  refine xw_iadd (n := 74) (show xlook 65 73 = some (73, .iadd, 1, 0, 0, 0, 0) from xlk (by decide +kernel)) rfl ?_
  refine xw_puti (show xlook 65 74 = some (74, .putfield 27, 3, 7, 0, 0, 113) from xlk (by decide +kernel)) (xobf h0 (by decide) (by decide)) rfl (n := 77) rfl ?_
  refine xw_goto (m := 105) (show xlook 65 77 = some (77, .goto 28, 3, 105, 0, 0, 0) from xlk (by decide +kernel)) rfl ?_
  exact t (xPT_fld (k := 0) (xPT_arr (xPT_arr hPT (Or.inl (xtg_7_1 _ h0.1 h0.2).1.2)) (Or.inl (xtg_7_3 _ h0.1 h0.2).1.2)) h0 (by decide) (by decide))

theorem s65_105 {X : List Int32} {d : Nat} {F : XF} {Q : XF → Prop} {o0 : Nat} {o1 : Nat} {x2 : Int} {x3 : Int} (hPT : xPT F) (h0 : xob 7 o0) (h1 : xob 9 o1) (t : (0 ≤ (((F) (o0) 0) - (1)) ∧ (((F) (o0) 0) - (1)) < 30) ∧ ((0 ≤ (x2) ∧ (x2) < 30) ∧ (xPT (xup (xup (F) (o0 + 2) (((F) (o0) 0) - (1)) (x2)) (o0 + 4) (x2) (((F) (o0) 0) - (1))) → xW X d 65 7 [.ref (o0), .ref (o1), vi (x2 + 1), vi (x3)] [] (xup (xup (F) (o0 + 2) (((F) (o0) 0) - (1)) (x2)) (o0 + 4) (x2) (((F) (o0) 0) - (1))) (xqv Q)))) : xW X d 65 105 [.ref (o0), .ref (o1), vi (x2), vi (x3)] [] F (xqv Q) := by
  refine xw_aload_n (n := 106) (show xlook 65 105 = some (105, .aload_n 0, 1, 0, 0, 0, 0) from xlk (by decide +kernel)) rfl rfl ?_
  refine xw_getr (q := o0 + 2) (show xlook 65 106 = some (106, .getfield 15, 3, 7, 2, 0, 109) from xlk (by decide +kernel)) (by decide) (xobf h0 (by decide) (by decide)) rfl (xPT_get (k := 2) (f := 2) hPT h0 (by decide)) (by have := (xtg_7_2 _ h0.1 h0.2).1.1; omega) (n := 109) rfl ?_
  refine xw_aload_n (n := 110) (show xlook 65 109 = some (109, .aload_n 0, 1, 0, 0, 0, 0) from xlk (by decide +kernel)) rfl rfl ?_
  refine xw_geti (show xlook 65 110 = some (110, .getfield 27, 3, 7, 0, 0, 113) from xlk (by decide +kernel)) (by decide) (xobf h0 (by decide) (by decide)) rfl (n := 113) rfl ?_
  refine xw_iconst (n := 114) (show xlook 65 113 = some (113, .iconst 1, 1, 0, 0, 0, 0) from xlk (by decide +kernel)) rfl ?_
  refine xw_isub (n := 115) (show xlook 65 114 = some (114, .isub, 1, 0, 0, 0, 0) from xlk (by decide +kernel)) rfl ?_
  refine xw_iload_n (n := 116) (show xlook 65 115 = some (115, .iload_n 2, 1, 0, 0, 0, 0) from xlk (by decide +kernel)) rfl rfl ?_
  obtain ⟨q1, t⟩ := t
  refine xw_iast (show xlook 65 116 = some (116, .iastore, 1, 0, 0, 0, 0) from xlk (by decide +kernel)) (xtg_7_2 _ h0.1 h0.2).1 (by rw [(xtg_7_2 _ h0.1 h0.2).2]; exact q1) (n := 117) rfl ?_
  refine xw_aload_n (n := 118) (show xlook 65 117 = some (117, .aload_n 0, 1, 0, 0, 0, 0) from xlk (by decide +kernel)) rfl rfl ?_
  refine xw_getr (q := o0 + 4) (show xlook 65 118 = some (118, .getfield 21, 3, 7, 4, 0, 111) from xlk (by decide +kernel)) (by decide) (xobf h0 (by decide) (by decide)) rfl (xPT_get (k := 4) (f := 4) (xPT_arr hPT (Or.inl (xtg_7_2 _ h0.1 h0.2).1.2)) h0 (by decide)) (by have := (xtg_7_4 _ h0.1 h0.2).1.1; omega) (n := 121) rfl ?_
  refine xw_iload_n (n := 122) (show xlook 65 121 = some (121, .iload_n 2, 1, 0, 0, 0, 0) from xlk (by decide +kernel)) rfl rfl ?_
  refine xw_aload_n (n := 123) (show xlook 65 122 = some (122, .aload_n 0, 1, 0, 0, 0, 0) from xlk (by decide +kernel)) rfl rfl ?_
  refine xw_geti2 (u := (F) (o0) 0) (show xlook 65 123 = some (123, .getfield 27, 3, 7, 0, 0, 113) from xlk (by decide +kernel)) (by decide) (xobf h0 (by decide) (by decide)) rfl (xup_o (by omega)) (n := 126) rfl ?_
  refine xw_iconst (n := 127) (show xlook 65 126 = some (126, .iconst 1, 1, 0, 0, 0, 0) from xlk (by decide +kernel)) rfl ?_
  refine xw_isub (n := 128) (show xlook 65 127 = some (127, .isub, 1, 0, 0, 0, 0) from xlk (by decide +kernel)) rfl ?_
  obtain ⟨q1, t⟩ := t
  refine xw_iast (show xlook 65 128 = some (128, .iastore, 1, 0, 0, 0, 0) from xlk (by decide +kernel)) (xtg_7_4 _ h0.1 h0.2).1 (by rw [(xtg_7_4 _ h0.1 h0.2).2]; exact q1) (n := 129) rfl ?_
  refine xw_iinc (n := 132) (show xlook 65 129 = some (129, .iinc 2 1, 3, 0, 0, 0, 0) from xlk (by decide +kernel)) rfl (ls' := [.ref (o0), .ref (o1), vi (x2 + 1), vi (x3)]) rfl rfl ?_
  refine xw_goto (m := 7) (show xlook 65 132 = some (132, .goto (-125), 3, 7, 0, 0, 0) from xlk (by decide +kernel)) rfl ?_
  exact t (xPT_arr (xPT_arr hPT (Or.inl (xtg_7_2 _ h0.1 h0.2).1.2)) (Or.inl (xtg_7_4 _ h0.1 h0.2).1.2))

theorem s65_137 {X : List Int32} {d : Nat} {F : XF} {Q : XF → Prop} {o0 : Nat} {o1 : Nat} {x2 : Int} {w3 : Value} (hPT : xPT F) (h0 : xob 7 o0) (h1 : xob 9 o1) (t : inR (x2) ∧ inR ((F) (o0) 0) ∧ (((((F) (o0) 0) ≤ (x2)) → (xPT (F) → Q (F))) ∧ (¬ (((F) (o0) 0) ≤ (x2)) → (xPT (F) → xW X d 65 147 [.ref (o0), .ref (o1), vi (x2), vi (0)] [] (F) (xqv Q))))) : xW X d 65 137 [.ref (o0), .ref (o1), vi (x2), w3] [] F (xqv Q) := by
  refine xw_iload_n (n := 138) (show xlook 65 137 = some (137, .iload_n 2, 1, 0, 0, 0, 0) from xlk (by decide +kernel)) rfl rfl ?_
  refine xw_aload_n (n := 139) (show xlook 65 138 = some (138, .aload_n 0, 1, 0, 0, 0, 0) from xlk (by decide +kernel)) rfl rfl ?_
  refine xw_geti (show xlook 65 139 = some (139, .getfield 27, 3, 7, 0, 0, 113) from xlk (by decide +kernel)) (by decide) (xobf h0 (by decide) (by decide)) rfl (n := 142) rfl ?_
  obtain ⟨q0, q1, t⟩ := t
  refine xw_icmp_ge (n := 145) (m := 189) (show xlook 65 142 = some (142, .if_icmp .ge 47, 3, 189, 0, 0, 0) from xlk (by decide +kernel)) rfl rfl q0 q1 ⟨fun c => ?_, fun c => ?_⟩
  · replace t := t.1 c
    exact xw_return hPT (show xlook 65 189 = some (189, .return_, 1, 0, 0, 0, 0) from xlk (by decide +kernel)) rfl (t hPT)
  · replace t := t.2 c
    refine xw_iconst (n := 146) (show xlook 65 145 = some (145, .iconst 0, 1, 0, 0, 0, 0) from xlk (by decide +kernel)) rfl ?_
    refine xw_istore_n (n := 147) (show xlook 65 146 = some (146, .istore_n 3, 1, 0, 0, 0, 0) from xlk (by decide +kernel)) rfl (ls' := [.ref (o0), .ref (o1), vi (x2), vi (0)]) (Nat.le_of_ble_eq_true rfl) rfl ?_
    exact t hPT

theorem s65_147 {X : List Int32} {d : Nat} {F : XF} {Q : XF → Prop} {o0 : Nat} {o1 : Nat} {x2 : Int} {x3 : Int} (hPT : xPT F) (h0 : xob 7 o0) (h1 : xob 9 o1) (t : inR (x3) ∧ inR ((F) (o1) 4) ∧ (((((F) (o1) 4) ≤ (x3)) → (xPT (F) → xW X d 65 137 [.ref (o0), .ref (o1), vi (x2 + 1), vi (x3)] [] (F) (xqv Q))) ∧ (¬ (((F) (o1) 4) ≤ (x3)) → ((0 ≤ (x2) ∧ (x2) < 30) ∧ (∃ (j1 : Nat), j1 < d ∧ xMI X j1 76 [.ref (o1), vi ((F) (o0 + 3) (x2)), vi (x3)] (F) (fun (y1 : Int) (G1 : XF) => ((0 ≤ (((x2) * (10)) + (x3)) ∧ (((x2) * (10)) + (x3)) < 300) ∧ (xPT (xup (G1) (o0 + 5) (((x2) * (10)) + (x3)) (y1)) → xW X d 65 147 [.ref (o0), .ref (o1), vi (x2), vi (x3 + 1)] [] (xup (G1) (o0 + 5) (((x2) * (10)) + (x3)) (y1)) (xqv Q))))))))) : xW X d 65 147 [.ref (o0), .ref (o1), vi (x2), vi (x3)] [] F (xqv Q) := by
  refine xw_iload_n (n := 148) (show xlook 65 147 = some (147, .iload_n 3, 1, 0, 0, 0, 0) from xlk (by decide +kernel)) rfl rfl ?_
  refine xw_aload_n (n := 149) (show xlook 65 148 = some (148, .aload_n 1, 1, 0, 0, 0, 0) from xlk (by decide +kernel)) rfl rfl ?_
  refine xw_geti (show xlook 65 149 = some (149, .getfield 45, 3, 9, 4, 0, 118) from xlk (by decide +kernel)) (by decide) (xobf h1 (by decide) (by decide)) rfl (n := 152) rfl ?_
  obtain ⟨q0, q1, t⟩ := t
  refine xw_icmp_ge (n := 155) (m := 183) (show xlook 65 152 = some (152, .if_icmp .ge 31, 3, 183, 0, 0, 0) from xlk (by decide +kernel)) rfl rfl q0 q1 ⟨fun c => ?_, fun c => ?_⟩
  · replace t := t.1 c
    refine xw_iinc (n := 186) (show xlook 65 183 = some (183, .iinc 2 1, 3, 0, 0, 0, 0) from xlk (by decide +kernel)) rfl (ls' := [.ref (o0), .ref (o1), vi (x2 + 1), vi (x3)]) rfl rfl ?_
    refine xw_goto (m := 137) (show xlook 65 186 = some (186, .goto (-49), 3, 137, 0, 0, 0) from xlk (by decide +kernel)) rfl ?_
    exact t hPT
  · replace t := t.2 c
    refine xw_aload_n (n := 156) (show xlook 65 155 = some (155, .aload_n 0, 1, 0, 0, 0, 0) from xlk (by decide +kernel)) rfl rfl ?_
    refine xw_getr (q := o0 + 5) (show xlook 65 156 = some (156, .getfield 24, 3, 7, 5, 0, 112) from xlk (by decide +kernel)) (by decide) (xobf h0 (by decide) (by decide)) rfl (xPT_get (k := 5) (f := 5) hPT h0 (by decide)) (by have := (xtg_7_5 _ h0.1 h0.2).1.1; omega) (n := 159) rfl ?_
    refine xw_iload_n (n := 160) (show xlook 65 159 = some (159, .iload_n 2, 1, 0, 0, 0, 0) from xlk (by decide +kernel)) rfl rfl ?_
    refine xw_bipush (n := 162) (show xlook 65 160 = some (160, .bipush 10, 2, 0, 0, 0, 0) from xlk (by decide +kernel)) rfl (by decide) ?_
    refine xw_imul (n := 163) (show xlook 65 162 = some (162, .imul, 1, 0, 0, 0, 0) from xlk (by decide +kernel)) rfl ?_
    refine xw_iload_n (n := 164) (show xlook 65 163 = some (163, .iload_n 3, 1, 0, 0, 0, 0) from xlk (by decide +kernel)) rfl rfl ?_
    refine xw_iadd (n := 165) (show xlook 65 164 = some (164, .iadd, 1, 0, 0, 0, 0) from xlk (by decide +kernel)) rfl ?_
    refine xw_aload_n (n := 166) (show xlook 65 165 = some (165, .aload_n 1, 1, 0, 0, 0, 0) from xlk (by decide +kernel)) rfl rfl ?_
    refine xw_aload_n (n := 167) (show xlook 65 166 = some (166, .aload_n 0, 1, 0, 0, 0, 0) from xlk (by decide +kernel)) rfl rfl ?_
    refine xw_getr (q := o0 + 3) (show xlook 65 167 = some (167, .getfield 18, 3, 7, 3, 0, 110) from xlk (by decide +kernel)) (by decide) (xobf h0 (by decide) (by decide)) rfl (xPT_get (k := 3) (f := 3) hPT h0 (by decide)) (by have := (xtg_7_3 _ h0.1 h0.2).1.1; omega) (n := 170) rfl ?_
    refine xw_iload_n (n := 171) (show xlook 65 170 = some (170, .iload_n 2, 1, 0, 0, 0, 0) from xlk (by decide +kernel)) rfl rfl ?_
    obtain ⟨q1, t⟩ := t
    refine xw_iald (show xlook 65 171 = some (171, .iaload, 1, 0, 0, 0, 0) from xlk (by decide +kernel)) (xtg_7_3 _ h0.1 h0.2).1 (by rw [(xtg_7_3 _ h0.1 h0.2).2]; exact q1) (n := 172) rfl ?_
    refine xw_iload_n (n := 173) (show xlook 65 172 = some (172, .iload_n 3, 1, 0, 0, 0, 0) from xlk (by decide +kernel)) rfl rfl ?_
    obtain ⟨j1, hj1, rr1, G1, hm1, hG1, t⟩ := t
    obtain ⟨y1, rfl, t⟩ := t
    refine xw_callv (dk := j1) (o := o1) (as := [vi ((F) (o0 + 3) (x2)), vi (x3)]) (show xlook 65 173 = some (173, .invokevirtual 48, 3, 76, 3, 0, 76) from xlk (by decide +kernel)) (by decide) hj1 ⟨Nat.le_of_ble_eq_true rfl, Nat.le_of_ble_eq_true rfl, Nat.le_of_ble_eq_true rfl⟩ ⟨h1.1, h1.2, by decide⟩ rfl hm1 (n := 176) rfl ?_
    show xW X d 65 176 [.ref (o0), .ref (o1), vi (x2), vi (x3)] [vi (y1), vi (((x2) * (10)) + (x3)), .ref (o0 + 5)] G1 (xqv Q)
    obtain ⟨q1, t⟩ := t
    refine xw_iast (show xlook 65 176 = some (176, .iastore, 1, 0, 0, 0, 0) from xlk (by decide +kernel)) (xtg_7_5 _ h0.1 h0.2).1 (by rw [(xtg_7_5 _ h0.1 h0.2).2]; exact q1) (n := 177) rfl ?_
    refine xw_iinc (n := 180) (show xlook 65 177 = some (177, .iinc 3 1, 3, 0, 0, 0, 0) from xlk (by decide +kernel)) rfl (ls' := [.ref (o0), .ref (o1), vi (x2), vi (x3 + 1)]) rfl rfl ?_
    refine xw_goto (m := 147) (show xlook 65 180 = some (180, .goto (-33), 3, 147, 0, 0, 0) from xlk (by decide +kernel)) rfl ?_
    exact t (xPT_arr hG1 (Or.inl (xtg_7_5 _ h0.1 h0.2).1.2))

theorem s66_0 {X : List Int32} {d : Nat} {F : XF} {Q : Int → XF → Prop} {o0 : Nat} {x1 : Int} {x2 : Int} (hPT : xPT F) (h0 : xob 7 o0) (t : (0 ≤ (((x1) * (10)) + (x2)) ∧ (((x1) * (10)) + (x2)) < 300) ∧ (xPT (F) → Q ((F) (o0 + 5) (((x1) * (10)) + (x2))) (F))) : xW X d 66 0 [.ref (o0), vi (x1), vi (x2)] [] F (xqi Q) := by
  refine xw_aload_n (n := 1) (show xlook 66 0 = some (0, .aload_n 0, 1, 0, 0, 0, 0) from xlk (by decide +kernel)) rfl rfl ?_
  refine xw_getr (q := o0 + 5) (show xlook 66 1 = some (1, .getfield 24, 3, 7, 5, 0, 112) from xlk (by decide +kernel)) (by decide) (xobf h0 (by decide) (by decide)) rfl (xPT_get (k := 5) (f := 5) hPT h0 (by decide)) (by have := (xtg_7_5 _ h0.1 h0.2).1.1; omega) (n := 4) rfl ?_
  refine xw_iload_n (n := 5) (show xlook 66 4 = some (4, .iload_n 1, 1, 0, 0, 0, 0) from xlk (by decide +kernel)) rfl rfl ?_
  refine xw_bipush (n := 7) (show xlook 66 5 = some (5, .bipush 10, 2, 0, 0, 0, 0) from xlk (by decide +kernel)) rfl (by decide) ?_
  refine xw_imul (n := 8) (show xlook 66 7 = some (7, .imul, 1, 0, 0, 0, 0) from xlk (by decide +kernel)) rfl ?_
  refine xw_iload_n (n := 9) (show xlook 66 8 = some (8, .iload_n 2, 1, 0, 0, 0, 0) from xlk (by decide +kernel)) rfl rfl ?_
  refine xw_iadd (n := 10) (show xlook 66 9 = some (9, .iadd, 1, 0, 0, 0, 0) from xlk (by decide +kernel)) rfl ?_
  obtain ⟨q1, t⟩ := t
  refine xw_iald (show xlook 66 10 = some (10, .iaload, 1, 0, 0, 0, 0) from xlk (by decide +kernel)) (xtg_7_5 _ h0.1 h0.2).1 (by rw [(xtg_7_5 _ h0.1 h0.2).2]; exact q1) (n := 11) rfl ?_
  exact xw_ireturn hPT (show xlook 66 11 = some (11, .ireturn, 1, 0, 0, 0, 0) from xlk (by decide +kernel)) rfl (t hPT)
theorem m66 {X : List Int32} {d : Nat} {F : XF} {Q : Int → XF → Prop} {o0 : Nat} {x1 : Int} {x2 : Int} (hPT : xPT F) (h0 : xob 7 o0) (t : (0 ≤ (((x1) * (10)) + (x2)) ∧ (((x1) * (10)) + (x2)) < 300) ∧ (xPT (F) → Q ((F) (o0 + 5) (((x1) * (10)) + (x2))) (F))) : xMI X d 66 [.ref (o0), vi (x1), vi (x2)] F Q := by
  show xW X d 66 0 [.ref (o0), vi (x1), vi (x2)] [] F (xqi Q)
  exact s66_0 hPT h0 t

theorem s68_0 {X : List Int32} {d : Nat} {F : XF} {Q : XF → Prop} {o0 : Nat} (hPT : xPT F) (h0 : xob 8 o0) (t : xPT (xup (xup (xup (xup (xup (xup (xup (F) (o0) 0 (0)) (o0) 1 (0)) (o0) 2 (0)) (o0) 3 (0)) (o0) 4 (0)) (o0) 5 (0)) (o0) 6 (0)) → Q (xup (xup (xup (xup (xup (xup (xup (F) (o0) 0 (0)) (o0) 1 (0)) (o0) 2 (0)) (o0) 3 (0)) (o0) 4 (0)) (o0) 5 (0)) (o0) 6 (0))) : xW X d 68 0 [.ref (o0)] [] F (xqv Q) := by
  refine xw_aload_n (n := 1) (show xlook 68 0 = some (0, .aload_n 0, 1, 0, 0, 0, 0) from xlk (by decide +kernel)) rfl rfl ?_
  refine xw_iconst (n := 2) (show xlook 68 1 = some (1, .iconst 0, 1, 0, 0, 0, 0) from xlk (by decide +kernel)) rfl ?_
  refine xw_puti (show xlook 68 2 = some (2, .putfield 7, 3, 8, 0, 0, 119) from xlk (by decide +kernel)) (xobf h0 (by decide) (by decide)) rfl (n := 5) rfl ?_
  refine xw_aload_n (n := 6) (show xlook 68 5 = some (5, .aload_n 0, 1, 0, 0, 0, 0) from xlk (by decide +kernel)) rfl rfl ?_
  refine xw_iconst (n := 7) (show xlook 68 6 = some (6, .iconst 0, 1, 0, 0, 0, 0) from xlk (by decide +kernel)) rfl ?_
  refine xw_puti (show xlook 68 7 = some (7, .putfield 13, 3, 8, 1, 0, 120) from xlk (by decide +kernel)) (xobf h0 (by decide) (by decide)) rfl (n := 10) rfl ?_
  refine xw_aload_n (n := 11) (show xlook 68 10 = some (10, .aload_n 0, 1, 0, 0, 0, 0) from xlk (by decide +kernel)) rfl rfl ?_
  refine xw_iconst (n := 12) (show xlook 68 11 = some (11, .iconst 0, 1, 0, 0, 0, 0) from xlk (by decide +kernel)) rfl ?_
  refine xw_puti (show xlook 68 12 = some (12, .putfield 16, 3, 8, 2, 0, 121) from xlk (by decide +kernel)) (xobf h0 (by decide) (by decide)) rfl (n := 15) rfl ?_
  refine xw_aload_n (n := 16) (show xlook 68 15 = some (15, .aload_n 0, 1, 0, 0, 0, 0) from xlk (by decide +kernel)) rfl rfl ?_
  refine xw_iconst (n := 17) (show xlook 68 16 = some (16, .iconst 0, 1, 0, 0, 0, 0) from xlk (by decide +kernel)) rfl ?_
  refine xw_puti (show xlook 68 17 = some (17, .putfield 19, 3, 8, 3, 0, 122) from xlk (by decide +kernel)) (xobf h0 (by decide) (by decide)) rfl (n := 20) rfl ?_
  refine xw_aload_n (n := 21) (show xlook 68 20 = some (20, .aload_n 0, 1, 0, 0, 0, 0) from xlk (by decide +kernel)) rfl rfl ?_
  refine xw_iconst (n := 22) (show xlook 68 21 = some (21, .iconst 0, 1, 0, 0, 0, 0) from xlk (by decide +kernel)) rfl ?_
  refine xw_puti (show xlook 68 22 = some (22, .putfield 22, 3, 8, 4, 0, 123) from xlk (by decide +kernel)) (xobf h0 (by decide) (by decide)) rfl (n := 25) rfl ?_
  refine xw_aload_n (n := 26) (show xlook 68 25 = some (25, .aload_n 0, 1, 0, 0, 0, 0) from xlk (by decide +kernel)) rfl rfl ?_
  refine xw_iconst (n := 27) (show xlook 68 26 = some (26, .iconst 0, 1, 0, 0, 0, 0) from xlk (by decide +kernel)) rfl ?_
  refine xw_puti (show xlook 68 27 = some (27, .putfield 25, 3, 8, 5, 0, 124) from xlk (by decide +kernel)) (xobf h0 (by decide) (by decide)) rfl (n := 30) rfl ?_
  refine xw_aload_n (n := 31) (show xlook 68 30 = some (30, .aload_n 0, 1, 0, 0, 0, 0) from xlk (by decide +kernel)) rfl rfl ?_
  refine xw_iconst (n := 32) (show xlook 68 31 = some (31, .iconst 0, 1, 0, 0, 0, 0) from xlk (by decide +kernel)) rfl ?_
  refine xw_puti (show xlook 68 32 = some (32, .putfield 28, 3, 8, 6, 0, 125) from xlk (by decide +kernel)) (xobf h0 (by decide) (by decide)) rfl (n := 35) rfl ?_
  exact xw_return (xPT_fld (k := 6) (xPT_fld (k := 5) (xPT_fld (k := 4) (xPT_fld (k := 3) (xPT_fld (k := 2) (xPT_fld (k := 1) (xPT_fld (k := 0) hPT h0 (by decide) (by decide)) h0 (by decide) (by decide)) h0 (by decide) (by decide)) h0 (by decide) (by decide)) h0 (by decide) (by decide)) h0 (by decide) (by decide)) h0 (by decide) (by decide)) (show xlook 68 35 = some (35, .return_, 1, 0, 0, 0, 0) from xlk (by decide +kernel)) rfl (t (xPT_fld (k := 6) (xPT_fld (k := 5) (xPT_fld (k := 4) (xPT_fld (k := 3) (xPT_fld (k := 2) (xPT_fld (k := 1) (xPT_fld (k := 0) hPT h0 (by decide) (by decide)) h0 (by decide) (by decide)) h0 (by decide) (by decide)) h0 (by decide) (by decide)) h0 (by decide) (by decide)) h0 (by decide) (by decide)) h0 (by decide) (by decide)))
theorem m68 {X : List Int32} {d : Nat} {F : XF} {Q : XF → Prop} {o0 : Nat} (hPT : xPT F) (h0 : xob 8 o0) (t : xPT (xup (xup (xup (xup (xup (xup (xup (F) (o0) 0 (0)) (o0) 1 (0)) (o0) 2 (0)) (o0) 3 (0)) (o0) 4 (0)) (o0) 5 (0)) (o0) 6 (0)) → Q (xup (xup (xup (xup (xup (xup (xup (F) (o0) 0 (0)) (o0) 1 (0)) (o0) 2 (0)) (o0) 3 (0)) (o0) 4 (0)) (o0) 5 (0)) (o0) 6 (0))) : xMV X d 68 [.ref (o0)] F Q := by
  show xW X d 68 0 [.ref (o0)] [] F (xqv Q)
  exact s68_0 hPT h0 t

theorem s69_0 {X : List Int32} {d : Nat} {F : XF} {Q : XF → Prop} {o0 : Nat} {o1 : Nat} {x2 : Int} {x3 : Int} (hPT : xPT F) (h0 : xob 8 o0) (h1 : xob 1 o1) (t : inR ((F) (o1) 5) ∧ (((((F) (o1) 5) ≤ (0)) → (xPT (F) → xW X d 69 41 [.ref (o0), .ref (o1), vi (x2), vi (x3)] [] (F) (xqv Q))) ∧ (¬ (((F) (o1) 5) ≤ (0)) → ((0 ≤ (x2 : Int) ∧ (x2 : Int) ≤ 2147483647) ∧ (0 < ((F) (o1) 5 : Int) ∧ ((F) (o1) 5 : Int) ≤ 2147483647) ∧ (inR ((x2) % ((F) (o1) 5)) ∧ (((¬ ((x2) % ((F) (o1) 5)) = (0)) → (xPT (F) → xW X d 69 41 [.ref (o0), .ref (o1), vi (x2), vi (x3)] [] (F) (xqv Q))) ∧ (¬ (¬ ((x2) % ((F) (o1) 5)) = (0)) → (inR ((F) (o0) 3) ∧ inR (((F) (o0) 0) + (1)) ∧ (xPT (xup (xup (F) (o0) 0 (((F) (o0) 0) + (1))) (o0) 3 (max ((F) (o0) 3) (((F) (o0) 0) + (1)))) → xW X d 69 41 [.ref (o0), .ref (o1), vi (x2), vi (x3)] [] (xup (xup (F) (o0) 0 (((F) (o0) 0) + (1))) (o0) 3 (max ((F) (o0) 3) (((F) (o0) 0) + (1)))) (xqv Q)))))))))) : xW X d 69 0 [.ref (o0), .ref (o1), vi (x2), vi (x3)] [] F (xqv Q) := by
  refine xw_aload_n (n := 1) (show xlook 69 0 = some (0, .aload_n 1, 1, 0, 0, 0, 0) from xlk (by decide +kernel)) rfl rfl ?_
  refine xw_geti (show xlook 69 1 = some (1, .getfield 31, 3, 1, 5, 0, 126) from xlk (by decide +kernel)) (by decide) (xobf h1 (by decide) (by decide)) rfl (n := 4) rfl ?_
  obtain ⟨q0, t⟩ := t
  refine xw_if_le (n := 7) (m := 41) (show xlook 69 4 = some (4, .ifCond .le 37, 3, 41, 0, 0, 0) from xlk (by decide +kernel)) rfl rfl q0 ⟨fun c => ?_, fun c => ?_⟩
  · replace t := t.1 c
    exact t hPT
  · replace t := t.2 c
    refine xw_iload_n (n := 8) (show xlook 69 7 = some (7, .iload_n 2, 1, 0, 0, 0, 0) from xlk (by decide +kernel)) rfl rfl ?_
    refine xw_aload_n (n := 9) (show xlook 69 8 = some (8, .aload_n 1, 1, 0, 0, 0, 0) from xlk (by decide +kernel)) rfl rfl ?_
    refine xw_geti (show xlook 69 9 = some (9, .getfield 31, 3, 1, 5, 0, 126) from xlk (by decide +kernel)) (by decide) (xobf h1 (by decide) (by decide)) rfl (n := 12) rfl ?_
    obtain ⟨q1, q2, t⟩ := t
    refine xw_irem (n := 13) (show xlook 69 12 = some (12, .irem, 1, 0, 0, 0, 0) from xlk (by decide +kernel)) rfl q1 q2 ?_
    obtain ⟨q0, t⟩ := t
    refine xw_if_ne (n := 16) (m := 41) (show xlook 69 13 = some (13, .ifCond .ne 28, 3, 41, 0, 0, 0) from xlk (by decide +kernel)) rfl rfl q0 ⟨fun c => ?_, fun c => ?_⟩
    · replace t := t.1 c
      exact t hPT
    · replace t := t.2 c
      refine xw_aload_n (n := 17) (show xlook 69 16 = some (16, .aload_n 0, 1, 0, 0, 0, 0) from xlk (by decide +kernel)) rfl rfl ?_
      refine xw_dupr (n := 18) (show xlook 69 17 = some (17, .dup, 1, 0, 0, 0, 0) from xlk (by decide +kernel)) rfl ?_
      refine xw_geti (show xlook 69 18 = some (18, .getfield 7, 3, 8, 0, 0, 119) from xlk (by decide +kernel)) (by decide) (xobf h0 (by decide) (by decide)) rfl (n := 21) rfl ?_
      refine xw_iconst (n := 22) (show xlook 69 21 = some (21, .iconst 1, 1, 0, 0, 0, 0) from xlk (by decide +kernel)) rfl ?_
      refine xw_iadd (n := 23) (show xlook 69 22 = some (22, .iadd, 1, 0, 0, 0, 0) from xlk (by decide +kernel)) rfl ?_
      refine xw_puti (show xlook 69 23 = some (23, .putfield 7, 3, 8, 0, 0, 119) from xlk (by decide +kernel)) (xobf h0 (by decide) (by decide)) rfl (n := 26) rfl ?_
      refine xw_aload_n (n := 27) (show xlook 69 26 = some (26, .aload_n 0, 1, 0, 0, 0, 0) from xlk (by decide +kernel)) rfl rfl ?_
      refine xw_aload_n (n := 28) (show xlook 69 27 = some (27, .aload_n 0, 1, 0, 0, 0, 0) from xlk (by decide +kernel)) rfl rfl ?_
      refine xw_geti2 (u := (F) (o0) 3) (show xlook 69 28 = some (28, .getfield 19, 3, 8, 3, 0, 122) from xlk (by decide +kernel)) (by decide) (xobf h0 (by decide) (by decide)) rfl (xup_i (by decide)) (n := 31) rfl ?_
      refine xw_aload_n (n := 32) (show xlook 69 31 = some (31, .aload_n 0, 1, 0, 0, 0, 0) from xlk (by decide +kernel)) rfl rfl ?_
      refine xw_geti2 (u := ((F) (o0) 0) + (1)) (show xlook 69 32 = some (32, .getfield 7, 3, 8, 0, 0, 119) from xlk (by decide +kernel)) (by decide) (xobf h0 (by decide) (by decide)) rfl (xup_s) (n := 35) rfl ?_
      obtain ⟨q0, q1, t⟩ := t
      refine xw_max (show xlook 69 35 = some (35, .invokestatic 36, 3, 1001, 2, 0, 78) from xlk (by decide +kernel)) rfl (Nat.le_of_ble_eq_true rfl) q0 q1 (n := 38) rfl ?_
      refine xw_puti (show xlook 69 38 = some (38, .putfield 19, 3, 8, 3, 0, 122) from xlk (by decide +kernel)) (xobf h0 (by decide) (by decide)) rfl (n := 41) rfl ?_
      exact t (xPT_fld (k := 3) (xPT_fld (k := 0) hPT h0 (by decide) (by decide)) h0 (by decide) (by decide))
theorem m69 {X : List Int32} {d : Nat} {F : XF} {Q : XF → Prop} {o0 : Nat} {o1 : Nat} {x2 : Int} {x3 : Int} (hPT : xPT F) (h0 : xob 8 o0) (h1 : xob 1 o1) (t : inR ((F) (o1) 5) ∧ (((((F) (o1) 5) ≤ (0)) → (xPT (F) → xW X d 69 41 [.ref (o0), .ref (o1), vi (x2), vi (x3)] [] (F) (xqv Q))) ∧ (¬ (((F) (o1) 5) ≤ (0)) → ((0 ≤ (x2 : Int) ∧ (x2 : Int) ≤ 2147483647) ∧ (0 < ((F) (o1) 5 : Int) ∧ ((F) (o1) 5 : Int) ≤ 2147483647) ∧ (inR ((x2) % ((F) (o1) 5)) ∧ (((¬ ((x2) % ((F) (o1) 5)) = (0)) → (xPT (F) → xW X d 69 41 [.ref (o0), .ref (o1), vi (x2), vi (x3)] [] (F) (xqv Q))) ∧ (¬ (¬ ((x2) % ((F) (o1) 5)) = (0)) → (inR ((F) (o0) 3) ∧ inR (((F) (o0) 0) + (1)) ∧ (xPT (xup (xup (F) (o0) 0 (((F) (o0) 0) + (1))) (o0) 3 (max ((F) (o0) 3) (((F) (o0) 0) + (1)))) → xW X d 69 41 [.ref (o0), .ref (o1), vi (x2), vi (x3)] [] (xup (xup (F) (o0) 0 (((F) (o0) 0) + (1))) (o0) 3 (max ((F) (o0) 3) (((F) (o0) 0) + (1)))) (xqv Q)))))))))) : xMV X d 69 [.ref (o0), .ref (o1), vi (x2), vi (x3)] F Q := by
  show xW X d 69 0 [.ref (o0), .ref (o1), vi (x2), vi (x3)] [] F (xqv Q)
  exact s69_0 hPT h0 h1 t

theorem s69_41 {X : List Int32} {d : Nat} {F : XF} {Q : XF → Prop} {o0 : Nat} {o1 : Nat} {x2 : Int} {x3 : Int} (hPT : xPT F) (h0 : xob 8 o0) (h1 : xob 1 o1) (t : inR (x3) ∧ (((¬ (x3) = (0)) → (xPT (F) → xW X d 69 110 [.ref (o0), .ref (o1), vi (x2), vi (x3)] [] (F) (xqv Q))) ∧ (¬ (¬ (x3) = (0)) → (inR ((F) (o0) 0) ∧ (((((F) (o0) 0) ≤ (0)) → (xPT (F) → xW X d 69 110 [.ref (o0), .ref (o1), vi (x2), vi (x3)] [] (F) (xqv Q))) ∧ (¬ (((F) (o0) 0) ≤ (0)) → (inR ((F) (o1) 6) ∧ (((((F) (o1) 6) ≤ (0)) → (xPT (F) → xW X d 69 110 [.ref (o0), .ref (o1), vi (x2), vi (x3)] [] (F) (xqv Q))) ∧ (¬ (((F) (o1) 6) ≤ (0)) → ((0 ≤ (x2 : Int) ∧ (x2 : Int) ≤ 2147483647) ∧ (0 < ((F) (o1) 6 : Int) ∧ ((F) (o1) 6 : Int) ≤ 2147483647) ∧ (inR ((x2) % ((F) (o1) 6)) ∧ (((¬ ((x2) % ((F) (o1) 6)) = (0)) → (xPT (F) → xW X d 69 110 [.ref (o0), .ref (o1), vi (x2), vi (x3)] [] (F) (xqv Q))) ∧ (¬ (¬ ((x2) % ((F) (o1) 6)) = (0)) → (inR ((F) (o0) 6) ∧ inR ((x2) - (((F) (o0) 2) * ((F) (o1) 5))) ∧ (xPT (xup (xup (xup (F) (o0) 6 (max ((F) (o0) 6) ((x2) - (((F) (o0) 2) * ((F) (o1) 5))))) (o0) 2 (((F) (o0) 2) + (1))) (o0) 0 (((F) (o0) 0) - (1))) → xW X d 69 110 [.ref (o0), .ref (o1), vi (x2), vi (x3)] [] (xup (xup (xup (F) (o0) 6 (max ((F) (o0) 6) ((x2) - (((F) (o0) 2) * ((F) (o1) 5))))) (o0) 2 (((F) (o0) 2) + (1))) (o0) 0 (((F) (o0) 0) - (1))) (xqv Q)))))))))))))))) : xW X d 69 41 [.ref (o0), .ref (o1), vi (x2), vi (x3)] [] F (xqv Q) := by
  refine xw_iload_n (n := 42) (show xlook 69 41 = some (41, .iload_n 3, 1, 0, 0, 0, 0) from xlk (by decide +kernel)) rfl rfl ?_
  obtain ⟨q0, t⟩ := t
  refine xw_if_ne (n := 45) (m := 110) (show xlook 69 42 = some (42, .ifCond .ne 68, 3, 110, 0, 0, 0) from xlk (by decide +kernel)) rfl rfl q0 ⟨fun c => ?_, fun c => ?_⟩
  · replace t := t.1 c
    exact t hPT
  · replace t := t.2 c
    refine xw_aload_n (n := 46) (show xlook 69 45 = some (45, .aload_n 0, 1, 0, 0, 0, 0) from xlk (by decide +kernel)) rfl rfl ?_
    refine xw_geti (show xlook 69 46 = some (46, .getfield 7, 3, 8, 0, 0, 119) from xlk (by decide +kernel)) (by decide) (xobf h0 (by decide) (by decide)) rfl (n := 49) rfl ?_
    obtain ⟨q0, t⟩ := t
    refine xw_if_le (n := 52) (m := 110) (show xlook 69 49 = some (49, .ifCond .le 61, 3, 110, 0, 0, 0) from xlk (by decide +kernel)) rfl rfl q0 ⟨fun c => ?_, fun c => ?_⟩
    · replace t := t.1 c
      exact t hPT
    · replace t := t.2 c
      refine xw_aload_n (n := 53) (show xlook 69 52 = some (52, .aload_n 1, 1, 0, 0, 0, 0) from xlk (by decide +kernel)) rfl rfl ?_
      refine xw_geti (show xlook 69 53 = some (53, .getfield 42, 3, 1, 6, 0, 127) from xlk (by decide +kernel)) (by decide) (xobf h1 (by decide) (by decide)) rfl (n := 56) rfl ?_
      obtain ⟨q0, t⟩ := t
      refine xw_if_le (n := 59) (m := 110) (show xlook 69 56 = some (56, .ifCond .le 54, 3, 110, 0, 0, 0) from xlk (by decide +kernel)) rfl rfl q0 ⟨fun c => ?_, fun c => ?_⟩
      · replace t := t.1 c
        exact t hPT
      · replace t := t.2 c
        refine xw_iload_n (n := 60) (show xlook 69 59 = some (59, .iload_n 2, 1, 0, 0, 0, 0) from xlk (by decide +kernel)) rfl rfl ?_
        refine xw_aload_n (n := 61) (show xlook 69 60 = some (60, .aload_n 1, 1, 0, 0, 0, 0) from xlk (by decide +kernel)) rfl rfl ?_
        refine xw_geti (show xlook 69 61 = some (61, .getfield 42, 3, 1, 6, 0, 127) from xlk (by decide +kernel)) (by decide) (xobf h1 (by decide) (by decide)) rfl (n := 64) rfl ?_
        obtain ⟨q1, q2, t⟩ := t
        refine xw_irem (n := 65) (show xlook 69 64 = some (64, .irem, 1, 0, 0, 0, 0) from xlk (by decide +kernel)) rfl q1 q2 ?_
        obtain ⟨q0, t⟩ := t
        refine xw_if_ne (n := 68) (m := 110) (show xlook 69 65 = some (65, .ifCond .ne 45, 3, 110, 0, 0, 0) from xlk (by decide +kernel)) rfl rfl q0 ⟨fun c => ?_, fun c => ?_⟩
        · replace t := t.1 c
          exact t hPT
        · replace t := t.2 c
          refine xw_aload_n (n := 69) (show xlook 69 68 = some (68, .aload_n 0, 1, 0, 0, 0, 0) from xlk (by decide +kernel)) rfl rfl ?_
          refine xw_aload_n (n := 70) (show xlook 69 69 = some (69, .aload_n 0, 1, 0, 0, 0, 0) from xlk (by decide +kernel)) rfl rfl ?_
          refine xw_geti (show xlook 69 70 = some (70, .getfield 28, 3, 8, 6, 0, 125) from xlk (by decide +kernel)) (by decide) (xobf h0 (by decide) (by decide)) rfl (n := 73) rfl ?_
          refine xw_iload_n (n := 74) (show xlook 69 73 = some (73, .iload_n 2, 1, 0, 0, 0, 0) from xlk (by decide +kernel)) rfl rfl ?_
          refine xw_aload_n (n := 75) (show xlook 69 74 = some (74, .aload_n 0, 1, 0, 0, 0, 0) from xlk (by decide +kernel)) rfl rfl ?_
          refine xw_geti (show xlook 69 75 = some (75, .getfield 16, 3, 8, 2, 0, 121) from xlk (by decide +kernel)) (by decide) (xobf h0 (by decide) (by decide)) rfl (n := 78) rfl ?_
          refine xw_aload_n (n := 79) (show xlook 69 78 = some (78, .aload_n 1, 1, 0, 0, 0, 0) from xlk (by decide +kernel)) rfl rfl ?_
          refine xw_geti (show xlook 69 79 = some (79, .getfield 31, 3, 1, 5, 0, 126) from xlk (by decide +kernel)) (by decide) (xobf h1 (by decide) (by decide)) rfl (n := 82) rfl ?_
          refine xw_imul (n := 83) (show xlook 69 82 = some (82, .imul, 1, 0, 0, 0, 0) from xlk (by decide +kernel)) rfl ?_
          refine xw_isub (n := 84) (show xlook 69 83 = some (83, .isub, 1, 0, 0, 0, 0) from xlk (by decide +kernel)) rfl ?_
          obtain ⟨q0, q1, t⟩ := t
          refine xw_max (show xlook 69 84 = some (84, .invokestatic 36, 3, 1001, 2, 0, 78) from xlk (by decide +kernel)) rfl (Nat.le_of_ble_eq_true rfl) q0 q1 (n := 87) rfl ?_
          refine xw_puti (show xlook 69 87 = some (87, .putfield 28, 3, 8, 6, 0, 125) from xlk (by decide +kernel)) (xobf h0 (by decide) (by decide)) rfl (n := 90) rfl ?_
          refine xw_aload_n (n := 91) (show xlook 69 90 = some (90, .aload_n 0, 1, 0, 0, 0, 0) from xlk (by decide +kernel)) rfl rfl ?_
          refine xw_dupr (n := 92) (show xlook 69 91 = some (91, .dup, 1, 0, 0, 0, 0) from xlk (by decide +kernel)) rfl ?_
          refine xw_geti2 (u := (F) (o0) 2) (show xlook 69 92 = some (92, .getfield 16, 3, 8, 2, 0, 121) from xlk (by decide +kernel)) (by decide) (xobf h0 (by decide) (by decide)) rfl (xup_i (by decide)) (n := 95) rfl ?_
          refine xw_iconst (n := 96) (show xlook 69 95 = some (95, .iconst 1, 1, 0, 0, 0, 0) from xlk (by decide +kernel)) rfl ?_
          refine xw_iadd (n := 97) (show xlook 69 96 = some (96, .iadd, 1, 0, 0, 0, 0) from xlk (by decide +kernel)) rfl ?_
          refine xw_puti (show xlook 69 97 = some (97, .putfield 16, 3, 8, 2, 0, 121) from xlk (by decide +kernel)) (xobf h0 (by decide) (by decide)) rfl (n := 100) rfl ?_
          refine xw_aload_n (n := 101) (show xlook 69 100 = some (100, .aload_n 0, 1, 0, 0, 0, 0) from xlk (by decide +kernel)) rfl rfl ?_
          refine xw_dupr (n := 102) (show xlook 69 101 = some (101, .dup, 1, 0, 0, 0, 0) from xlk (by decide +kernel)) rfl ?_
          refine xw_geti2 (u := (F) (o0) 0) (show xlook 69 102 = some (102, .getfield 7, 3, 8, 0, 0, 119) from xlk (by decide +kernel)) (by decide) (xobf h0 (by decide) (by decide)) rfl ((xup_i (by decide)).trans (xup_i (by decide))) (n := 105) rfl ?_
          refine xw_iconst (n := 106) (show xlook 69 105 = some (105, .iconst 1, 1, 0, 0, 0, 0) from xlk (by decide +kernel)) rfl ?_
          refine xw_isub (n := 107) (show xlook 69 106 = some (106, .isub, 1, 0, 0, 0, 0) from xlk (by decide +kernel)) rfl ?_
          refine xw_puti (show xlook 69 107 = some (107, .putfield 7, 3, 8, 0, 0, 119) from xlk (by decide +kernel)) (xobf h0 (by decide) (by decide)) rfl (n := 110) rfl ?_
          exact t (xPT_fld (k := 0) (xPT_fld (k := 2) (xPT_fld (k := 6) hPT h0 (by decide) (by decide)) h0 (by decide) (by decide)) h0 (by decide) (by decide))

theorem s69_110 {X : List Int32} {d : Nat} {F : XF} {Q : XF → Prop} {o0 : Nat} {o1 : Nat} {x2 : Int} {x3 : Int} (hPT : xPT F) (h0 : xob 8 o0) (h1 : xob 1 o1) (t : inR (x3) ∧ ((((x3) = (0)) → (xPT (xup (F) (o0) 1 (((F) (o0) 1) + ((F) (o0) 0))) → Q (xup (F) (o0) 1 (((F) (o0) 1) + ((F) (o0) 0))))) ∧ (¬ ((x3) = (0)) → (∃ (j1 : Nat), j1 < d ∧ xMI X j1 9 [.ref (o1), vi (x2)] (xup (xup (F) (o0) 1 (((F) (o0) 1) + ((F) (o0) 0))) (o0) 4 (((F) (o0) 4) + (1))) (fun (y1 : Int) (G1 : XF) => (inR (y1) ∧ (((¬ (y1) = (0)) → (xPT (G1) → Q (G1))) ∧ (¬ (¬ (y1) = (0)) → (xPT (xup (G1) (o0) 5 (((G1) (o0) 5) + (1))) → Q (xup (G1) (o0) 5 (((G1) (o0) 5) + (1)))))))))))) : xW X d 69 110 [.ref (o0), .ref (o1), vi (x2), vi (x3)] [] F (xqv Q) := by
  refine xw_aload_n (n := 111) (show xlook 69 110 = some (110, .aload_n 0, 1, 0, 0, 0, 0) from xlk (by decide +kernel)) rfl rfl ?_
  refine xw_dupr (n := 112) (show xlook 69 111 = some (111, .dup, 1, 0, 0, 0, 0) from xlk (by decide +kernel)) rfl ?_
  refine xw_geti (show xlook 69 112 = some (112, .getfield 13, 3, 8, 1, 0, 120) from xlk (by decide +kernel)) (by decide) (xobf h0 (by decide) (by decide)) rfl (n := 115) rfl ?_
  refine xw_aload_n (n := 116) (show xlook 69 115 = some (115, .aload_n 0, 1, 0, 0, 0, 0) from xlk (by decide +kernel)) rfl rfl ?_
  refine xw_geti (show xlook 69 116 = some (116, .getfield 7, 3, 8, 0, 0, 119) from xlk (by decide +kernel)) (by decide) (xobf h0 (by decide) (by decide)) rfl (n := 119) rfl ?_
  refine xw_iadd (n := 120) (show xlook 69 119 = some (119, .iadd, 1, 0, 0, 0, 0) from xlk (by decide +kernel)) rfl ?_
  refine xw_puti (show xlook 69 120 = some (120, .putfield 13, 3, 8, 1, 0, 120) from xlk (by decide +kernel)) (xobf h0 (by decide) (by decide)) rfl (n := 123) rfl ?_
  refine xw_iload_n (n := 124) (show xlook 69 123 = some (123, .iload_n 3, 1, 0, 0, 0, 0) from xlk (by decide +kernel)) rfl rfl ?_
  obtain ⟨q0, t⟩ := t
  refine xw_if_eq (n := 127) (m := 155) (show xlook 69 124 = some (124, .ifCond .eq 31, 3, 155, 0, 0, 0) from xlk (by decide +kernel)) rfl rfl q0 ⟨fun c => ?_, fun c => ?_⟩
  · replace t := t.1 c
    exact xw_return (xPT_fld (k := 1) hPT h0 (by decide) (by decide)) (show xlook 69 155 = some (155, .return_, 1, 0, 0, 0, 0) from xlk (by decide +kernel)) rfl (t (xPT_fld (k := 1) hPT h0 (by decide) (by decide)))
  · replace t := t.2 c
    refine xw_aload_n (n := 128) (show xlook 69 127 = some (127, .aload_n 0, 1, 0, 0, 0, 0) from xlk (by decide +kernel)) rfl rfl ?_
    refine xw_dupr (n := 129) (show xlook 69 128 = some (128, .dup, 1, 0, 0, 0, 0) from xlk (by decide +kernel)) rfl ?_
    refine xw_geti2 (u := (F) (o0) 4) (show xlook 69 129 = some (129, .getfield 22, 3, 8, 4, 0, 123) from xlk (by decide +kernel)) (by decide) (xobf h0 (by decide) (by decide)) rfl (xup_i (by decide)) (n := 132) rfl ?_
    refine xw_iconst (n := 133) (show xlook 69 132 = some (132, .iconst 1, 1, 0, 0, 0, 0) from xlk (by decide +kernel)) rfl ?_
    refine xw_iadd (n := 134) (show xlook 69 133 = some (133, .iadd, 1, 0, 0, 0, 0) from xlk (by decide +kernel)) rfl ?_
    refine xw_puti (show xlook 69 134 = some (134, .putfield 22, 3, 8, 4, 0, 123) from xlk (by decide +kernel)) (xobf h0 (by decide) (by decide)) rfl (n := 137) rfl ?_
    refine xw_aload_n (n := 138) (show xlook 69 137 = some (137, .aload_n 1, 1, 0, 0, 0, 0) from xlk (by decide +kernel)) rfl rfl ?_
    refine xw_iload_n (n := 139) (show xlook 69 138 = some (138, .iload_n 2, 1, 0, 0, 0, 0) from xlk (by decide +kernel)) rfl rfl ?_
    obtain ⟨j1, hj1, rr1, G1, hm1, hG1, t⟩ := t
    obtain ⟨y1, rfl, t⟩ := t
    refine xw_callv (dk := j1) (o := o1) (as := [vi (x2)]) (show xlook 69 139 = some (139, .invokevirtual 45, 3, 9, 2, 0, 79) from xlk (by decide +kernel)) (by decide) hj1 ⟨Nat.le_of_ble_eq_true rfl, Nat.le_of_ble_eq_true rfl, Nat.le_of_ble_eq_true rfl⟩ ⟨h1.1, h1.2, by decide⟩ rfl hm1 (n := 142) rfl ?_
    show xW X d 69 142 [.ref (o0), .ref (o1), vi (x2), vi (x3)] [vi (y1)] G1 (xqv Q)
    obtain ⟨q0, t⟩ := t
    refine xw_if_ne (n := 145) (m := 155) (show xlook 69 142 = some (142, .ifCond .ne 13, 3, 155, 0, 0, 0) from xlk (by decide +kernel)) rfl rfl q0 ⟨fun c => ?_, fun c => ?_⟩
    · replace t := t.1 c
      exact xw_return hG1 (show xlook 69 155 = some (155, .return_, 1, 0, 0, 0, 0) from xlk (by decide +kernel)) rfl (t hG1)
    · replace t := t.2 c
      refine xw_aload_n (n := 146) (show xlook 69 145 = some (145, .aload_n 0, 1, 0, 0, 0, 0) from xlk (by decide +kernel)) rfl rfl ?_
      refine xw_dupr (n := 147) (show xlook 69 146 = some (146, .dup, 1, 0, 0, 0, 0) from xlk (by decide +kernel)) rfl ?_
      refine xw_geti (show xlook 69 147 = some (147, .getfield 25, 3, 8, 5, 0, 124) from xlk (by decide +kernel)) (by decide) (xobf h0 (by decide) (by decide)) rfl (n := 150) rfl ?_
      refine xw_iconst (n := 151) (show xlook 69 150 = some (150, .iconst 1, 1, 0, 0, 0, 0) from xlk (by decide +kernel)) rfl ?_
      refine xw_iadd (n := 152) (show xlook 69 151 = some (151, .iadd, 1, 0, 0, 0, 0) from xlk (by decide +kernel)) rfl ?_
      refine xw_puti (show xlook 69 152 = some (152, .putfield 25, 3, 8, 5, 0, 124) from xlk (by decide +kernel)) (xobf h0 (by decide) (by decide)) rfl (n := 155) rfl ?_
      exact xw_return (xPT_fld (k := 5) hG1 h0 (by decide) (by decide)) (show xlook 69 155 = some (155, .return_, 1, 0, 0, 0, 0) from xlk (by decide +kernel)) rfl (t (xPT_fld (k := 5) hG1 h0 (by decide) (by decide)))

theorem s71_0 {X : List Int32} {d : Nat} {F : XF} {Q : XF → Prop} {o0 : Nat} (hPT : xPT F) (h0 : xob 9 o0) (t : xPT (xup (xup (xup (xup (xup (xup (xup (xup (xup (F) (o0) 0 (100)) (o0) 1 (10)) (o0) 2 (2)) (o0) 3 (0)) (o0) 4 (0)) (o0) 6 (0)) (o0) 8 (0)) (o0) 9 (0)) (o0) 11 (0)) → Q (xup (xup (xup (xup (xup (xup (xup (xup (xup (F) (o0) 0 (100)) (o0) 1 (10)) (o0) 2 (2)) (o0) 3 (0)) (o0) 4 (0)) (o0) 6 (0)) (o0) 8 (0)) (o0) 9 (0)) (o0) 11 (0))) : xW X d 71 0 [.ref (o0)] [] F (xqv Q) := by
  refine xw_aload_n (n := 1) (show xlook 71 0 = some (0, .aload_n 0, 1, 0, 0, 0, 0) from xlk (by decide +kernel)) rfl rfl ?_
  refine xw_bipush (n := 3) (show xlook 71 1 = some (1, .bipush 100, 2, 0, 0, 0, 0) from xlk (by decide +kernel)) rfl (by decide) ?_
  refine xw_puti (show xlook 71 3 = some (3, .putfield 37, 3, 9, 0, 0, 134) from xlk (by decide +kernel)) (xobf h0 (by decide) (by decide)) rfl (n := 6) rfl ?_
  refine xw_aload_n (n := 7) (show xlook 71 6 = some (6, .aload_n 0, 1, 0, 0, 0, 0) from xlk (by decide +kernel)) rfl rfl ?_
  refine xw_bipush (n := 9) (show xlook 71 7 = some (7, .bipush 10, 2, 0, 0, 0, 0) from xlk (by decide +kernel)) rfl (by decide) ?_
  refine xw_puti (show xlook 71 9 = some (9, .putfield 41, 3, 9, 1, 0, 135) from xlk (by decide +kernel)) (xobf h0 (by decide) (by decide)) rfl (n := 12) rfl ?_
  refine xw_aload_n (n := 13) (show xlook 71 12 = some (12, .aload_n 0, 1, 0, 0, 0, 0) from xlk (by decide +kernel)) rfl rfl ?_
  refine xw_iconst (n := 14) (show xlook 71 13 = some (13, .iconst 2, 1, 0, 0, 0, 0) from xlk (by decide +kernel)) rfl ?_
  refine xw_puti (show xlook 71 14 = some (14, .putfield 44, 3, 9, 2, 0, 136) from xlk (by decide +kernel)) (xobf h0 (by decide) (by decide)) rfl (n := 17) rfl ?_
  refine xw_aload_n (n := 18) (show xlook 71 17 = some (17, .aload_n 0, 1, 0, 0, 0, 0) from xlk (by decide +kernel)) rfl rfl ?_
  refine xw_iconst (n := 19) (show xlook 71 18 = some (18, .iconst 0, 1, 0, 0, 0, 0) from xlk (by decide +kernel)) rfl ?_
  refine xw_puti (show xlook 71 19 = some (19, .putfield 47, 3, 9, 3, 0, 137) from xlk (by decide +kernel)) (xobf h0 (by decide) (by decide)) rfl (n := 22) rfl ?_
  refine xw_aload_n (n := 23) (show xlook 71 22 = some (22, .aload_n 0, 1, 0, 0, 0, 0) from xlk (by decide +kernel)) rfl rfl ?_
  refine xw_iconst (n := 24) (show xlook 71 23 = some (23, .iconst 0, 1, 0, 0, 0, 0) from xlk (by decide +kernel)) rfl ?_
  refine xw_puti (show xlook 71 24 = some (24, .putfield 50, 3, 9, 4, 0, 138) from xlk (by decide +kernel)) (xobf h0 (by decide) (by decide)) rfl (n := 27) rfl ?_
  refine xw_aload_n (n := 28) (show xlook 71 27 = some (27, .aload_n 0, 1, 0, 0, 0, 0) from xlk (by decide +kernel)) rfl rfl ?_
  refine xw_iconst (n := 29) (show xlook 71 28 = some (28, .iconst 0, 1, 0, 0, 0, 0) from xlk (by decide +kernel)) rfl ?_
  refine xw_puti (show xlook 71 29 = some (29, .putfield 53, 3, 9, 6, 0, 139) from xlk (by decide +kernel)) (xobf h0 (by decide) (by decide)) rfl (n := 32) rfl ?_
  refine xw_aload_n (n := 33) (show xlook 71 32 = some (32, .aload_n 0, 1, 0, 0, 0, 0) from xlk (by decide +kernel)) rfl rfl ?_
  refine xw_iconst (n := 34) (show xlook 71 33 = some (33, .iconst 0, 1, 0, 0, 0, 0) from xlk (by decide +kernel)) rfl ?_
  refine xw_puti (show xlook 71 34 = some (34, .putfield 56, 3, 9, 8, 0, 140) from xlk (by decide +kernel)) (xobf h0 (by decide) (by decide)) rfl (n := 37) rfl ?_
  refine xw_aload_n (n := 38) (show xlook 71 37 = some (37, .aload_n 0, 1, 0, 0, 0, 0) from xlk (by decide +kernel)) rfl rfl ?_
  refine xw_iconst (n := 39) (show xlook 71 38 = some (38, .iconst 0, 1, 0, 0, 0, 0) from xlk (by decide +kernel)) rfl ?_
  refine xw_puti (show xlook 71 39 = some (39, .putfield 59, 3, 9, 9, 0, 141) from xlk (by decide +kernel)) (xobf h0 (by decide) (by decide)) rfl (n := 42) rfl ?_
  refine xw_aload_n (n := 43) (show xlook 71 42 = some (42, .aload_n 0, 1, 0, 0, 0, 0) from xlk (by decide +kernel)) rfl rfl ?_
  refine xw_iconst (n := 44) (show xlook 71 43 = some (43, .iconst 0, 1, 0, 0, 0, 0) from xlk (by decide +kernel)) rfl ?_
  refine xw_puti (show xlook 71 44 = some (44, .putfield 62, 3, 9, 11, 0, 142) from xlk (by decide +kernel)) (xobf h0 (by decide) (by decide)) rfl (n := 47) rfl ?_
  exact xw_return (xPT_fld (k := 11) (xPT_fld (k := 9) (xPT_fld (k := 8) (xPT_fld (k := 6) (xPT_fld (k := 4) (xPT_fld (k := 3) (xPT_fld (k := 2) (xPT_fld (k := 1) (xPT_fld (k := 0) hPT h0 (by decide) (by decide)) h0 (by decide) (by decide)) h0 (by decide) (by decide)) h0 (by decide) (by decide)) h0 (by decide) (by decide)) h0 (by decide) (by decide)) h0 (by decide) (by decide)) h0 (by decide) (by decide)) h0 (by decide) (by decide)) (show xlook 71 47 = some (47, .return_, 1, 0, 0, 0, 0) from xlk (by decide +kernel)) rfl (t (xPT_fld (k := 11) (xPT_fld (k := 9) (xPT_fld (k := 8) (xPT_fld (k := 6) (xPT_fld (k := 4) (xPT_fld (k := 3) (xPT_fld (k := 2) (xPT_fld (k := 1) (xPT_fld (k := 0) hPT h0 (by decide) (by decide)) h0 (by decide) (by decide)) h0 (by decide) (by decide)) h0 (by decide) (by decide)) h0 (by decide) (by decide)) h0 (by decide) (by decide)) h0 (by decide) (by decide)) h0 (by decide) (by decide)) h0 (by decide) (by decide)))
theorem m71 {X : List Int32} {d : Nat} {F : XF} {Q : XF → Prop} {o0 : Nat} (hPT : xPT F) (h0 : xob 9 o0) (t : xPT (xup (xup (xup (xup (xup (xup (xup (xup (xup (F) (o0) 0 (100)) (o0) 1 (10)) (o0) 2 (2)) (o0) 3 (0)) (o0) 4 (0)) (o0) 6 (0)) (o0) 8 (0)) (o0) 9 (0)) (o0) 11 (0)) → Q (xup (xup (xup (xup (xup (xup (xup (xup (xup (F) (o0) 0 (100)) (o0) 1 (10)) (o0) 2 (2)) (o0) 3 (0)) (o0) 4 (0)) (o0) 6 (0)) (o0) 8 (0)) (o0) 9 (0)) (o0) 11 (0))) : xMV X d 71 [.ref (o0)] F Q := by
  show xW X d 71 0 [.ref (o0)] [] F (xqv Q)
  exact s71_0 hPT h0 t

theorem s72_0 {X : List Int32} {d : Nat} {F : XF} {Q : XF → Prop} {o0 : Nat} {o1 : Nat} {w2 : Value} (hPT : xPT F) (h0 : xob 9 o0) (h1 : xob 9 o1) (t : xPT (xup (xup (xup (xup (xup (F) (o0) 0 ((F) (o1) 0)) (o0) 1 ((xup (F) (o0) 0 ((F) (o1) 0)) (o1) 1)) (o0) 2 ((xup (xup (F) (o0) 0 ((F) (o1) 0)) (o0) 1 ((xup (F) (o0) 0 ((F) (o1) 0)) (o1) 1)) (o1) 2)) (o0) 3 ((xup (xup (xup (F) (o0) 0 ((F) (o1) 0)) (o0) 1 ((xup (F) (o0) 0 ((F) (o1) 0)) (o1) 1)) (o0) 2 ((xup (xup (F) (o0) 0 ((F) (o1) 0)) (o0) 1 ((xup (F) (o0) 0 ((F) (o1) 0)) (o1) 1)) (o1) 2)) (o1) 3)) (o0) 4 ((xup (xup (xup (xup (F) (o0) 0 ((F) (o1) 0)) (o0) 1 ((xup (F) (o0) 0 ((F) (o1) 0)) (o1) 1)) (o0) 2 ((xup (xup (F) (o0) 0 ((F) (o1) 0)) (o0) 1 ((xup (F) (o0) 0 ((F) (o1) 0)) (o1) 1)) (o1) 2)) (o0) 3 ((xup (xup (xup (F) (o0) 0 ((F) (o1) 0)) (o0) 1 ((xup (F) (o0) 0 ((F) (o1) 0)) (o1) 1)) (o0) 2 ((xup (xup (F) (o0) 0 ((F) (o1) 0)) (o0) 1 ((xup (F) (o0) 0 ((F) (o1) 0)) (o1) 1)) (o1) 2)) (o1) 3)) (o1) 4)) → xW X d 72 42 [.ref (o0), .ref (o1), vi (0)] [] (xup (xup (xup (xup (xup (F) (o0) 0 ((F) (o1) 0)) (o0) 1 ((xup (F) (o0) 0 ((F) (o1) 0)) (o1) 1)) (o0) 2 ((xup (xup (F) (o0) 0 ((F) (o1) 0)) (o0) 1 ((xup (F) (o0) 0 ((F) (o1) 0)) (o1) 1)) (o1) 2)) (o0) 3 ((xup (xup (xup (F) (o0) 0 ((F) (o1) 0)) (o0) 1 ((xup (F) (o0) 0 ((F) (o1) 0)) (o1) 1)) (o0) 2 ((xup (xup (F) (o0) 0 ((F) (o1) 0)) (o0) 1 ((xup (F) (o0) 0 ((F) (o1) 0)) (o1) 1)) (o1) 2)) (o1) 3)) (o0) 4 ((xup (xup (xup (xup (F) (o0) 0 ((F) (o1) 0)) (o0) 1 ((xup (F) (o0) 0 ((F) (o1) 0)) (o1) 1)) (o0) 2 ((xup (xup (F) (o0) 0 ((F) (o1) 0)) (o0) 1 ((xup (F) (o0) 0 ((F) (o1) 0)) (o1) 1)) (o1) 2)) (o0) 3 ((xup (xup (xup (F) (o0) 0 ((F) (o1) 0)) (o0) 1 ((xup (F) (o0) 0 ((F) (o1) 0)) (o1) 1)) (o0) 2 ((xup (xup (F) (o0) 0 ((F) (o1) 0)) (o0) 1 ((xup (F) (o0) 0 ((F) (o1) 0)) (o1) 1)) (o1) 2)) (o1) 3)) (o1) 4)) (xqv Q)) : xW X d 72 0 [.ref (o0), .ref (o1), w2] [] F (xqv Q) := by
  refine xw_aload_n (n := 1) (show xlook 72 0 = some (0, .aload_n 0, 1, 0, 0, 0, 0) from xlk (by decide +kernel)) rfl rfl ?_
  refine xw_aload_n (n := 2) (show xlook 72 1 = some (1, .aload_n 1, 1, 0, 0, 0, 0) from xlk (by decide +kernel)) rfl rfl ?_
  refine xw_geti (show xlook 72 2 = some (2, .getfield 37, 3, 9, 0, 0, 134) from xlk (by decide +kernel)) (by decide) (xobf h1 (by decide) (by decide)) rfl (n := 5) rfl ?_
  refine xw_puti (show xlook 72 5 = some (5, .putfield 37, 3, 9, 0, 0, 134) from xlk (by decide +kernel)) (xobf h0 (by decide) (by decide)) rfl (n := 8) rfl ?_
  refine xw_aload_n (n := 9) (show xlook 72 8 = some (8, .aload_n 0, 1, 0, 0, 0, 0) from xlk (by decide +kernel)) rfl rfl ?_
  refine xw_aload_n (n := 10) (show xlook 72 9 = some (9, .aload_n 1, 1, 0, 0, 0, 0) from xlk (by decide +kernel)) rfl rfl ?_
  refine xw_geti (show xlook 72 10 = some (10, .getfield 41, 3, 9, 1, 0, 135) from xlk (by decide +kernel)) (by decide) (xobf h1 (by decide) (by decide)) rfl (n := 13) rfl ?_
  refine xw_puti (show xlook 72 13 = some (13, .putfield 41, 3, 9, 1, 0, 135) from xlk (by decide +kernel)) (xobf h0 (by decide) (by decide)) rfl (n := 16) rfl ?_
  refine xw_aload_n (n := 17) (show xlook 72 16 = some (16, .aload_n 0, 1, 0, 0, 0, 0) from xlk (by decide +kernel)) rfl rfl ?_
  refine xw_aload_n (n := 18) (show xlook 72 17 = some (17, .aload_n 1, 1, 0, 0, 0, 0) from xlk (by decide +kernel)) rfl rfl ?_
  refine xw_geti (show xlook 72 18 = some (18, .getfield 44, 3, 9, 2, 0, 136) from xlk (by decide +kernel)) (by decide) (xobf h1 (by decide) (by decide)) rfl (n := 21) rfl ?_
  refine xw_puti (show xlook 72 21 = some (21, .putfield 44, 3, 9, 2, 0, 136) from xlk (by decide +kernel)) (xobf h0 (by decide) (by decide)) rfl (n := 24) rfl ?_
  refine xw_aload_n (n := 25) (show xlook 72 24 = some (24, .aload_n 0, 1, 0, 0, 0, 0) from xlk (by decide +kernel)) rfl rfl ?_
  refine xw_aload_n (n := 26) (show xlook 72 25 = some (25, .aload_n 1, 1, 0, 0, 0, 0) from xlk (by decide +kernel)) rfl rfl ?_
  refine xw_geti (show xlook 72 26 = some (26, .getfield 47, 3, 9, 3, 0, 137) from xlk (by decide +kernel)) (by decide) (xobf h1 (by decide) (by decide)) rfl (n := 29) rfl ?_
  refine xw_puti (show xlook 72 29 = some (29, .putfield 47, 3, 9, 3, 0, 137) from xlk (by decide +kernel)) (xobf h0 (by decide) (by decide)) rfl (n := 32) rfl ?_
  refine xw_aload_n (n := 33) (show xlook 72 32 = some (32, .aload_n 0, 1, 0, 0, 0, 0) from xlk (by decide +kernel)) rfl rfl ?_
  refine xw_aload_n (n := 34) (show xlook 72 33 = some (33, .aload_n 1, 1, 0, 0, 0, 0) from xlk (by decide +kernel)) rfl rfl ?_
  refine xw_geti (show xlook 72 34 = some (34, .getfield 50, 3, 9, 4, 0, 138) from xlk (by decide +kernel)) (by decide) (xobf h1 (by decide) (by decide)) rfl (n := 37) rfl ?_
  refine xw_puti (show xlook 72 37 = some (37, .putfield 50, 3, 9, 4, 0, 138) from xlk (by decide +kernel)) (xobf h0 (by decide) (by decide)) rfl (n := 40) rfl ?_
  refine xw_iconst (n := 41) (show xlook 72 40 = some (40, .iconst 0, 1, 0, 0, 0, 0) from xlk (by decide +kernel)) rfl ?_
  refine xw_istore_n (n := 42) (show xlook 72 41 = some (41, .istore_n 2, 1, 0, 0, 0, 0) from xlk (by decide +kernel)) rfl (ls' := [.ref (o0), .ref (o1), vi (0)]) (Nat.le_of_ble_eq_true rfl) rfl ?_
  exact t (xPT_fld (k := 4) (xPT_fld (k := 3) (xPT_fld (k := 2) (xPT_fld (k := 1) (xPT_fld (k := 0) hPT h0 (by decide) (by decide)) h0 (by decide) (by decide)) h0 (by decide) (by decide)) h0 (by decide) (by decide)) h0 (by decide) (by decide))
theorem m72 {X : List Int32} {d : Nat} {F : XF} {Q : XF → Prop} {o0 : Nat} {o1 : Nat} (hPT : xPT F) (h0 : xob 9 o0) (h1 : xob 9 o1) (t : xPT (xup (xup (xup (xup (xup (F) (o0) 0 ((F) (o1) 0)) (o0) 1 ((xup (F) (o0) 0 ((F) (o1) 0)) (o1) 1)) (o0) 2 ((xup (xup (F) (o0) 0 ((F) (o1) 0)) (o0) 1 ((xup (F) (o0) 0 ((F) (o1) 0)) (o1) 1)) (o1) 2)) (o0) 3 ((xup (xup (xup (F) (o0) 0 ((F) (o1) 0)) (o0) 1 ((xup (F) (o0) 0 ((F) (o1) 0)) (o1) 1)) (o0) 2 ((xup (xup (F) (o0) 0 ((F) (o1) 0)) (o0) 1 ((xup (F) (o0) 0 ((F) (o1) 0)) (o1) 1)) (o1) 2)) (o1) 3)) (o0) 4 ((xup (xup (xup (xup (F) (o0) 0 ((F) (o1) 0)) (o0) 1 ((xup (F) (o0) 0 ((F) (o1) 0)) (o1) 1)) (o0) 2 ((xup (xup (F) (o0) 0 ((F) (o1) 0)) (o0) 1 ((xup (F) (o0) 0 ((F) (o1) 0)) (o1) 1)) (o1) 2)) (o0) 3 ((xup (xup (xup (F) (o0) 0 ((F) (o1) 0)) (o0) 1 ((xup (F) (o0) 0 ((F) (o1) 0)) (o1) 1)) (o0) 2 ((xup (xup (F) (o0) 0 ((F) (o1) 0)) (o0) 1 ((xup (F) (o0) 0 ((F) (o1) 0)) (o1) 1)) (o1) 2)) (o1) 3)) (o1) 4)) → xW X d 72 42 [.ref (o0), .ref (o1), vi (0)] [] (xup (xup (xup (xup (xup (F) (o0) 0 ((F) (o1) 0)) (o0) 1 ((xup (F) (o0) 0 ((F) (o1) 0)) (o1) 1)) (o0) 2 ((xup (xup (F) (o0) 0 ((F) (o1) 0)) (o0) 1 ((xup (F) (o0) 0 ((F) (o1) 0)) (o1) 1)) (o1) 2)) (o0) 3 ((xup (xup (xup (F) (o0) 0 ((F) (o1) 0)) (o0) 1 ((xup (F) (o0) 0 ((F) (o1) 0)) (o1) 1)) (o0) 2 ((xup (xup (F) (o0) 0 ((F) (o1) 0)) (o0) 1 ((xup (F) (o0) 0 ((F) (o1) 0)) (o1) 1)) (o1) 2)) (o1) 3)) (o0) 4 ((xup (xup (xup (xup (F) (o0) 0 ((F) (o1) 0)) (o0) 1 ((xup (F) (o0) 0 ((F) (o1) 0)) (o1) 1)) (o0) 2 ((xup (xup (F) (o0) 0 ((F) (o1) 0)) (o0) 1 ((xup (F) (o0) 0 ((F) (o1) 0)) (o1) 1)) (o1) 2)) (o0) 3 ((xup (xup (xup (F) (o0) 0 ((F) (o1) 0)) (o0) 1 ((xup (F) (o0) 0 ((F) (o1) 0)) (o1) 1)) (o0) 2 ((xup (xup (F) (o0) 0 ((F) (o1) 0)) (o0) 1 ((xup (F) (o0) 0 ((F) (o1) 0)) (o1) 1)) (o1) 2)) (o1) 3)) (o1) 4)) (xqv Q)) : xMV X d 72 [.ref (o0), .ref (o1)] F Q := by
  show xW X d 72 0 [.ref (o0), .ref (o1), xU0] [] F (xqv Q)
  exact s72_0 hPT h0 h1 t

theorem s72_42 {X : List Int32} {d : Nat} {F : XF} {Q : XF → Prop} {o0 : Nat} {o1 : Nat} {x2 : Int} (hPT : xPT F) (h0 : xob 9 o0) (h1 : xob 9 o1) (t : inR (x2) ∧ inR ((F) (o0) 4) ∧ (((((F) (o0) 4) ≤ (x2)) → (xPT (xcopy (xcopy (xcopy (xup (xcopy (xup (xup (xcopy (xup (F) (o0) 6 ((F) (o1) 6)) (o1 + 2) 0 (o0 + 2) 0 30) (o0) 8 ((xcopy (xup (F) (o0) 6 ((F) (o1) 6)) (o1 + 2) 0 (o0 + 2) 0 30) (o1) 8)) (o0) 9 ((xup (xcopy (xup (F) (o0) 6 ((F) (o1) 6)) (o1 + 2) 0 (o0 + 2) 0 30) (o0) 8 ((xcopy (xup (F) (o0) 6 ((F) (o1) 6)) (o1 + 2) 0 (o0 + 2) 0 30) (o1) 8)) (o1) 9)) (o1 + 3) 0 (o0 + 3) 0 4) (o0) 11 ((xcopy (xup (xup (xcopy (xup (F) (o0) 6 ((F) (o1) 6)) (o1 + 2) 0 (o0 + 2) 0 30) (o0) 8 ((xcopy (xup (F) (o0) 6 ((F) (o1) 6)) (o1 + 2) 0 (o0 + 2) 0 30) (o1) 8)) (o0) 9 ((xup (xcopy (xup (F) (o0) 6 ((F) (o1) 6)) (o1 + 2) 0 (o0 + 2) 0 30) (o0) 8 ((xcopy (xup (F) (o0) 6 ((F) (o1) 6)) (o1 + 2) 0 (o0 + 2) 0 30) (o1) 8)) (o1) 9)) (o1 + 3) 0 (o0 + 3) 0 4) (o1) 11)) (o1 + 4) 0 (o0 + 4) 0 7) (o1 + 5) 0 (o0 + 5) 0 7) (o1 + 6) 0 (o0 + 6) 0 7) → Q (xcopy (xcopy (xcopy (xup (xcopy (xup (xup (xcopy (xup (F) (o0) 6 ((F) (o1) 6)) (o1 + 2) 0 (o0 + 2) 0 30) (o0) 8 ((xcopy (xup (F) (o0) 6 ((F) (o1) 6)) (o1 + 2) 0 (o0 + 2) 0 30) (o1) 8)) (o0) 9 ((xup (xcopy (xup (F) (o0) 6 ((F) (o1) 6)) (o1 + 2) 0 (o0 + 2) 0 30) (o0) 8 ((xcopy (xup (F) (o0) 6 ((F) (o1) 6)) (o1 + 2) 0 (o0 + 2) 0 30) (o1) 8)) (o1) 9)) (o1 + 3) 0 (o0 + 3) 0 4) (o0) 11 ((xcopy (xup (xup (xcopy (xup (F) (o0) 6 ((F) (o1) 6)) (o1 + 2) 0 (o0 + 2) 0 30) (o0) 8 ((xcopy (xup (F) (o0) 6 ((F) (o1) 6)) (o1 + 2) 0 (o0 + 2) 0 30) (o1) 8)) (o0) 9 ((xup (xcopy (xup (F) (o0) 6 ((F) (o1) 6)) (o1 + 2) 0 (o0 + 2) 0 30) (o0) 8 ((xcopy (xup (F) (o0) 6 ((F) (o1) 6)) (o1 + 2) 0 (o0 + 2) 0 30) (o1) 8)) (o1) 9)) (o1 + 3) 0 (o0 + 3) 0 4) (o1) 11)) (o1 + 4) 0 (o0 + 4) 0 7) (o1 + 5) 0 (o0 + 5) 0 7) (o1 + 6) 0 (o0 + 6) 0 7))) ∧ (¬ (((F) (o0) 4) ≤ (x2)) → ((0 ≤ (x2 : Int) ∧ (x2 : Int) < 10) ∧ ((0 ≤ (x2 : Int) ∧ (x2 : Int) < 10) ∧ (∃ (j3 : Nat), j3 < d ∧ xMV X j3 6 [.ref (o0 + 1 + 6 + (x2 : Int).toNat), .ref (o1 + 1 + 6 + (x2 : Int).toNat)] (F) (fun (G3 : XF) => (xPT (G3) → xW X d 72 42 [.ref (o0), .ref (o1), vi (x2 + 1)] [] (G3) (xqv Q))))))))) : xW X d 72 42 [.ref (o0), .ref (o1), vi (x2)] [] F (xqv Q) := by
  refine xw_iload_n (n := 43) (show xlook 72 42 = some (42, .iload_n 2, 1, 0, 0, 0, 0) from xlk (by decide +kernel)) rfl rfl ?_
  refine xw_aload_n (n := 44) (show xlook 72 43 = some (43, .aload_n 0, 1, 0, 0, 0, 0) from xlk (by decide +kernel)) rfl rfl ?_
  refine xw_geti (show xlook 72 44 = some (44, .getfield 50, 3, 9, 4, 0, 138) from xlk (by decide +kernel)) (by decide) (xobf h0 (by decide) (by decide)) rfl (n := 47) rfl ?_
  obtain ⟨q0, q1, t⟩ := t
  refine xw_icmp_ge (n := 50) (m := 71) (show xlook 72 47 = some (47, .if_icmp .ge 24, 3, 71, 0, 0, 0) from xlk (by decide +kernel)) rfl rfl q0 q1 ⟨fun c => ?_, fun c => ?_⟩
  · replace t := t.1 c
    refine xw_aload_n (n := 72) (show xlook 72 71 = some (71, .aload_n 0, 1, 0, 0, 0, 0) from xlk (by decide +kernel)) rfl rfl ?_
    refine xw_aload_n (n := 73) (show xlook 72 72 = some (72, .aload_n 1, 1, 0, 0, 0, 0) from xlk (by decide +kernel)) rfl rfl ?_
    refine xw_geti (show xlook 72 73 = some (73, .getfield 53, 3, 9, 6, 0, 139) from xlk (by decide +kernel)) (by decide) (xobf h1 (by decide) (by decide)) rfl (n := 76) rfl ?_
    refine xw_puti (show xlook 72 76 = some (76, .putfield 53, 3, 9, 6, 0, 139) from xlk (by decide +kernel)) (xobf h0 (by decide) (by decide)) rfl (n := 79) rfl ?_
    refine xw_aload_n (n := 80) (show xlook 72 79 = some (79, .aload_n 1, 1, 0, 0, 0, 0) from xlk (by decide +kernel)) rfl rfl ?_
    refine xw_getr (q := o1 + 2) (show xlook 72 80 = some (80, .getfield 17, 3, 9, 7, 0, 129) from xlk (by decide +kernel)) (by decide) (xobf h1 (by decide) (by decide)) rfl (xPT_get (k := 7) (f := 2) (xPT_fld (k := 6) hPT h0 (by decide) (by decide)) h1 (by decide)) (by have := (xtg_9_7 _ h1.1 h1.2).1.1; omega) (n := 83) rfl ?_
    refine xw_iconst (n := 84) (show xlook 72 83 = some (83, .iconst 0, 1, 0, 0, 0, 0) from xlk (by decide +kernel)) rfl ?_
    refine xw_aload_n (n := 85) (show xlook 72 84 = some (84, .aload_n 0, 1, 0, 0, 0, 0) from xlk (by decide +kernel)) rfl rfl ?_
    refine xw_getr (q := o0 + 2) (show xlook 72 85 = some (85, .getfield 17, 3, 9, 7, 0, 129) from xlk (by decide +kernel)) (by decide) (xobf h0 (by decide) (by decide)) rfl (xPT_get (k := 7) (f := 2) (xPT_fld (k := 6) hPT h0 (by decide) (by decide)) h0 (by decide)) (by have := (xtg_9_7 _ h0.1 h0.2).1.1; omega) (n := 88) rfl ?_
    refine xw_iconst (n := 89) (show xlook 72 88 = some (88, .iconst 0, 1, 0, 0, 0, 0) from xlk (by decide +kernel)) rfl ?_
    refine xw_bipush (n := 91) (show xlook 72 89 = some (89, .bipush 30, 2, 0, 0, 0, 0) from xlk (by decide +kernel)) rfl (by decide) ?_
    refine xw_copy (show xlook 72 91 = some (91, .invokestatic 69, 3, 1004, 5, 0, 84) from xlk (by decide +kernel)) rfl (Nat.le_of_ble_eq_true rfl) (xtg_9_7 _ h0.1 h0.2).1 (xtg_9_7 _ h1.1 h1.2).1 (by decide) (by decide) (by decide) (by rw [(xtg_9_7 _ h1.1 h1.2).2]; decide) (by rw [(xtg_9_7 _ h0.1 h0.2).2]; decide) (n := 94) rfl ?_
    refine xw_aload_n (n := 95) (show xlook 72 94 = some (94, .aload_n 0, 1, 0, 0, 0, 0) from xlk (by decide +kernel)) rfl rfl ?_
    refine xw_aload_n (n := 96) (show xlook 72 95 = some (95, .aload_n 1, 1, 0, 0, 0, 0) from xlk (by decide +kernel)) rfl rfl ?_
    refine xw_geti (show xlook 72 96 = some (96, .getfield 56, 3, 9, 8, 0, 140) from xlk (by decide +kernel)) (by decide) (xobf h1 (by decide) (by decide)) rfl (n := 99) rfl ?_
    refine xw_puti (show xlook 72 99 = some (99, .putfield 56, 3, 9, 8, 0, 140) from xlk (by decide +kernel)) (xobf h0 (by decide) (by decide)) rfl (n := 102) rfl ?_
    refine xw_aload_n (n := 103) (show xlook 72 102 = some (102, .aload_n 0, 1, 0, 0, 0, 0) from xlk (by decide +kernel)) rfl rfl ?_
    refine xw_aload_n (n := 104) (show xlook 72 103 = some (103, .aload_n 1, 1, 0, 0, 0, 0) from xlk (by decide +kernel)) rfl rfl ?_
    refine xw_geti (show xlook 72 104 = some (104, .getfield 59, 3, 9, 9, 0, 141) from xlk (by decide +kernel)) (by decide) (xobf h1 (by decide) (by decide)) rfl (n := 107) rfl ?_
    refine xw_puti (show xlook 72 107 = some (107, .putfield 59, 3, 9, 9, 0, 141) from xlk (by decide +kernel)) (xobf h0 (by decide) (by decide)) rfl (n := 110) rfl ?_
    refine xw_aload_n (n := 111) (show xlook 72 110 = some (110, .aload_n 1, 1, 0, 0, 0, 0) from xlk (by decide +kernel)) rfl rfl ?_
    refine xw_getr (q := o1 + 3) (show xlook 72 111 = some (111, .getfield 21, 3, 9, 10, 0, 130) from xlk (by decide +kernel)) (by decide) (xobf h1 (by decide) (by decide)) rfl (xPT_get (k := 10) (f := 3) (xPT_fld (k := 9) (xPT_fld (k := 8) (xPT_cpy (xPT_fld (k := 6) hPT h0 (by decide) (by decide)) (xtg_9_7 _ h0.1 h0.2).1.2) h0 (by decide) (by decide)) h0 (by decide) (by decide)) h1 (by decide)) (by have := (xtg_9_10 _ h1.1 h1.2).1.1; omega) (n := 114) rfl ?_
    refine xw_iconst (n := 115) (show xlook 72 114 = some (114, .iconst 0, 1, 0, 0, 0, 0) from xlk (by decide +kernel)) rfl ?_
    refine xw_aload_n (n := 116) (show xlook 72 115 = some (115, .aload_n 0, 1, 0, 0, 0, 0) from xlk (by decide +kernel)) rfl rfl ?_
    refine xw_getr (q := o0 + 3) (show xlook 72 116 = some (116, .getfield 21, 3, 9, 10, 0, 130) from xlk (by decide +kernel)) (by decide) (xobf h0 (by decide) (by decide)) rfl (xPT_get (k := 10) (f := 3) (xPT_fld (k := 9) (xPT_fld (k := 8) (xPT_cpy (xPT_fld (k := 6) hPT h0 (by decide) (by decide)) (xtg_9_7 _ h0.1 h0.2).1.2) h0 (by decide) (by decide)) h0 (by decide) (by decide)) h0 (by decide)) (by have := (xtg_9_10 _ h0.1 h0.2).1.1; omega) (n := 119) rfl ?_
    refine xw_iconst (n := 120) (show xlook 72 119 = some (119, .iconst 0, 1, 0, 0, 0, 0) from xlk (by decide +kernel)) rfl ?_
    refine xw_iconst (n := 121) (show xlook 72 120 = some (120, .iconst 4, 1, 0, 0, 0, 0) from xlk (by decide +kernel)) rfl ?_
    refine xw_copy (show xlook 72 121 = some (121, .invokestatic 69, 3, 1004, 5, 0, 84) from xlk (by decide +kernel)) rfl (Nat.le_of_ble_eq_true rfl) (xtg_9_10 _ h0.1 h0.2).1 (xtg_9_10 _ h1.1 h1.2).1 (by decide) (by decide) (by decide) (by rw [(xtg_9_10 _ h1.1 h1.2).2]; decide) (by rw [(xtg_9_10 _ h0.1 h0.2).2]; decide) (n := 124) rfl ?_
    refine xw_aload_n (n := 125) (show xlook 72 124 = some (124, .aload_n 0, 1, 0, 0, 0, 0) from xlk (by decide +kernel)) rfl rfl ?_
    refine xw_aload_n (n := 126) (show xlook 72 125 = some (125, .aload_n 1, 1, 0, 0, 0, 0) from xlk (by decide +kernel)) rfl rfl ?_
    refine xw_geti (show xlook 72 126 = some (126, .getfield 62, 3, 9, 11, 0, 142) from xlk (by decide +kernel)) (by decide) (xobf h1 (by decide) (by decide)) rfl (n := 129) rfl ?_
    refine xw_puti (show xlook 72 129 = some (129, .putfield 62, 3, 9, 11, 0, 142) from xlk (by decide +kernel)) (xobf h0 (by decide) (by decide)) rfl (n := 132) rfl ?_
    refine xw_aload_n (n := 133) (show xlook 72 132 = some (132, .aload_n 1, 1, 0, 0, 0, 0) from xlk (by decide +kernel)) rfl rfl ?_
    refine xw_getr (q := o1 + 4) (show xlook 72 133 = some (133, .getfield 24, 3, 9, 12, 0, 131) from xlk (by decide +kernel)) (by decide) (xobf h1 (by decide) (by decide)) rfl (xPT_get (k := 12) (f := 4) (xPT_fld (k := 11) (xPT_cpy (xPT_fld (k := 9) (xPT_fld (k := 8) (xPT_cpy (xPT_fld (k := 6) hPT h0 (by decide) (by decide)) (xtg_9_7 _ h0.1 h0.2).1.2) h0 (by decide) (by decide)) h0 (by decide) (by decide)) (xtg_9_10 _ h0.1 h0.2).1.2) h0 (by decide) (by decide)) h1 (by decide)) (by have := (xtg_9_12 _ h1.1 h1.2).1.1; omega) (n := 136) rfl ?_
    refine xw_iconst (n := 137) (show xlook 72 136 = some (136, .iconst 0, 1, 0, 0, 0, 0) from xlk (by decide +kernel)) rfl ?_
    refine xw_aload_n (n := 138) (show xlook 72 137 = some (137, .aload_n 0, 1, 0, 0, 0, 0) from xlk (by decide +kernel)) rfl rfl ?_
    refine xw_getr (q := o0 + 4) (show xlook 72 138 = some (138, .getfield 24, 3, 9, 12, 0, 131) from xlk (by decide +kernel)) (by decide) (xobf h0 (by decide) (by decide)) rfl (xPT_get (k := 12) (f := 4) (xPT_fld (k := 11) (xPT_cpy (xPT_fld (k := 9) (xPT_fld (k := 8) (xPT_cpy (xPT_fld (k := 6) hPT h0 (by decide) (by decide)) (xtg_9_7 _ h0.1 h0.2).1.2) h0 (by decide) (by decide)) h0 (by decide) (by decide)) (xtg_9_10 _ h0.1 h0.2).1.2) h0 (by decide) (by decide)) h0 (by decide)) (by have := (xtg_9_12 _ h0.1 h0.2).1.1; omega) (n := 141) rfl ?_
    refine xw_iconst (n := 142) (show xlook 72 141 = some (141, .iconst 0, 1, 0, 0, 0, 0) from xlk (by decide +kernel)) rfl ?_
    refine xw_bipush (n := 144) (show xlook 72 142 = some (142, .bipush 7, 2, 0, 0, 0, 0) from xlk (by decide +kernel)) rfl (by decide) ?_
    refine xw_copy (show xlook 72 144 = some (144, .invokestatic 69, 3, 1004, 5, 0, 84) from xlk (by decide +kernel)) rfl (Nat.le_of_ble_eq_true rfl) (xtg_9_12 _ h0.1 h0.2).1 (xtg_9_12 _ h1.1 h1.2).1 (by decide) (by decide) (by decide) (by rw [(xtg_9_12 _ h1.1 h1.2).2]; decide) (by rw [(xtg_9_12 _ h0.1 h0.2).2]; decide) (n := 147) rfl ?_
    refine xw_aload_n (n := 148) (show xlook 72 147 = some (147, .aload_n 1, 1, 0, 0, 0, 0) from xlk (by decide +kernel)) rfl rfl ?_
    refine xw_getr (q := o1 + 5) (show xlook 72 148 = some (148, .getfield 27, 3, 9, 13, 0, 132) from xlk (by decide +kernel)) (by decide) (xobf h1 (by decide) (by decide)) rfl (xPT_get (k := 13) (f := 5) (xPT_cpy (xPT_fld (k := 11) (xPT_cpy (xPT_fld (k := 9) (xPT_fld (k := 8) (xPT_cpy (xPT_fld (k := 6) hPT h0 (by decide) (by decide)) (xtg_9_7 _ h0.1 h0.2).1.2) h0 (by decide) (by decide)) h0 (by decide) (by decide)) (xtg_9_10 _ h0.1 h0.2).1.2) h0 (by decide) (by decide)) (xtg_9_12 _ h0.1 h0.2).1.2) h1 (by decide)) (by have := (xtg_9_13 _ h1.1 h1.2).1.1; omega) (n := 151) rfl ?_
    refine xw_iconst (n := 152) (show xlook 72 151 = some (151, .iconst 0, 1, 0, 0, 0, 0) from xlk (by decide +kernel)) rfl ?_
    refine xw_aload_n (n := 153) (show xlook 72 152 = some (152, .aload_n 0, 1, 0, 0, 0, 0) from xlk (by decide +kernel)) rfl rfl ?_
    refine xw_getr (q := o0 + 5) (show xlook 72 153 = some (153, .getfield 27, 3, 9, 13, 0, 132) from xlk (by decide +kernel)) (by decide) (xobf h0 (by decide) (by decide)) rfl (xPT_get (k := 13) (f := 5) (xPT_cpy (xPT_fld (k := 11) (xPT_cpy (xPT_fld (k := 9) (xPT_fld (k := 8) (xPT_cpy (xPT_fld (k := 6) hPT h0 (by decide) (by decide)) (xtg_9_7 _ h0.1 h0.2).1.2) h0 (by decide) (by decide)) h0 (by decide) (by decide)) (xtg_9_10 _ h0.1 h0.2).1.2) h0 (by decide) (by decide)) (xtg_9_12 _ h0.1 h0.2).1.2) h0 (by decide)) (by have := (xtg_9_13 _ h0.1 h0.2).1.1; omega) (n := 156) rfl ?_
    refine xw_iconst (n := 157) (show xlook 72 156 = some (156, .iconst 0, 1, 0, 0, 0, 0) from xlk (by decide +kernel)) rfl ?_
    refine xw_bipush (n := 159) (show xlook 72 157 = some (157, .bipush 7, 2, 0, 0, 0, 0) from xlk (by decide +kernel)) rfl (by decide) ?_
    refine xw_copy (show xlook 72 159 = some (159, .invokestatic 69, 3, 1004, 5, 0, 84) from xlk (by decide +kernel)) rfl (Nat.le_of_ble_eq_true rfl) (xtg_9_13 _ h0.1 h0.2).1 (xtg_9_13 _ h1.1 h1.2).1 (by decide) (by decide) (by decide) (by rw [(xtg_9_13 _ h1.1 h1.2).2]; decide) (by rw [(xtg_9_13 _ h0.1 h0.2).2]; decide) (n := 162) rfl ?_
    refine xw_aload_n (n := 163) (show xlook 72 162 = some (162, .aload_n 1, 1, 0, 0, 0, 0) from xlk (by decide +kernel)) rfl rfl ?_
    refine xw_getr (q := o1 + 6) (show xlook 72 163 = some (163, .getfield 30, 3, 9, 14, 0, 133) from xlk (by decide +kernel)) (by decide) (xobf h1 (by decide) (by decide)) rfl (xPT_get (k := 14) (f := 6) (xPT_cpy (xPT_cpy (xPT_fld (k := 11) (xPT_cpy (xPT_fld (k := 9) (xPT_fld (k := 8) (xPT_cpy (xPT_fld (k := 6) hPT h0 (by decide) (by decide)) (xtg_9_7 _ h0.1 h0.2).1.2) h0 (by decide) (by decide)) h0 (by decide) (by decide)) (xtg_9_10 _ h0.1 h0.2).1.2) h0 (by decide) (by decide)) (xtg_9_12 _ h0.1 h0.2).1.2) (xtg_9_13 _ h0.1 h0.2).1.2) h1 (by decide)) (by have := (xtg_9_14 _ h1.1 h1.2).1.1; omega) (n := 166) rfl ?_
    refine xw_iconst (n := 167) (show xlook 72 166 = some (166, .iconst 0, 1, 0, 0, 0, 0) from xlk (by decide +kernel)) rfl ?_
    refine xw_aload_n (n := 168) (show xlook 72 167 = some (167, .aload_n 0, 1, 0, 0, 0, 0) from xlk (by decide +kernel)) rfl rfl ?_
    refine xw_getr (q := o0 + 6) (show xlook 72 168 = some (168, .getfield 30, 3, 9, 14, 0, 133) from xlk (by decide +kernel)) (by decide) (xobf h0 (by decide) (by decide)) rfl (xPT_get (k := 14) (f := 6) (xPT_cpy (xPT_cpy (xPT_fld (k := 11) (xPT_cpy (xPT_fld (k := 9) (xPT_fld (k := 8) (xPT_cpy (xPT_fld (k := 6) hPT h0 (by decide) (by decide)) (xtg_9_7 _ h0.1 h0.2).1.2) h0 (by decide) (by decide)) h0 (by decide) (by decide)) (xtg_9_10 _ h0.1 h0.2).1.2) h0 (by decide) (by decide)) (xtg_9_12 _ h0.1 h0.2).1.2) (xtg_9_13 _ h0.1 h0.2).1.2) h0 (by decide)) (by have := (xtg_9_14 _ h0.1 h0.2).1.1; omega) (n := 171) rfl ?_
    refine xw_iconst (n := 172) (show xlook 72 171 = some (171, .iconst 0, 1, 0, 0, 0, 0) from xlk (by decide +kernel)) rfl ?_
    refine xw_bipush (n := 174) (show xlook 72 172 = some (172, .bipush 7, 2, 0, 0, 0, 0) from xlk (by decide +kernel)) rfl (by decide) ?_
    refine xw_copy (show xlook 72 174 = some (174, .invokestatic 69, 3, 1004, 5, 0, 84) from xlk (by decide +kernel)) rfl (Nat.le_of_ble_eq_true rfl) (xtg_9_14 _ h0.1 h0.2).1 (xtg_9_14 _ h1.1 h1.2).1 (by decide) (by decide) (by decide) (by rw [(xtg_9_14 _ h1.1 h1.2).2]; decide) (by rw [(xtg_9_14 _ h0.1 h0.2).2]; decide) (n := 177) rfl ?_
    exact xw_return (xPT_cpy (xPT_cpy (xPT_cpy (xPT_fld (k := 11) (xPT_cpy (xPT_fld (k := 9) (xPT_fld (k := 8) (xPT_cpy (xPT_fld (k := 6) hPT h0 (by decide) (by decide)) (xtg_9_7 _ h0.1 h0.2).1.2) h0 (by decide) (by decide)) h0 (by decide) (by decide)) (xtg_9_10 _ h0.1 h0.2).1.2) h0 (by decide) (by decide)) (xtg_9_12 _ h0.1 h0.2).1.2) (xtg_9_13 _ h0.1 h0.2).1.2) (xtg_9_14 _ h0.1 h0.2).1.2) (show xlook 72 177 = some (177, .return_, 1, 0, 0, 0, 0) from xlk (by decide +kernel)) rfl (t (xPT_cpy (xPT_cpy (xPT_cpy (xPT_fld (k := 11) (xPT_cpy (xPT_fld (k := 9) (xPT_fld (k := 8) (xPT_cpy (xPT_fld (k := 6) hPT h0 (by decide) (by decide)) (xtg_9_7 _ h0.1 h0.2).1.2) h0 (by decide) (by decide)) h0 (by decide) (by decide)) (xtg_9_10 _ h0.1 h0.2).1.2) h0 (by decide) (by decide)) (xtg_9_12 _ h0.1 h0.2).1.2) (xtg_9_13 _ h0.1 h0.2).1.2) (xtg_9_14 _ h0.1 h0.2).1.2))
  · replace t := t.2 c
    refine xw_aload_n (n := 51) (show xlook 72 50 = some (50, .aload_n 0, 1, 0, 0, 0, 0) from xlk (by decide +kernel)) rfl rfl ?_
    refine xw_getr (q := o0 + 1) (show xlook 72 51 = some (51, .getfield 11, 3, 9, 5, 0, 128) from xlk (by decide +kernel)) (by decide) (xobf h0 (by decide) (by decide)) rfl (xPT_get (k := 5) (f := 1) hPT h0 (by decide)) (by have := (xtg_9_5 _ h0.1 h0.2).1.1; omega) (n := 54) rfl ?_
    refine xw_iload_n (n := 55) (show xlook 72 54 = some (54, .iload_n 2, 1, 0, 0, 0, 0) from xlk (by decide +kernel)) rfl rfl ?_
    obtain ⟨q1, t⟩ := t
    have hb1 : xob 1 (o0 + 1 + 6 + (x2 : Int).toNat) := xel15 _ (xtg_9_5 _ h0.1 h0.2).1.1 (xtg_9_5 _ h0.1 h0.2).1.2 _ (xidx10 q1)
    refine xw_aald (q := o0 + 1 + 6 + (x2 : Int).toNat) (show xlook 72 55 = some (55, .aaload, 1, 0, 0, 0, 0) from xlk (by decide +kernel)) ⟨(xtg_9_5 _ h0.1 h0.2).1.1, (Or.inl (xtg_9_5 _ h0.1 h0.2).1.2)⟩ (by rw [xln15 _ (xtg_9_5 _ h0.1 h0.2).1.1 (Or.inl (xtg_9_5 _ h0.1 h0.2).1.2)]; exact q1) (xPT_el hPT (Or.inl (xtg_9_5 _ h0.1 h0.2).1) q1.1 q1.2) (by have := hb1.1; omega) (n := 56) rfl ?_
    refine xw_aload_n (n := 57) (show xlook 72 56 = some (56, .aload_n 1, 1, 0, 0, 0, 0) from xlk (by decide +kernel)) rfl rfl ?_
    refine xw_getr (q := o1 + 1) (show xlook 72 57 = some (57, .getfield 11, 3, 9, 5, 0, 128) from xlk (by decide +kernel)) (by decide) (xobf h1 (by decide) (by decide)) rfl (xPT_get (k := 5) (f := 1) hPT h1 (by decide)) (by have := (xtg_9_5 _ h1.1 h1.2).1.1; omega) (n := 60) rfl ?_
    refine xw_iload_n (n := 61) (show xlook 72 60 = some (60, .iload_n 2, 1, 0, 0, 0, 0) from xlk (by decide +kernel)) rfl rfl ?_
    obtain ⟨q1, t⟩ := t
    have hb2 : xob 1 (o1 + 1 + 6 + (x2 : Int).toNat) := xel15 _ (xtg_9_5 _ h1.1 h1.2).1.1 (xtg_9_5 _ h1.1 h1.2).1.2 _ (xidx10 q1)
    refine xw_aald (q := o1 + 1 + 6 + (x2 : Int).toNat) (show xlook 72 61 = some (61, .aaload, 1, 0, 0, 0, 0) from xlk (by decide +kernel)) ⟨(xtg_9_5 _ h1.1 h1.2).1.1, (Or.inl (xtg_9_5 _ h1.1 h1.2).1.2)⟩ (by rw [xln15 _ (xtg_9_5 _ h1.1 h1.2).1.1 (Or.inl (xtg_9_5 _ h1.1 h1.2).1.2)]; exact q1) (xPT_el hPT (Or.inl (xtg_9_5 _ h1.1 h1.2).1) q1.1 q1.2) (by have := hb2.1; omega) (n := 62) rfl ?_
    obtain ⟨j3, hj3, rr3, G3, hm3, hG3, t⟩ := t
    obtain ⟨rfl, t⟩ := t
    refine xw_callv (dk := j3) (o := o0 + 1 + 6 + (x2 : Int).toNat) (as := [.ref (o1 + 1 + 6 + (x2 : Int).toNat)]) (show xlook 72 62 = some (62, .invokevirtual 65, 3, 6, 2, 0, 83) from xlk (by decide +kernel)) (by decide) hj3 ⟨Nat.le_of_ble_eq_true rfl, Nat.le_of_ble_eq_true rfl, Nat.le_of_ble_eq_true rfl⟩ ⟨hb1.1, hb1.2, by decide⟩ rfl hm3 (n := 65) rfl ?_
    show xW X d 72 65 [.ref (o0), .ref (o1), vi (x2)] [] G3 (xqv Q)
    refine xw_iinc (n := 68) (show xlook 72 65 = some (65, .iinc 2 1, 3, 0, 0, 0, 0) from xlk (by decide +kernel)) rfl (ls' := [.ref (o0), .ref (o1), vi (x2 + 1)]) rfl rfl ?_
    refine xw_goto (m := 42) (show xlook 72 68 = some (68, .goto (-26), 3, 42, 0, 0, 0) from xlk (by decide +kernel)) rfl ?_
    exact t hG3

theorem s73_0 {X : List Int32} {d : Nat} {F : XF} {Q : XF → Prop} {o0 : Nat} {x1 : Int} {x2 : Int} {w3 : Value} (hPT : xPT F) (h0 : xob 9 o0) (t : xPT (F) → xW X d 73 2 [.ref (o0), vi (x1), vi (x2), vi (0)] [] (F) (xqv Q)) : xW X d 73 0 [.ref (o0), vi (x1), vi (x2), w3] [] F (xqv Q) := by
  refine xw_iconst (n := 1) (show xlook 73 0 = some (0, .iconst 0, 1, 0, 0, 0, 0) from xlk (by decide +kernel)) rfl ?_
  refine xw_istore_n (n := 2) (show xlook 73 1 = some (1, .istore_n 3, 1, 0, 0, 0, 0) from xlk (by decide +kernel)) rfl (ls' := [.ref (o0), vi (x1), vi (x2), vi (0)]) (Nat.le_of_ble_eq_true rfl) rfl ?_
  exact t hPT
theorem m73 {X : List Int32} {d : Nat} {F : XF} {Q : XF → Prop} {o0 : Nat} {x1 : Int} {x2 : Int} (hPT : xPT F) (h0 : xob 9 o0) (t : xPT (F) → xW X d 73 2 [.ref (o0), vi (x1), vi (x2), vi (0)] [] (F) (xqv Q)) : xMV X d 73 [.ref (o0), vi (x1), vi (x2)] F Q := by
  show xW X d 73 0 [.ref (o0), vi (x1), vi (x2), xU0] [] F (xqv Q)
  exact s73_0 hPT h0 t

theorem s73_2 {X : List Int32} {d : Nat} {F : XF} {Q : XF → Prop} {o0 : Nat} {x1 : Int} {x2 : Int} {x3 : Int} (hPT : xPT F) (h0 : xob 9 o0) (t : inR (x3) ∧ inR (x1) ∧ ((((x1) ≤ (x3)) → (xPT (F) → Q (F))) ∧ (¬ ((x1) ≤ (x3)) → (inR ((F) (o0) 6) ∧ ((((30) ≤ ((F) (o0) 6)) → (xPT (F) → Q (F))) ∧ (¬ ((30) ≤ ((F) (o0) 6)) → ((0 ≤ ((F) (o0) 6) ∧ ((F) (o0) 6) < 30) ∧ (xPT (xup (xup (F) (o0 + 2) ((F) (o0) 6) (x2)) (o0) 6 (((F) (o0) 6) + (1))) → xW X d 73 2 [.ref (o0), vi (x1), vi (x2), vi (x3 + 1)] [] (xup (xup (F) (o0 + 2) ((F) (o0) 6) (x2)) (o0) 6 (((F) (o0) 6) + (1))) (xqv Q))))))))) : xW X d 73 2 [.ref (o0), vi (x1), vi (x2), vi (x3)] [] F (xqv Q) := by
  refine xw_iload_n (n := 3) (show xlook 73 2 = some (2, .iload_n 3, 1, 0, 0, 0, 0) from xlk (by decide +kernel)) rfl rfl ?_
  refine xw_iload_n (n := 4) (show xlook 73 3 = some (3, .iload_n 1, 1, 0, 0, 0, 0) from xlk (by decide +kernel)) rfl rfl ?_
  obtain ⟨q0, q1, t⟩ := t
  refine xw_icmp_ge (n := 7) (m := 42) (show xlook 73 4 = some (4, .if_icmp .ge 38, 3, 42, 0, 0, 0) from xlk (by decide +kernel)) rfl rfl q0 q1 ⟨fun c => ?_, fun c => ?_⟩
  · replace t := t.1 c
    exact xw_return hPT (show xlook 73 42 = some (42, .return_, 1, 0, 0, 0, 0) from xlk (by decide +kernel)) rfl (t hPT)
  · replace t := t.2 c
    refine xw_aload_n (n := 8) (show xlook 73 7 = some (7, .aload_n 0, 1, 0, 0, 0, 0) from xlk (by decide +kernel)) rfl rfl ?_
    refine xw_geti (show xlook 73 8 = some (8, .getfield 53, 3, 9, 6, 0, 139) from xlk (by decide +kernel)) (by decide) (xobf h0 (by decide) (by decide)) rfl (n := 11) rfl ?_
    refine xw_bipush (n := 13) (show xlook 73 11 = some (11, .bipush 30, 2, 0, 0, 0, 0) from xlk (by decide +kernel)) rfl (by decide) ?_
    obtain ⟨q0, t⟩ := t
    refine xw_icmp_ge (n := 16) (m := 42) (show xlook 73 13 = some (13, .if_icmp .ge 29, 3, 42, 0, 0, 0) from xlk (by decide +kernel)) rfl rfl q0 ⟨by decide, by decide⟩ ⟨fun c => ?_, fun c => ?_⟩
    · replace t := t.1 c
      exact xw_return hPT (show xlook 73 42 = some (42, .return_, 1, 0, 0, 0, 0) from xlk (by decide +kernel)) rfl (t hPT)
    · replace t := t.2 c
      refine xw_aload_n (n := 17) (show xlook 73 16 = some (16, .aload_n 0, 1, 0, 0, 0, 0) from xlk (by decide +kernel)) rfl rfl ?_
      refine xw_getr (q := o0 + 2) (show xlook 73 17 = some (17, .getfield 17, 3, 9, 7, 0, 129) from xlk (by decide +kernel)) (by decide) (xobf h0 (by decide) (by decide)) rfl (xPT_get (k := 7) (f := 2) hPT h0 (by decide)) (by have := (xtg_9_7 _ h0.1 h0.2).1.1; omega) (n := 20) rfl ?_
      refine xw_aload_n (n := 21) (show xlook 73 20 = some (20, .aload_n 0, 1, 0, 0, 0, 0) from xlk (by decide +kernel)) rfl rfl ?_
      refine xw_geti (show xlook 73 21 = some (21, .getfield 53, 3, 9, 6, 0, 139) from xlk (by decide +kernel)) (by decide) (xobf h0 (by decide) (by decide)) rfl (n := 24) rfl ?_
      refine xw_iload_n (n := 25) (show xlook 73 24 = some (24, .iload_n 2, 1, 0, 0, 0, 0) from xlk (by decide +kernel)) rfl rfl ?_
      obtain ⟨q1, t⟩ := t
      refine xw_iast (show xlook 73 25 = some (25, .iastore, 1, 0, 0, 0, 0) from xlk (by decide +kernel)) (xtg_9_7 _ h0.1 h0.2).1 (by rw [(xtg_9_7 _ h0.1 h0.2).2]; exact q1) (n := 26) rfl ?_
      refine xw_aload_n (n := 27) (show xlook 73 26 = some (26, .aload_n 0, 1, 0, 0, 0, 0) from xlk (by decide +kernel)) rfl rfl ?_
      refine xw_dupr (n := 28) (show xlook 73 27 = some (27, .dup, 1, 0, 0, 0, 0) from xlk (by decide +kernel)) rfl ?_
      refine xw_geti2 (u := (F) (o0) 6) (show xlook 73 28 = some (28, .getfield 53, 3, 9, 6, 0, 139) from xlk (by decide +kernel)) (by decide) (xobf h0 (by decide) (by decide)) rfl (xup_o (by omega)) (n := 31) rfl ?_
      refine xw_iconst (n := 32) (show xlook 73 31 = some (31, .iconst 1, 1, 0, 0, 0, 0) from xlk (by decide +kernel)) rfl ?_
      refine xw_iadd (n := 33) (show xlook 73 32 = some (32, .iadd, 1, 0, 0, 0, 0) from xlk (by decide +kernel)) rfl ?_
      refine xw_puti (show xlook 73 33 = some (33, .putfield 53, 3, 9, 6, 0, 139) from xlk (by decide +kernel)) (xobf h0 (by decide) (by decide)) rfl (n := 36) rfl ?_
      refine xw_iinc (n := 39) (show xlook 73 36 = some (36, .iinc 3 1, 3, 0, 0, 0, 0) from xlk (by decide +kernel)) rfl (ls' := [.ref (o0), vi (x1), vi (x2), vi (x3 + 1)]) rfl rfl ?_
      refine xw_goto (m := 2) (show xlook 73 39 = some (39, .goto (-37), 3, 2, 0, 0, 0) from xlk (by decide +kernel)) rfl ?_
      exact t (xPT_fld (k := 6) (xPT_arr hPT (Or.inl (xtg_9_7 _ h0.1 h0.2).1.2)) h0 (by decide) (by decide))

theorem s74_0 {X : List Int32} {d : Nat} {F : XF} {Q : XF → Prop} {o0 : Nat} {x1 : Int} {x2 : Int} {x3 : Int} (hPT : xPT F) (h0 : xob 9 o0) (t : inR ((F) (o0) 11) ∧ ((((6) < ((F) (o0) 11)) → (xPT (F) → Q (F))) ∧ (¬ ((6) < ((F) (o0) 11)) → ((0 ≤ ((F) (o0) 11) ∧ ((F) (o0) 11) < 7) ∧ ((0 ≤ ((F) (o0) 11) ∧ ((F) (o0) 11) < 7) ∧ ((0 ≤ ((F) (o0) 11) ∧ ((F) (o0) 11) < 7) ∧ (xPT (xup (xup (xup (xup (F) (o0 + 4) ((F) (o0) 11) (x1)) (o0 + 5) ((F) (o0) 11) (x2)) (o0 + 6) ((F) (o0) 11) (x3)) (o0) 11 (((F) (o0) 11) + (1))) → Q (xup (xup (xup (xup (F) (o0 + 4) ((F) (o0) 11) (x1)) (o0 + 5) ((F) (o0) 11) (x2)) (o0 + 6) ((F) (o0) 11) (x3)) (o0) 11 (((F) (o0) 11) + (1)))))))))) : xW X d 74 0 [.ref (o0), vi (x1), vi (x2), vi (x3)] [] F (xqv Q) := by
  refine xw_aload_n (n := 1) (show xlook 74 0 = some (0, .aload_n 0, 1, 0, 0, 0, 0) from xlk (by decide +kernel)) rfl rfl ?_
  refine xw_geti (show xlook 74 1 = some (1, .getfield 62, 3, 9, 11, 0, 142) from xlk (by decide +kernel)) (by decide) (xobf h0 (by decide) (by decide)) rfl (n := 4) rfl ?_
  refine xw_bipush (n := 6) (show xlook 74 4 = some (4, .bipush 6, 2, 0, 0, 0, 0) from xlk (by decide +kernel)) rfl (by decide) ?_
  obtain ⟨q0, t⟩ := t
  refine xw_icmp_gt (n := 9) (m := 49) (show xlook 74 6 = some (6, .if_icmp .gt 43, 3, 49, 0, 0, 0) from xlk (by decide +kernel)) rfl rfl q0 ⟨by decide, by decide⟩ ⟨fun c => ?_, fun c => ?_⟩
  · replace t := t.1 c
    exact xw_return hPT (show xlook 74 49 = some (49, .return_, 1, 0, 0, 0, 0) from xlk (by decide +kernel)) rfl (t hPT)
  · replace t := t.2 c
    refine xw_aload_n (n := 10) (show xlook 74 9 = some (9, .aload_n 0, 1, 0, 0, 0, 0) from xlk (by decide +kernel)) rfl rfl ?_
    refine xw_getr (q := o0 + 4) (show xlook 74 10 = some (10, .getfield 24, 3, 9, 12, 0, 131) from xlk (by decide +kernel)) (by decide) (xobf h0 (by decide) (by decide)) rfl (xPT_get (k := 12) (f := 4) hPT h0 (by decide)) (by have := (xtg_9_12 _ h0.1 h0.2).1.1; omega) (n := 13) rfl ?_
    refine xw_aload_n (n := 14) (show xlook 74 13 = some (13, .aload_n 0, 1, 0, 0, 0, 0) from xlk (by decide +kernel)) rfl rfl ?_
    refine xw_geti (show xlook 74 14 = some (14, .getfield 62, 3, 9, 11, 0, 142) from xlk (by decide +kernel)) (by decide) (xobf h0 (by decide) (by decide)) rfl (n := 17) rfl ?_
    refine xw_iload_n (n := 18) (show xlook 74 17 = some (17, .iload_n 1, 1, 0, 0, 0, 0) from xlk (by decide +kernel)) rfl rfl ?_
    obtain ⟨q1, t⟩ := t
    refine xw_iast (show xlook 74 18 = some (18, .iastore, 1, 0, 0, 0, 0) from xlk (by decide +kernel)) (xtg_9_12 _ h0.1 h0.2).1 (by rw [(xtg_9_12 _ h0.1 h0.2).2]; exact q1) (n := 19) rfl ?_
    refine xw_aload_n (n := 20) (show xlook 74 19 = some (19, .aload_n 0, 1, 0, 0, 0, 0) from xlk (by decide +kernel)) rfl rfl ?_
    refine xw_getr (q := o0 + 5) (show xlook 74 20 = some (20, .getfield 27, 3, 9, 13, 0, 132) from xlk (by decide +kernel)) (by decide) (xobf h0 (by decide) (by decide)) rfl (xPT_get (k := 13) (f := 5) (xPT_arr hPT (Or.inl (xtg_9_12 _ h0.1 h0.2).1.2)) h0 (by decide)) (by have := (xtg_9_13 _ h0.1 h0.2).1.1; omega) (n := 23) rfl ?_
    refine xw_aload_n (n := 24) (show xlook 74 23 = some (23, .aload_n 0, 1, 0, 0, 0, 0) from xlk (by decide +kernel)) rfl rfl ?_
    refine xw_geti2 (u := (F) (o0) 11) (show xlook 74 24 = some (24, .getfield 62, 3, 9, 11, 0, 142) from xlk (by decide +kernel)) (by decide) (xobf h0 (by decide) (by decide)) rfl (xup_o (by omega)) (n := 27) rfl ?_
    refine xw_iload_n (n := 28) (show xlook 74 27 = some (27, .iload_n 2, 1, 0, 0, 0, 0) from xlk (by decide +kernel)) rfl rfl ?_
    obtain ⟨q1, t⟩ := t
    refine xw_iast (show xlook 74 28 = some (28, .iastore, 1, 0, 0, 0, 0) from xlk (by decide +kernel)) (xtg_9_13 _ h0.1 h0.2).1 (by rw [(xtg_9_13 _ h0.1 h0.2).2]; exact q1) (n := 29) rfl ?_
    refine xw_aload_n (n := 30) (show xlook 74 29 = some (29, .aload_n 0, 1, 0, 0, 0, 0) from xlk (by decide +kernel)) rfl rfl ?_
    refine xw_getr (q := o0 + 6) (show xlook 74 30 = some (30, .getfield 30, 3, 9, 14, 0, 133) from xlk (by decide +kernel)) (by decide) (xobf h0 (by decide) (by decide)) rfl (xPT_get (k := 14) (f := 6) (xPT_arr (xPT_arr hPT (Or.inl (xtg_9_12 _ h0.1 h0.2).1.2)) (Or.inl (xtg_9_13 _ h0.1 h0.2).1.2)) h0 (by decide)) (by have := (xtg_9_14 _ h0.1 h0.2).1.1; omega) (n := 33) rfl ?_
    refine xw_aload_n (n := 34) (show xlook 74 33 = some (33, .aload_n 0, 1, 0, 0, 0, 0) from xlk (by decide +kernel)) rfl rfl ?_
    refine xw_geti2 (u := (F) (o0) 11) (show xlook 74 34 = some (34, .getfield 62, 3, 9, 11, 0, 142) from xlk (by decide +kernel)) (by decide) (xobf h0 (by decide) (by decide)) rfl ((xup_o (by omega)).trans (xup_o (by omega))) (n := 37) rfl ?_
    refine xw_iload_n (n := 38) (show xlook 74 37 = some (37, .iload_n 3, 1, 0, 0, 0, 0) from xlk (by decide +kernel)) rfl rfl ?_
    obtain ⟨q1, t⟩ := t
    refine xw_iast (show xlook 74 38 = some (38, .iastore, 1, 0, 0, 0, 0) from xlk (by decide +kernel)) (xtg_9_14 _ h0.1 h0.2).1 (by rw [(xtg_9_14 _ h0.1 h0.2).2]; exact q1) (n := 39) rfl ?_
    refine xw_aload_n (n := 40) (show xlook 74 39 = some (39, .aload_n 0, 1, 0, 0, 0, 0) from xlk (by decide +kernel)) rfl rfl ?_
    refine xw_dupr (n := 41) (show xlook 74 40 = some (40, .dup, 1, 0, 0, 0, 0) from xlk (by decide +kernel)) rfl ?_
    refine xw_geti2 (u := (F) (o0) 11) (show xlook 74 41 = some (41, .getfield 62, 3, 9, 11, 0, 142) from xlk (by decide +kernel)) (by decide) (xobf h0 (by decide) (by decide)) rfl ((xup_o (by omega)).trans ((xup_o (by omega)).trans (xup_o (by omega)))) (n := 44) rfl ?_
    refine xw_iconst (n := 45) (show xlook 74 44 = some (44, .iconst 1, 1, 0, 0, 0, 0) from xlk (by decide +kernel)) rfl ?_
    refine xw_iadd (n := 46) (show xlook 74 45 = some (45, .iadd, 1, 0, 0, 0, 0) from xlk (by decide +kernel)) rfl ?_
    refine xw_puti (show xlook 74 46 = some (46, .putfield 62, 3, 9, 11, 0, 142) from xlk (by decide +kernel)) (xobf h0 (by decide) (by decide)) rfl (n := 49) rfl ?_
    exact xw_return (xPT_fld (k := 11) (xPT_arr (xPT_arr (xPT_arr hPT (Or.inl (xtg_9_12 _ h0.1 h0.2).1.2)) (Or.inl (xtg_9_13 _ h0.1 h0.2).1.2)) (Or.inl (xtg_9_14 _ h0.1 h0.2).1.2)) h0 (by decide) (by decide)) (show xlook 74 49 = some (49, .return_, 1, 0, 0, 0, 0) from xlk (by decide +kernel)) rfl (t (xPT_fld (k := 11) (xPT_arr (xPT_arr (xPT_arr hPT (Or.inl (xtg_9_12 _ h0.1 h0.2).1.2)) (Or.inl (xtg_9_13 _ h0.1 h0.2).1.2)) (Or.inl (xtg_9_14 _ h0.1 h0.2).1.2)) h0 (by decide) (by decide)))
theorem m74 {X : List Int32} {d : Nat} {F : XF} {Q : XF → Prop} {o0 : Nat} {x1 : Int} {x2 : Int} {x3 : Int} (hPT : xPT F) (h0 : xob 9 o0) (t : inR ((F) (o0) 11) ∧ ((((6) < ((F) (o0) 11)) → (xPT (F) → Q (F))) ∧ (¬ ((6) < ((F) (o0) 11)) → ((0 ≤ ((F) (o0) 11) ∧ ((F) (o0) 11) < 7) ∧ ((0 ≤ ((F) (o0) 11) ∧ ((F) (o0) 11) < 7) ∧ ((0 ≤ ((F) (o0) 11) ∧ ((F) (o0) 11) < 7) ∧ (xPT (xup (xup (xup (xup (F) (o0 + 4) ((F) (o0) 11) (x1)) (o0 + 5) ((F) (o0) 11) (x2)) (o0 + 6) ((F) (o0) 11) (x3)) (o0) 11 (((F) (o0) 11) + (1))) → Q (xup (xup (xup (xup (F) (o0 + 4) ((F) (o0) 11) (x1)) (o0 + 5) ((F) (o0) 11) (x2)) (o0 + 6) ((F) (o0) 11) (x3)) (o0) 11 (((F) (o0) 11) + (1)))))))))) : xMV X d 74 [.ref (o0), vi (x1), vi (x2), vi (x3)] F Q := by
  show xW X d 74 0 [.ref (o0), vi (x1), vi (x2), vi (x3)] [] F (xqv Q)
  exact s74_0 hPT h0 t

theorem s75_0 {X : List Int32} {d : Nat} {F : XF} {Q : Int → XF → Prop} {o0 : Nat} {x1 : Int} {w2 : Value} {w3 : Value} (hPT : xPT F) (h0 : xob 9 o0) (t : xPT (F) → xW X d 75 4 [.ref (o0), vi (x1), vi (0), vi (0)] [] (F) (xqi Q)) : xW X d 75 0 [.ref (o0), vi (x1), w2, w3] [] F (xqi Q) := by
  refine xw_iconst (n := 1) (show xlook 75 0 = some (0, .iconst 0, 1, 0, 0, 0, 0) from xlk (by decide +kernel)) rfl ?_
  refine xw_istore_n (n := 2) (show xlook 75 1 = some (1, .istore_n 2, 1, 0, 0, 0, 0) from xlk (by decide +kernel)) rfl (ls' := [.ref (o0), vi (x1), vi (0), w3]) (Nat.le_of_ble_eq_true rfl) rfl ?_
  refine xw_iconst (n := 3) (show xlook 75 2 = some (2, .iconst 0, 1, 0, 0, 0, 0) from xlk (by decide +kernel)) rfl ?_
  refine xw_istore_n (n := 4) (show xlook 75 3 = some (3, .istore_n 3, 1, 0, 0, 0, 0) from xlk (by decide +kernel)) rfl (ls' := [.ref (o0), vi (x1), vi (0), vi (0)]) (Nat.le_of_ble_eq_true rfl) rfl ?_
  exact t hPT
theorem m75 {X : List Int32} {d : Nat} {F : XF} {Q : Int → XF → Prop} {o0 : Nat} {x1 : Int} (hPT : xPT F) (h0 : xob 9 o0) (t : xPT (F) → xW X d 75 4 [.ref (o0), vi (x1), vi (0), vi (0)] [] (F) (xqi Q)) : xMI X d 75 [.ref (o0), vi (x1)] F Q := by
  show xW X d 75 0 [.ref (o0), vi (x1), xU0, xU0] [] F (xqi Q)
  exact s75_0 hPT h0 t

theorem s75_4 {X : List Int32} {d : Nat} {F : XF} {Q : Int → XF → Prop} {o0 : Nat} {x1 : Int} {x2 : Int} {x3 : Int} (hPT : xPT F) (h0 : xob 9 o0) (t : inR (x3) ∧ inR ((F) (o0) 11) ∧ (((((F) (o0) 11) ≤ (x3)) → (xPT (F) → Q (x2) (F))) ∧ (¬ (((F) (o0) 11) ≤ (x3)) → ((0 ≤ (x3) ∧ (x3) < 7) ∧ (inR (x1) ∧ inR ((F) (o0 + 5) (x3)) ∧ ((((x1) < ((F) (o0 + 5) (x3))) → (xPT (F) → xW X d 75 4 [.ref (o0), vi (x1), vi (x2), vi (x3 + 1)] [] (F) (xqi Q))) ∧ (¬ ((x1) < ((F) (o0 + 5) (x3))) → ((0 ≤ (x3) ∧ (x3) < 7) ∧ ((0 ≤ (x3) ∧ (x3) < 7) ∧ (inR (x1) ∧ inR (((F) (o0 + 5) (x3)) + ((F) (o0 + 6) (x3))) ∧ ((((((F) (o0 + 5) (x3)) + ((F) (o0 + 6) (x3))) ≤ (x1)) → (xPT (F) → xW X d 75 4 [.ref (o0), vi (x1), vi (x2), vi (x3 + 1)] [] (F) (xqi Q))) ∧ (¬ ((((F) (o0 + 5) (x3)) + ((F) (o0 + 6) (x3))) ≤ (x1)) → ((0 ≤ (x3) ∧ (x3) < 7) ∧ (xPT (F) → xW X d 75 4 [.ref (o0), vi (x1), vi (xior (x2) (xshl (1) ((F) (o0 + 4) (x3)))), vi (x3 + 1)] [] (F) (xqi Q))))))))))))))) : xW X d 75 4 [.ref (o0), vi (x1), vi (x2), vi (x3)] [] F (xqi Q) := by
  refine xw_iload_n (n := 5) (show xlook 75 4 = some (4, .iload_n 3, 1, 0, 0, 0, 0) from xlk (by decide +kernel)) rfl rfl ?_
  refine xw_aload_n (n := 6) (show xlook 75 5 = some (5, .aload_n 0, 1, 0, 0, 0, 0) from xlk (by decide +kernel)) rfl rfl ?_
  refine xw_geti (show xlook 75 6 = some (6, .getfield 62, 3, 9, 11, 0, 142) from xlk (by decide +kernel)) (by decide) (xobf h0 (by decide) (by decide)) rfl (n := 9) rfl ?_
  obtain ⟨q0, q1, t⟩ := t
  refine xw_icmp_ge (n := 12) (m := 56) (show xlook 75 9 = some (9, .if_icmp .ge 47, 3, 56, 0, 0, 0) from xlk (by decide +kernel)) rfl rfl q0 q1 ⟨fun c => ?_, fun c => ?_⟩
  · replace t := t.1 c
    refine xw_iload_n (n := 57) (show xlook 75 56 = some (56, .iload_n 2, 1, 0, 0, 0, 0) from xlk (by decide +kernel)) rfl rfl ?_
    exact xw_ireturn hPT (show xlook 75 57 = some (57, .ireturn, 1, 0, 0, 0, 0) from xlk (by decide +kernel)) rfl (t hPT)
  · replace t := t.2 c
    refine xw_iload_n (n := 13) (show xlook 75 12 = some (12, .iload_n 1, 1, 0, 0, 0, 0) from xlk (by decide +kernel)) rfl rfl ?_
    refine xw_aload_n (n := 14) (show xlook 75 13 = some (13, .aload_n 0, 1, 0, 0, 0, 0) from xlk (by decide +kernel)) rfl rfl ?_
    refine xw_getr (q := o0 + 5) (show xlook 75 14 = some (14, .getfield 27, 3, 9, 13, 0, 132) from xlk (by decide +kernel)) (by decide) (xobf h0 (by decide) (by decide)) rfl (xPT_get (k := 13) (f := 5) hPT h0 (by decide)) (by have := (xtg_9_13 _ h0.1 h0.2).1.1; omega) (n := 17) rfl ?_
    refine xw_iload_n (n := 18) (show xlook 75 17 = some (17, .iload_n 3, 1, 0, 0, 0, 0) from xlk (by decide +kernel)) rfl rfl ?_
    obtain ⟨q1, t⟩ := t
    refine xw_iald (show xlook 75 18 = some (18, .iaload, 1, 0, 0, 0, 0) from xlk (by decide +kernel)) (xtg_9_13 _ h0.1 h0.2).1 (by rw [(xtg_9_13 _ h0.1 h0.2).2]; exact q1) (n := 19) rfl ?_
    obtain ⟨q0, q1, t⟩ := t
    refine xw_icmp_lt (n := 22) (m := 50) (show xlook 75 19 = some (19, .if_icmp .lt 31, 3, 50, 0, 0, 0) from xlk (by decide +kernel)) rfl rfl q0 q1 ⟨fun c => ?_, fun c => ?_⟩
    · replace t := t.1 c
      refine xw_iinc (n := 53) (show xlook 75 50 = some (50, .iinc 3 1, 3, 0, 0, 0, 0) from xlk (by decide +kernel)) rfl (ls' := [.ref (o0), vi (x1), vi (x2), vi (x3 + 1)]) rfl rfl ?_
      refine xw_goto (m := 4) (show xlook 75 53 = some (53, .goto (-49), 3, 4, 0, 0, 0) from xlk (by decide +kernel)) rfl ?_
      exact t hPT
    · replace t := t.2 c
      refine xw_iload_n (n := 23) (show xlook 75 22 = some (22, .iload_n 1, 1, 0, 0, 0, 0) from xlk (by decide +kernel)) rfl rfl ?_
      refine xw_aload_n (n := 24) (show xlook 75 23 = some (23, .aload_n 0, 1, 0, 0, 0, 0) from xlk (by decide +kernel)) rfl rfl ?_
      refine xw_getr (q := o0 + 5) (show xlook 75 24 = some (24, .getfield 27, 3, 9, 13, 0, 132) from xlk (by decide +kernel)) (by decide) (xobf h0 (by decide) (by decide)) rfl (xPT_get (k := 13) (f := 5) hPT h0 (by decide)) (by have := (xtg_9_13 _ h0.1 h0.2).1.1; omega) (n := 27) rfl ?_
      refine xw_iload_n (n := 28) (show xlook 75 27 = some (27, .iload_n 3, 1, 0, 0, 0, 0) from xlk (by decide +kernel)) rfl rfl ?_
      obtain ⟨q1, t⟩ := t
      refine xw_iald (show xlook 75 28 = some (28, .iaload, 1, 0, 0, 0, 0) from xlk (by decide +kernel)) (xtg_9_13 _ h0.1 h0.2).1 (by rw [(xtg_9_13 _ h0.1 h0.2).2]; exact q1) (n := 29) rfl ?_
      refine xw_aload_n (n := 30) (show xlook 75 29 = some (29, .aload_n 0, 1, 0, 0, 0, 0) from xlk (by decide +kernel)) rfl rfl ?_
      refine xw_getr (q := o0 + 6) (show xlook 75 30 = some (30, .getfield 30, 3, 9, 14, 0, 133) from xlk (by decide +kernel)) (by decide) (xobf h0 (by decide) (by decide)) rfl (xPT_get (k := 14) (f := 6) hPT h0 (by decide)) (by have := (xtg_9_14 _ h0.1 h0.2).1.1; omega) (n := 33) rfl ?_
      refine xw_iload_n (n := 34) (show xlook 75 33 = some (33, .iload_n 3, 1, 0, 0, 0, 0) from xlk (by decide +kernel)) rfl rfl ?_
      obtain ⟨q1, t⟩ := t
      refine xw_iald (show xlook 75 34 = some (34, .iaload, 1, 0, 0, 0, 0) from xlk (by decide +kernel)) (xtg_9_14 _ h0.1 h0.2).1 (by rw [(xtg_9_14 _ h0.1 h0.2).2]; exact q1) (n := 35) rfl ?_
      refine xw_iadd (n := 36) (show xlook 75 35 = some (35, .iadd, 1, 0, 0, 0, 0) from xlk (by decide +kernel)) rfl ?_
      obtain ⟨q0, q1, t⟩ := t
      refine xw_icmp_ge (n := 39) (m := 50) (show xlook 75 36 = some (36, .if_icmp .ge 14, 3, 50, 0, 0, 0) from xlk (by decide +kernel)) rfl rfl q0 q1 ⟨fun c => ?_, fun c => ?_⟩
      · replace t := t.1 c
        refine xw_iinc (n := 53) (show xlook 75 50 = some (50, .iinc 3 1, 3, 0, 0, 0, 0) from xlk (by decide +kernel)) rfl (ls' := [.ref (o0), vi (x1), vi (x2), vi (x3 + 1)]) rfl rfl ?_
        refine xw_goto (m := 4) (show xlook 75 53 = some (53, .goto (-49), 3, 4, 0, 0, 0) from xlk (by decide +kernel)) rfl ?_
        exact t hPT
      · replace t := t.2 c
        refine xw_iload_n (n := 40) (show xlook 75 39 = some (39, .iload_n 2, 1, 0, 0, 0, 0) from xlk (by decide +kernel)) rfl rfl ?_
        refine xw_iconst (n := 41) (show xlook 75 40 = some (40, .iconst 1, 1, 0, 0, 0, 0) from xlk (by decide +kernel)) rfl ?_
        refine xw_aload_n (n := 42) (show xlook 75 41 = some (41, .aload_n 0, 1, 0, 0, 0, 0) from xlk (by decide +kernel)) rfl rfl ?_
        refine xw_getr (q := o0 + 4) (show xlook 75 42 = some (42, .getfield 24, 3, 9, 12, 0, 131) from xlk (by decide +kernel)) (by decide) (xobf h0 (by decide) (by decide)) rfl (xPT_get (k := 12) (f := 4) hPT h0 (by decide)) (by have := (xtg_9_12 _ h0.1 h0.2).1.1; omega) (n := 45) rfl ?_
        refine xw_iload_n (n := 46) (show xlook 75 45 = some (45, .iload_n 3, 1, 0, 0, 0, 0) from xlk (by decide +kernel)) rfl rfl ?_
        obtain ⟨q1, t⟩ := t
        refine xw_iald (show xlook 75 46 = some (46, .iaload, 1, 0, 0, 0, 0) from xlk (by decide +kernel)) (xtg_9_12 _ h0.1 h0.2).1 (by rw [(xtg_9_12 _ h0.1 h0.2).2]; exact q1) (n := 47) rfl ?_
        refine xw_ishl (n := 48) (show xlook 75 47 = some (47, .ishl, 1, 0, 0, 0, 0) from xlk (by decide +kernel)) rfl ?_
        refine xw_ior (n := 49) (show xlook 75 48 = some (48, .ior, 1, 0, 0, 0, 0) from xlk (by decide +kernel)) rfl ?_
        refine xw_istore_n (n := 50) (show xlook 75 49 = some (49, .istore_n 2, 1, 0, 0, 0, 0) from xlk (by decide +kernel)) rfl (ls' := [.ref (o0), vi (x1), vi (xior (x2) (xshl (1) ((F) (o0 + 4) (x3)))), vi (x3)]) (Nat.le_of_ble_eq_true rfl) rfl ?_
        refine xw_iinc (n := 53) (show xlook 75 50 = some (50, .iinc 3 1, 3, 0, 0, 0, 0) from xlk (by decide +kernel)) rfl (ls' := [.ref (o0), vi (x1), vi (xior (x2) (xshl (1) ((F) (o0 + 4) (x3)))), vi (x3 + 1)]) rfl rfl ?_
        refine xw_goto (m := 4) (show xlook 75 53 = some (53, .goto (-49), 3, 4, 0, 0, 0) from xlk (by decide +kernel)) rfl ?_
        exact t hPT

theorem s76_0 {X : List Int32} {d : Nat} {F : XF} {Q : Int → XF → Prop} {o0 : Nat} {x1 : Int} {x2 : Int} {w3 : Value} (hPT : xPT F) (h0 : xob 9 o0) (t : (0 ≤ (x2 : Int) ∧ (x2 : Int) < 10) ∧ ((0 ≤ (x2 : Int) ∧ (x2 : Int) < 10) ∧ (inR ((F) (o0) 1) ∧ (((((F) (o0) 1) ≤ (0)) → (xPT (F) → Q ((((F) (o0 + 1 + 6 + (x2 : Int).toNat) 1) - ((F) (o0 + 1 + 6 + (x2 : Int).toNat) 0)) + (x1)) (F))) ∧ (¬ (((F) (o0) 1) ≤ (0)) → ((0 ≤ ((((((F) (o0 + 1 + 6 + (x2 : Int).toNat) 1) - ((F) (o0 + 1 + 6 + (x2 : Int).toNat) 0)) + (x1)) + ((F) (o0) 1)) - (1) : Int) ∧ ((((((F) (o0 + 1 + 6 + (x2 : Int).toNat) 1) - ((F) (o0 + 1 + 6 + (x2 : Int).toNat) 0)) + (x1)) + ((F) (o0) 1)) - (1) : Int) ≤ 2147483647) ∧ (0 < ((F) (o0) 1 : Int) ∧ ((F) (o0) 1 : Int) ≤ 2147483647) ∧ (xPT (F) → Q (((((((F) (o0 + 1 + 6 + (x2 : Int).toNat) 1) - ((F) (o0 + 1 + 6 + (x2 : Int).toNat) 0)) + (x1)) + ((F) (o0) 1)) - (1)) / ((F) (o0) 1)) (F)))))))) : xW X d 76 0 [.ref (o0), vi (x1), vi (x2), w3] [] F (xqi Q) := by
  refine xw_aload_n (n := 1) (show xlook 76 0 = some (0, .aload_n 0, 1, 0, 0, 0, 0) from xlk (by decide +kernel)) rfl rfl ?_
  refine xw_getr (q := o0 + 1) (show xlook 76 1 = some (1, .getfield 11, 3, 9, 5, 0, 128) from xlk (by decide +kernel)) (by decide) (xobf h0 (by decide) (by decide)) rfl (xPT_get (k := 5) (f := 1) hPT h0 (by decide)) (by have := (xtg_9_5 _ h0.1 h0.2).1.1; omega) (n := 4) rfl ?_
  refine xw_iload_n (n := 5) (show xlook 76 4 = some (4, .iload_n 2, 1, 0, 0, 0, 0) from xlk (by decide +kernel)) rfl rfl ?_
  obtain ⟨q1, t⟩ := t
  have hb1 : xob 1 (o0 + 1 + 6 + (x2 : Int).toNat) := xel15 _ (xtg_9_5 _ h0.1 h0.2).1.1 (xtg_9_5 _ h0.1 h0.2).1.2 _ (xidx10 q1)
  refine xw_aald (q := o0 + 1 + 6 + (x2 : Int).toNat) (show xlook 76 5 = some (5, .aaload, 1, 0, 0, 0, 0) from xlk (by decide +kernel)) ⟨(xtg_9_5 _ h0.1 h0.2).1.1, (Or.inl (xtg_9_5 _ h0.1 h0.2).1.2)⟩ (by rw [xln15 _ (xtg_9_5 _ h0.1 h0.2).1.1 (Or.inl (xtg_9_5 _ h0.1 h0.2).1.2)]; exact q1) (xPT_el hPT (Or.inl (xtg_9_5 _ h0.1 h0.2).1) q1.1 q1.2) (by have := hb1.1; omega) (n := 6) rfl ?_
  refine xw_geti (show xlook 76 6 = some (6, .getfield 75, 3, 1, 1, 0, 143) from xlk (by decide +kernel)) (by decide) (xobf hb1 (by decide) (by decide)) rfl (n := 9) rfl ?_
  refine xw_aload_n (n := 10) (show xlook 76 9 = some (9, .aload_n 0, 1, 0, 0, 0, 0) from xlk (by decide +kernel)) rfl rfl ?_
  refine xw_getr (q := o0 + 1) (show xlook 76 10 = some (10, .getfield 11, 3, 9, 5, 0, 128) from xlk (by decide +kernel)) (by decide) (xobf h0 (by decide) (by decide)) rfl (xPT_get (k := 5) (f := 1) hPT h0 (by decide)) (by have := (xtg_9_5 _ h0.1 h0.2).1.1; omega) (n := 13) rfl ?_
  refine xw_iload_n (n := 14) (show xlook 76 13 = some (13, .iload_n 2, 1, 0, 0, 0, 0) from xlk (by decide +kernel)) rfl rfl ?_
  obtain ⟨q1, t⟩ := t
  have hb2 : xob 1 (o0 + 1 + 6 + (x2 : Int).toNat) := xel15 _ (xtg_9_5 _ h0.1 h0.2).1.1 (xtg_9_5 _ h0.1 h0.2).1.2 _ (xidx10 q1)
  refine xw_aald (q := o0 + 1 + 6 + (x2 : Int).toNat) (show xlook 76 14 = some (14, .aaload, 1, 0, 0, 0, 0) from xlk (by decide +kernel)) ⟨(xtg_9_5 _ h0.1 h0.2).1.1, (Or.inl (xtg_9_5 _ h0.1 h0.2).1.2)⟩ (by rw [xln15 _ (xtg_9_5 _ h0.1 h0.2).1.1 (Or.inl (xtg_9_5 _ h0.1 h0.2).1.2)]; exact q1) (xPT_el hPT (Or.inl (xtg_9_5 _ h0.1 h0.2).1) q1.1 q1.2) (by have := hb2.1; omega) (n := 15) rfl ?_
  refine xw_geti (show xlook 76 15 = some (15, .getfield 78, 3, 1, 0, 0, 144) from xlk (by decide +kernel)) (by decide) (xobf hb2 (by decide) (by decide)) rfl (n := 18) rfl ?_
  refine xw_isub (n := 19) (show xlook 76 18 = some (18, .isub, 1, 0, 0, 0, 0) from xlk (by decide +kernel)) rfl ?_
  refine xw_iload_n (n := 20) (show xlook 76 19 = some (19, .iload_n 1, 1, 0, 0, 0, 0) from xlk (by decide +kernel)) rfl rfl ?_
  refine xw_iadd (n := 21) (show xlook 76 20 = some (20, .iadd, 1, 0, 0, 0, 0) from xlk (by decide +kernel)) rfl ?_
  refine xw_istore_n (n := 22) (show xlook 76 21 = some (21, .istore_n 3, 1, 0, 0, 0, 0) from xlk (by decide +kernel)) rfl (ls' := [.ref (o0), vi (x1), vi (x2), vi ((((F) (o0 + 1 + 6 + (x2 : Int).toNat) 1) - ((F) (o0 + 1 + 6 + (x2 : Int).toNat) 0)) + (x1))]) (Nat.le_of_ble_eq_true rfl) rfl ?_
  refine xw_aload_n (n := 23) (show xlook 76 22 = some (22, .aload_n 0, 1, 0, 0, 0, 0) from xlk (by decide +kernel)) rfl rfl ?_
  refine xw_geti (show xlook 76 23 = some (23, .getfield 41, 3, 9, 1, 0, 135) from xlk (by decide +kernel)) (by decide) (xobf h0 (by decide) (by decide)) rfl (n := 26) rfl ?_
  obtain ⟨q0, t⟩ := t
  refine xw_if_le (n := 29) (m := 45) (show xlook 76 26 = some (26, .ifCond .le 19, 3, 45, 0, 0, 0) from xlk (by decide +kernel)) rfl rfl q0 ⟨fun c => ?_, fun c => ?_⟩
  · replace t := t.1 c
    refine xw_iload_n (n := 46) (show xlook 76 45 = some (45, .iload_n 3, 1, 0, 0, 0, 0) from xlk (by decide +kernel)) rfl rfl ?_
    exact xw_ireturn hPT (show xlook 76 46 = some (46, .ireturn, 1, 0, 0, 0, 0) from xlk (by decide +kernel)) rfl (t hPT)
  · replace t := t.2 c
    refine xw_iload_n (n := 30) (show xlook 76 29 = some (29, .iload_n 3, 1, 0, 0, 0, 0) from xlk (by decide +kernel)) rfl rfl ?_
    refine xw_aload_n (n := 31) (show xlook 76 30 = some (30, .aload_n 0, 1, 0, 0, 0, 0) from xlk (by decide +kernel)) rfl rfl ?_
    refine xw_geti (show xlook 76 31 = some (31, .getfield 41, 3, 9, 1, 0, 135) from xlk (by decide +kernel)) (by decide) (xobf h0 (by decide) (by decide)) rfl (n := 34) rfl ?_
    refine xw_iadd (n := 35) (show xlook 76 34 = some (34, .iadd, 1, 0, 0, 0, 0) from xlk (by decide +kernel)) rfl ?_
    refine xw_iconst (n := 36) (show xlook 76 35 = some (35, .iconst 1, 1, 0, 0, 0, 0) from xlk (by decide +kernel)) rfl ?_
    refine xw_isub (n := 37) (show xlook 76 36 = some (36, .isub, 1, 0, 0, 0, 0) from xlk (by decide +kernel)) rfl ?_
    refine xw_aload_n (n := 38) (show xlook 76 37 = some (37, .aload_n 0, 1, 0, 0, 0, 0) from xlk (by decide +kernel)) rfl rfl ?_
    refine xw_geti (show xlook 76 38 = some (38, .getfield 41, 3, 9, 1, 0, 135) from xlk (by decide +kernel)) (by decide) (xobf h0 (by decide) (by decide)) rfl (n := 41) rfl ?_
    obtain ⟨q1, q2, t⟩ := t
    refine xw_idiv (n := 42) (show xlook 76 41 = some (41, .idiv, 1, 0, 0, 0, 0) from xlk (by decide +kernel)) rfl q1 q2 ?_
    refine xw_goto (m := 46) (show xlook 76 42 = some (42, .goto 4, 3, 46, 0, 0, 0) from xlk (by decide +kernel)) rfl ?_
    exact xw_ireturn hPT (show xlook 76 46 = some (46, .ireturn, 1, 0, 0, 0, 0) from xlk (by decide +kernel)) rfl (t hPT)
theorem m76 {X : List Int32} {d : Nat} {F : XF} {Q : Int → XF → Prop} {o0 : Nat} {x1 : Int} {x2 : Int} (hPT : xPT F) (h0 : xob 9 o0) (t : (0 ≤ (x2 : Int) ∧ (x2 : Int) < 10) ∧ ((0 ≤ (x2 : Int) ∧ (x2 : Int) < 10) ∧ (inR ((F) (o0) 1) ∧ (((((F) (o0) 1) ≤ (0)) → (xPT (F) → Q ((((F) (o0 + 1 + 6 + (x2 : Int).toNat) 1) - ((F) (o0 + 1 + 6 + (x2 : Int).toNat) 0)) + (x1)) (F))) ∧ (¬ (((F) (o0) 1) ≤ (0)) → ((0 ≤ ((((((F) (o0 + 1 + 6 + (x2 : Int).toNat) 1) - ((F) (o0 + 1 + 6 + (x2 : Int).toNat) 0)) + (x1)) + ((F) (o0) 1)) - (1) : Int) ∧ ((((((F) (o0 + 1 + 6 + (x2 : Int).toNat) 1) - ((F) (o0 + 1 + 6 + (x2 : Int).toNat) 0)) + (x1)) + ((F) (o0) 1)) - (1) : Int) ≤ 2147483647) ∧ (0 < ((F) (o0) 1 : Int) ∧ ((F) (o0) 1 : Int) ≤ 2147483647) ∧ (xPT (F) → Q (((((((F) (o0 + 1 + 6 + (x2 : Int).toNat) 1) - ((F) (o0 + 1 + 6 + (x2 : Int).toNat) 0)) + (x1)) + ((F) (o0) 1)) - (1)) / ((F) (o0) 1)) (F)))))))) : xMI X d 76 [.ref (o0), vi (x1), vi (x2)] F Q := by
  show xW X d 76 0 [.ref (o0), vi (x1), vi (x2), xU0] [] F (xqi Q)
  exact s76_0 hPT h0 t

theorem s77_0 {X : List Int32} {d : Nat} {F : XF} {Q : Int → XF → Prop} {o0 : Nat} {x1 : Int} {w2 : Value} (hPT : xPT F) (h0 : xob 9 o0) (t : xPT (F) → xW X d 77 2 [.ref (o0), vi (x1), vi (0)] [] (F) (xqi Q)) : xW X d 77 0 [.ref (o0), vi (x1), w2] [] F (xqi Q) := by
  refine xw_iconst (n := 1) (show xlook 77 0 = some (0, .iconst 0, 1, 0, 0, 0, 0) from xlk (by decide +kernel)) rfl ?_
  refine xw_istore_n (n := 2) (show xlook 77 1 = some (1, .istore_n 2, 1, 0, 0, 0, 0) from xlk (by decide +kernel)) rfl (ls' := [.ref (o0), vi (x1), vi (0)]) (Nat.le_of_ble_eq_true rfl) rfl ?_
  exact t hPT
theorem m77 {X : List Int32} {d : Nat} {F : XF} {Q : Int → XF → Prop} {o0 : Nat} {x1 : Int} (hPT : xPT F) (h0 : xob 9 o0) (t : xPT (F) → xW X d 77 2 [.ref (o0), vi (x1), vi (0)] [] (F) (xqi Q)) : xMI X d 77 [.ref (o0), vi (x1)] F Q := by
  show xW X d 77 0 [.ref (o0), vi (x1), xU0] [] F (xqi Q)
  exact s77_0 hPT h0 t

theorem s77_2 {X : List Int32} {d : Nat} {F : XF} {Q : Int → XF → Prop} {o0 : Nat} {x1 : Int} {x2 : Int} (hPT : xPT F) (h0 : xob 9 o0) (t : inR (x2) ∧ inR ((F) (o0) 4) ∧ (((((F) (o0) 4) ≤ (x2)) → (xPT (F) → Q (1) (F))) ∧ (¬ (((F) (o0) 4) ≤ (x2)) → ((0 ≤ (x2 : Int) ∧ (x2 : Int) < 10) ∧ (∃ (j2 : Nat), j2 < d ∧ xMI X j2 76 [.ref (o0), vi (x1), vi (x2)] (F) (fun (y2 : Int) (G2 : XF) => (∃ (j3 : Nat), j3 < d ∧ xMI X j3 10 [.ref (o0 + 1 + 6 + (x2 : Int).toNat), vi (y2)] (G2) (fun (y3 : Int) (G3 : XF) => (inR (y3) ∧ (((¬ (y3) = (0)) → (xPT (G3) → xW X d 77 2 [.ref (o0), vi (x1), vi (x2 + 1)] [] (G3) (xqi Q))) ∧ (¬ (¬ (y3) = (0)) → (xPT (G3) → Q (0) (G3))))))))))))) : xW X d 77 2 [.ref (o0), vi (x1), vi (x2)] [] F (xqi Q) := by
  refine xw_iload_n (n := 3) (show xlook 77 2 = some (2, .iload_n 2, 1, 0, 0, 0, 0) from xlk (by decide +kernel)) rfl rfl ?_
  refine xw_aload_n (n := 4) (show xlook 77 3 = some (3, .aload_n 0, 1, 0, 0, 0, 0) from xlk (by decide +kernel)) rfl rfl ?_
  refine xw_geti (show xlook 77 4 = some (4, .getfield 50, 3, 9, 4, 0, 138) from xlk (by decide +kernel)) (by decide) (xobf h0 (by decide) (by decide)) rfl (n := 7) rfl ?_
  obtain ⟨q0, q1, t⟩ := t
  refine xw_icmp_ge (n := 10) (m := 36) (show xlook 77 7 = some (7, .if_icmp .ge 29, 3, 36, 0, 0, 0) from xlk (by decide +kernel)) rfl rfl q0 q1 ⟨fun c => ?_, fun c => ?_⟩
  · replace t := t.1 c
    refine xw_iconst (n := 37) (show xlook 77 36 = some (36, .iconst 1, 1, 0, 0, 0, 0) from xlk (by decide +kernel)) rfl ?_
    exact xw_zreturn hPT (show xlook 77 37 = some (37, .ireturn, 1, 0, 0, 0, 0) from xlk (by decide +kernel)) rfl (by decide) (t hPT)
  · replace t := t.2 c
    refine xw_aload_n (n := 11) (show xlook 77 10 = some (10, .aload_n 0, 1, 0, 0, 0, 0) from xlk (by decide +kernel)) rfl rfl ?_
    refine xw_getr (q := o0 + 1) (show xlook 77 11 = some (11, .getfield 11, 3, 9, 5, 0, 128) from xlk (by decide +kernel)) (by decide) (xobf h0 (by decide) (by decide)) rfl (xPT_get (k := 5) (f := 1) hPT h0 (by decide)) (by have := (xtg_9_5 _ h0.1 h0.2).1.1; omega) (n := 14) rfl ?_
    refine xw_iload_n (n := 15) (show xlook 77 14 = some (14, .iload_n 2, 1, 0, 0, 0, 0) from xlk (by decide +kernel)) rfl rfl ?_
    obtain ⟨q1, t⟩ := t
    have hb1 : xob 1 (o0 + 1 + 6 + (x2 : Int).toNat) := xel15 _ (xtg_9_5 _ h0.1 h0.2).1.1 (xtg_9_5 _ h0.1 h0.2).1.2 _ (xidx10 q1)
    refine xw_aald (q := o0 + 1 + 6 + (x2 : Int).toNat) (show xlook 77 15 = some (15, .aaload, 1, 0, 0, 0, 0) from xlk (by decide +kernel)) ⟨(xtg_9_5 _ h0.1 h0.2).1.1, (Or.inl (xtg_9_5 _ h0.1 h0.2).1.2)⟩ (by rw [xln15 _ (xtg_9_5 _ h0.1 h0.2).1.1 (Or.inl (xtg_9_5 _ h0.1 h0.2).1.2)]; exact q1) (xPT_el hPT (Or.inl (xtg_9_5 _ h0.1 h0.2).1) q1.1 q1.2) (by have := hb1.1; omega) (n := 16) rfl ?_
    refine xw_aload_n (n := 17) (show xlook 77 16 = some (16, .aload_n 0, 1, 0, 0, 0, 0) from xlk (by decide +kernel)) rfl rfl ?_
    refine xw_iload_n (n := 18) (show xlook 77 17 = some (17, .iload_n 1, 1, 0, 0, 0, 0) from xlk (by decide +kernel)) rfl rfl ?_
    refine xw_iload_n (n := 19) (show xlook 77 18 = some (18, .iload_n 2, 1, 0, 0, 0, 0) from xlk (by decide +kernel)) rfl rfl ?_
    obtain ⟨j2, hj2, rr2, G2, hm2, hG2, t⟩ := t
    obtain ⟨y2, rfl, t⟩ := t
    refine xw_callv (dk := j2) (o := o0) (as := [vi (x1), vi (x2)]) (show xlook 77 19 = some (19, .invokevirtual 81, 3, 76, 3, 0, 85) from xlk (by decide +kernel)) (by decide) hj2 ⟨Nat.le_of_ble_eq_true rfl, Nat.le_of_ble_eq_true rfl, Nat.le_of_ble_eq_true rfl⟩ ⟨h0.1, h0.2, by decide⟩ rfl hm2 (n := 22) rfl ?_
    show xW X d 77 22 [.ref (o0), vi (x1), vi (x2)] [vi (y2), .ref (o0 + 1 + 6 + (x2 : Int).toNat)] G2 (xqi Q)
    obtain ⟨j3, hj3, rr3, G3, hm3, hG3, t⟩ := t
    obtain ⟨y3, rfl, t⟩ := t
    refine xw_callv (dk := j3) (o := o0 + 1 + 6 + (x2 : Int).toNat) (as := [vi (y2)]) (show xlook 77 22 = some (22, .invokevirtual 85, 3, 10, 2, 0, 86) from xlk (by decide +kernel)) (by decide) hj3 ⟨Nat.le_of_ble_eq_true rfl, Nat.le_of_ble_eq_true rfl, Nat.le_of_ble_eq_true rfl⟩ ⟨hb1.1, hb1.2, by decide⟩ rfl hm3 (n := 25) rfl ?_
    show xW X d 77 25 [.ref (o0), vi (x1), vi (x2)] [vi (y3)] G3 (xqi Q)
    obtain ⟨q0, t⟩ := t
    refine xw_if_ne (n := 28) (m := 30) (show xlook 77 25 = some (25, .ifCond .ne 5, 3, 30, 0, 0, 0) from xlk (by decide +kernel)) rfl rfl q0 ⟨fun c => ?_, fun c => ?_⟩
    · replace t := t.1 c
      refine xw_iinc (n := 33) (show xlook 77 30 = some (30, .iinc 2 1, 3, 0, 0, 0, 0) from xlk (by decide +kernel)) rfl (ls' := [.ref (o0), vi (x1), vi (x2 + 1)]) rfl rfl ?_
      refine xw_goto (m := 2) (show xlook 77 33 = some (33, .goto (-31), 3, 2, 0, 0, 0) from xlk (by decide +kernel)) rfl ?_
      exact t hG3
    · replace t := t.2 c
      refine xw_iconst (n := 29) (show xlook 77 28 = some (28, .iconst 0, 1, 0, 0, 0, 0) from xlk (by decide +kernel)) rfl ?_
      exact xw_zreturn hG3 (show xlook 77 29 = some (29, .ireturn, 1, 0, 0, 0, 0) from xlk (by decide +kernel)) rfl (by decide) (t hG3)

theorem s78_0 {X : List Int32} {d : Nat} {F : XF} {Q : Int → XF → Prop} {o0 : Nat} {w1 : Value} {w2 : Value} {w3 : Value} {w4 : Value} (hPT : xPT F) (h0 : xob 9 o0) (t : xPT (F) → xW X d 78 6 [.ref (o0), vi (0), vi (0), vi (0), w4] [] (F) (xqi Q)) : xW X d 78 0 [.ref (o0), w1, w2, w3, w4] [] F (xqi Q) := by
  refine xw_iconst (n := 1) (show xlook 78 0 = some (0, .iconst 0, 1, 0, 0, 0, 0) from xlk (by decide +kernel)) rfl ?_
  refine xw_istore_n (n := 2) (show xlook 78 1 = some (1, .istore_n 1, 1, 0, 0, 0, 0) from xlk (by decide +kernel)) rfl (ls' := [.ref (o0), vi (0), w2, w3, w4]) (Nat.le_of_ble_eq_true rfl) rfl ?_
  refine xw_iconst (n := 3) (show xlook 78 2 = some (2, .iconst 0, 1, 0, 0, 0, 0) from xlk (by decide +kernel)) rfl ?_
  refine xw_istore_n (n := 4) (show xlook 78 3 = some (3, .istore_n 2, 1, 0, 0, 0, 0) from xlk (by decide +kernel)) rfl (ls' := [.ref (o0), vi (0), vi (0), w3, w4]) (Nat.le_of_ble_eq_true rfl) rfl ?_
  refine xw_iconst (n := 5) (show xlook 78 4 = some (4, .iconst 0, 1, 0, 0, 0, 0) from xlk (by decide +kernel)) rfl ?_
  refine xw_istore_n (n := 6) (show xlook 78 5 = some (5, .istore_n 3, 1, 0, 0, 0, 0) from xlk (by decide +kernel)) rfl (ls' := [.ref (o0), vi (0), vi (0), vi (0), w4]) (Nat.le_of_ble_eq_true rfl) rfl ?_
  exact t hPT
theorem m78 {X : List Int32} {d : Nat} {F : XF} {Q : Int → XF → Prop} {o0 : Nat} (hPT : xPT F) (h0 : xob 9 o0) (t : xPT (F) → xW X d 78 6 [.ref (o0), vi (0), vi (0), vi (0), xU0] [] (F) (xqi Q)) : xMI X d 78 [.ref (o0)] F Q := by
  show xW X d 78 0 [.ref (o0), xU0, xU0, xU0, xU0] [] F (xqi Q)
  exact s78_0 hPT h0 t

theorem s78_6 {X : List Int32} {d : Nat} {F : XF} {Q : Int → XF → Prop} {o0 : Nat} {x1 : Int} {x2 : Int} {x3 : Int} {w4 : Value} (hPT : xPT F) (h0 : xob 9 o0) (t : inR (x3) ∧ inR ((F) (o0) 6) ∧ (((((F) (o0) 6) ≤ (x3)) → (xPT (F) → Q (x1) (F))) ∧ (¬ (((F) (o0) 6) ≤ (x3)) → (inR (x3) ∧ (((¬ (x3) = (0)) → ((0 ≤ (x3) ∧ (x3) < 30) ∧ (inR (x3) ∧ ((((x3) ≤ (0)) → (xPT (F) → xW X d 78 66 [.ref (o0), vi (x1), vi (x2), vi (x3), vi (((x2) + ((F) (o0) 2)) + ((F) (o0 + 2) (x3)))] [] (F) (xqi Q))) ∧ (¬ ((x3) ≤ (0)) → (∃ (j1 : Nat), j1 < d ∧ xMI X j1 77 [.ref (o0), vi (((x2) + ((F) (o0) 2)) + ((F) (o0 + 2) (x3)))] (F) (fun (y1 : Int) (G1 : XF) => (inR (y1) ∧ (((¬ (y1) = (0)) → (xPT (G1) → xW X d 78 66 [.ref (o0), vi (x1), vi (x2), vi (x3), vi (((x2) + ((F) (o0) 2)) + ((F) (o0 + 2) (x3)))] [] (G1) (xqi Q))) ∧ (¬ (¬ (y1) = (0)) → ((0 ≤ (x3) ∧ (x3) < 30) ∧ (xPT (G1) → xW X d 78 66 [.ref (o0), vi (x1 + 1), vi (x2), vi (x3), vi ((G1) (o0 + 2) (x3))] [] (G1) (xqi Q))))))))))))) ∧ (¬ (¬ (x3) = (0)) → ((0 ≤ (x3) ∧ (x3) < 30) ∧ (inR (x3) ∧ ((((x3) ≤ (0)) → (xPT (F) → xW X d 78 66 [.ref (o0), vi (x1), vi (x2), vi (x3), vi ((F) (o0 + 2) (x3))] [] (F) (xqi Q))) ∧ (¬ ((x3) ≤ (0)) → (∃ (j2 : Nat), j2 < d ∧ xMI X j2 77 [.ref (o0), vi ((F) (o0 + 2) (x3))] (F) (fun (y2 : Int) (G2 : XF) => (inR (y2) ∧ (((¬ (y2) = (0)) → (xPT (G2) → xW X d 78 66 [.ref (o0), vi (x1), vi (x2), vi (x3), vi ((F) (o0 + 2) (x3))] [] (G2) (xqi Q))) ∧ (¬ (¬ (y2) = (0)) → ((0 ≤ (x3) ∧ (x3) < 30) ∧ (xPT (G2) → xW X d 78 66 [.ref (o0), vi (x1 + 1), vi (x2), vi (x3), vi ((G2) (o0 + 2) (x3))] [] (G2) (xqi Q)))))))))))))))))) : xW X d 78 6 [.ref (o0), vi (x1), vi (x2), vi (x3), w4] [] F (xqi Q) := by
  refine xw_iload_n (n := 7) (show xlook 78 6 = some (6, .iload_n 3, 1, 0, 0, 0, 0) from xlk (by decide +kernel)) rfl rfl ?_
  refine xw_aload_n (n := 8) (show xlook 78 7 = some (7, .aload_n 0, 1, 0, 0, 0, 0) from xlk (by decide +kernel)) rfl rfl ?_
  refine xw_geti (show xlook 78 8 = some (8, .getfield 53, 3, 9, 6, 0, 139) from xlk (by decide +kernel)) (by decide) (xobf h0 (by decide) (by decide)) rfl (n := 11) rfl ?_
  obtain ⟨q0, q1, t⟩ := t
  refine xw_icmp_ge (n := 14) (m := 86) (show xlook 78 11 = some (11, .if_icmp .ge 75, 3, 86, 0, 0, 0) from xlk (by decide +kernel)) rfl rfl q0 q1 ⟨fun c => ?_, fun c => ?_⟩
  · replace t := t.1 c
    refine xw_iload_n (n := 87) (show xlook 78 86 = some (86, .iload_n 1, 1, 0, 0, 0, 0) from xlk (by decide +kernel)) rfl rfl ?_
    exact xw_ireturn hPT (show xlook 78 87 = some (87, .ireturn, 1, 0, 0, 0, 0) from xlk (by decide +kernel)) rfl (t hPT)
  · replace t := t.2 c
    refine xw_iload_n (n := 15) (show xlook 78 14 = some (14, .iload_n 3, 1, 0, 0, 0, 0) from xlk (by decide +kernel)) rfl rfl ?_
    obtain ⟨q0, t⟩ := t
    refine xw_if_ne (n := 18) (m := 27) (show xlook 78 15 = some (15, .ifCond .ne 12, 3, 27, 0, 0, 0) from xlk (by decide +kernel)) rfl rfl q0 ⟨fun c => ?_, fun c => ?_⟩
    · replace t := t.1 c
      refine xw_iload_n (n := 28) (show xlook 78 27 = some (27, .iload_n 2, 1, 0, 0, 0, 0) from xlk (by decide +kernel)) rfl rfl ?_
      refine xw_aload_n (n := 29) (show xlook 78 28 = some (28, .aload_n 0, 1, 0, 0, 0, 0) from xlk (by decide +kernel)) rfl rfl ?_
      refine xw_geti (show xlook 78 29 = some (29, .getfield 44, 3, 9, 2, 0, 136) from xlk (by decide +kernel)) (by decide) (xobf h0 (by decide) (by decide)) rfl (n := 32) rfl ?_
      refine xw_iadd (n := 33) (show xlook 78 32 = some (32, .iadd, 1, 0, 0, 0, 0) from xlk (by decide +kernel)) rfl ?_
      refine xw_aload_n (n := 34) (show xlook 78 33 = some (33, .aload_n 0, 1, 0, 0, 0, 0) from xlk (by decide +kernel)) rfl rfl ?_
      refine xw_getr (q := o0 + 2) (show xlook 78 34 = some (34, .getfield 17, 3, 9, 7, 0, 129) from xlk (by decide +kernel)) (by decide) (xobf h0 (by decide) (by decide)) rfl (xPT_get (k := 7) (f := 2) hPT h0 (by decide)) (by have := (xtg_9_7 _ h0.1 h0.2).1.1; omega) (n := 37) rfl ?_
      refine xw_iload_n (n := 38) (show xlook 78 37 = some (37, .iload_n 3, 1, 0, 0, 0, 0) from xlk (by decide +kernel)) rfl rfl ?_
      obtain ⟨q1, t⟩ := t
      refine xw_iald (show xlook 78 38 = some (38, .iaload, 1, 0, 0, 0, 0) from xlk (by decide +kernel)) (xtg_9_7 _ h0.1 h0.2).1 (by rw [(xtg_9_7 _ h0.1 h0.2).2]; exact q1) (n := 39) rfl ?_
      refine xw_iadd (n := 40) (show xlook 78 39 = some (39, .iadd, 1, 0, 0, 0, 0) from xlk (by decide +kernel)) rfl ?_
      refine xw_istore (n := 42) (show xlook 78 40 = some (40, .istore 4, 2, 0, 0, 0, 0) from xlk (by decide +kernel)) rfl (ls' := [.ref (o0), vi (x1), vi (x2), vi (x3), vi (((x2) + ((F) (o0) 2)) + ((F) (o0 + 2) (x3)))]) (Nat.le_of_ble_eq_true rfl) rfl ?_
      refine xw_iload_n (n := 43) (show xlook 78 42 = some (42, .iload_n 3, 1, 0, 0, 0, 0) from xlk (by decide +kernel)) rfl rfl ?_
      obtain ⟨q0, t⟩ := t
      refine xw_if_le (n := 46) (m := 66) (show xlook 78 43 = some (43, .ifCond .le 23, 3, 66, 0, 0, 0) from xlk (by decide +kernel)) rfl rfl q0 ⟨fun c => ?_, fun c => ?_⟩
      · replace t := t.1 c
        exact t hPT
      · replace t := t.2 c
        refine xw_aload_n (n := 47) (show xlook 78 46 = some (46, .aload_n 0, 1, 0, 0, 0, 0) from xlk (by decide +kernel)) rfl rfl ?_
        refine xw_iload (n := 49) (show xlook 78 47 = some (47, .iload 4, 2, 0, 0, 0, 0) from xlk (by decide +kernel)) rfl rfl ?_
        obtain ⟨j1, hj1, rr1, G1, hm1, hG1, t⟩ := t
        obtain ⟨y1, rfl, t⟩ := t
        refine xw_callv (dk := j1) (o := o0) (as := [vi (((x2) + ((F) (o0) 2)) + ((F) (o0 + 2) (x3)))]) (show xlook 78 49 = some (49, .invokevirtual 89, 3, 77, 2, 0, 87) from xlk (by decide +kernel)) (by decide) hj1 ⟨Nat.le_of_ble_eq_true rfl, Nat.le_of_ble_eq_true rfl, Nat.le_of_ble_eq_true rfl⟩ ⟨h0.1, h0.2, by decide⟩ rfl hm1 (n := 52) rfl ?_
        show xW X d 78 52 [.ref (o0), vi (x1), vi (x2), vi (x3), vi (((x2) + ((F) (o0) 2)) + ((F) (o0 + 2) (x3)))] [vi (y1)] G1 (xqi Q)
        obtain ⟨q0, t⟩ := t
        refine xw_if_ne (n := 55) (m := 66) (show xlook 78 52 = some (52, .ifCond .ne 14, 3, 66, 0, 0, 0) from xlk (by decide +kernel)) rfl rfl q0 ⟨fun c => ?_, fun c => ?_⟩
        · replace t := t.1 c
          exact t hG1
        · replace t := t.2 c
          refine xw_iinc (n := 58) (show xlook 78 55 = some (55, .iinc 1 1, 3, 0, 0, 0, 0) from xlk (by decide +kernel)) rfl (ls' := [.ref (o0), vi (x1 + 1), vi (x2), vi (x3), vi (((x2) + ((F) (o0) 2)) + ((F) (o0 + 2) (x3)))]) rfl rfl ?_
          refine xw_aload_n (n := 59) (show xlook 78 58 = some (58, .aload_n 0, 1, 0, 0, 0, 0) from xlk (by decide +kernel)) rfl rfl ?_
          refine xw_getr (q := o0 + 2) (show xlook 78 59 = some (59, .getfield 17, 3, 9, 7, 0, 129) from xlk (by decide +kernel)) (by decide) (xobf h0 (by decide) (by decide)) rfl (xPT_get (k := 7) (f := 2) hG1 h0 (by decide)) (by have := (xtg_9_7 _ h0.1 h0.2).1.1; omega) (n := 62) rfl ?_
          refine xw_iload_n (n := 63) (show xlook 78 62 = some (62, .iload_n 3, 1, 0, 0, 0, 0) from xlk (by decide +kernel)) rfl rfl ?_
          obtain ⟨q1, t⟩ := t
          refine xw_iald (show xlook 78 63 = some (63, .iaload, 1, 0, 0, 0, 0) from xlk (by decide +kernel)) (xtg_9_7 _ h0.1 h0.2).1 (by rw [(xtg_9_7 _ h0.1 h0.2).2]; exact q1) (n := 64) rfl ?_
          refine xw_istore (n := 66) (show xlook 78 64 = some (64, .istore 4, 2, 0, 0, 0, 0) from xlk (by decide +kernel)) rfl (ls' := [.ref (o0), vi (x1 + 1), vi (x2), vi (x3), vi ((G1) (o0 + 2) (x3))]) (Nat.le_of_ble_eq_true rfl) rfl ?_
          exact t hG1
    · replace t := t.2 c
      refine xw_aload_n (n := 19) (show xlook 78 18 = some (18, .aload_n 0, 1, 0, 0, 0, 0) from xlk (by decide +kernel)) rfl rfl ?_
      refine xw_getr (q := o0 + 2) (show xlook 78 19 = some (19, .getfield 17, 3, 9, 7, 0, 129) from xlk (by decide +kernel)) (by decide) (xobf h0 (by decide) (by decide)) rfl (xPT_get (k := 7) (f := 2) hPT h0 (by decide)) (by have := (xtg_9_7 _ h0.1 h0.2).1.1; omega) (n := 22) rfl ?_
      refine xw_iload_n (n := 23) (show xlook 78 22 = some (22, .iload_n 3, 1, 0, 0, 0, 0) from xlk (by decide +kernel)) rfl rfl ?_
      obtain ⟨q1, t⟩ := t
      refine xw_iald (show xlook 78 23 = some (23, .iaload, 1, 0, 0, 0, 0) from xlk (by decide +kernel)) (xtg_9_7 _ h0.1 h0.2).1 (by rw [(xtg_9_7 _ h0.1 h0.2).2]; exact q1) (n := 24) rfl ?_
      refine xw_goto (m := 40) (show xlook 78 24 = some (24, .goto 16, 3, 40, 0, 0, 0) from xlk (by decide +kernel)) rfl ?_
      refine xw_istore (n := 42) (show xlook 78 40 = some (40, .istore 4, 2, 0, 0, 0, 0) from xlk (by decide +kernel)) rfl (ls' := [.ref (o0), vi (x1), vi (x2), vi (x3), vi ((F) (o0 + 2) (x3))]) (Nat.le_of_ble_eq_true rfl) rfl ?_
      refine xw_iload_n (n := 43) (show xlook 78 42 = some (42, .iload_n 3, 1, 0, 0, 0, 0) from xlk (by decide +kernel)) rfl rfl ?_
      obtain ⟨q0, t⟩ := t
      refine xw_if_le (n := 46) (m := 66) (show xlook 78 43 = some (43, .ifCond .le 23, 3, 66, 0, 0, 0) from xlk (by decide +kernel)) rfl rfl q0 ⟨fun c => ?_, fun c => ?_⟩
      · replace t := t.1 c
        exact t hPT
      · replace t := t.2 c
        refine xw_aload_n (n := 47) (show xlook 78 46 = some (46, .aload_n 0, 1, 0, 0, 0, 0) from xlk (by decide +kernel)) rfl rfl ?_
        refine xw_iload (n := 49) (show xlook 78 47 = some (47, .iload 4, 2, 0, 0, 0, 0) from xlk (by decide +kernel)) rfl rfl ?_
        obtain ⟨j2, hj2, rr2, G2, hm2, hG2, t⟩ := t
        obtain ⟨y2, rfl, t⟩ := t
        refine xw_callv (dk := j2) (o := o0) (as := [vi ((F) (o0 + 2) (x3))]) (show xlook 78 49 = some (49, .invokevirtual 89, 3, 77, 2, 0, 87) from xlk (by decide +kernel)) (by decide) hj2 ⟨Nat.le_of_ble_eq_true rfl, Nat.le_of_ble_eq_true rfl, Nat.le_of_ble_eq_true rfl⟩ ⟨h0.1, h0.2, by decide⟩ rfl hm2 (n := 52) rfl ?_
        show xW X d 78 52 [.ref (o0), vi (x1), vi (x2), vi (x3), vi ((F) (o0 + 2) (x3))] [vi (y2)] G2 (xqi Q)
        obtain ⟨q0, t⟩ := t
        refine xw_if_ne (n := 55) (m := 66) (show xlook 78 52 = some (52, .ifCond .ne 14, 3, 66, 0, 0, 0) from xlk (by decide +kernel)) rfl rfl q0 ⟨fun c => ?_, fun c => ?_⟩
        · replace t := t.1 c
          exact t hG2
        · replace t := t.2 c
          refine xw_iinc (n := 58) (show xlook 78 55 = some (55, .iinc 1 1, 3, 0, 0, 0, 0) from xlk (by decide +kernel)) rfl (ls' := [.ref (o0), vi (x1 + 1), vi (x2), vi (x3), vi ((F) (o0 + 2) (x3))]) rfl rfl ?_
          refine xw_aload_n (n := 59) (show xlook 78 58 = some (58, .aload_n 0, 1, 0, 0, 0, 0) from xlk (by decide +kernel)) rfl rfl ?_
          refine xw_getr (q := o0 + 2) (show xlook 78 59 = some (59, .getfield 17, 3, 9, 7, 0, 129) from xlk (by decide +kernel)) (by decide) (xobf h0 (by decide) (by decide)) rfl (xPT_get (k := 7) (f := 2) hG2 h0 (by decide)) (by have := (xtg_9_7 _ h0.1 h0.2).1.1; omega) (n := 62) rfl ?_
          refine xw_iload_n (n := 63) (show xlook 78 62 = some (62, .iload_n 3, 1, 0, 0, 0, 0) from xlk (by decide +kernel)) rfl rfl ?_
          obtain ⟨q1, t⟩ := t
          refine xw_iald (show xlook 78 63 = some (63, .iaload, 1, 0, 0, 0, 0) from xlk (by decide +kernel)) (xtg_9_7 _ h0.1 h0.2).1 (by rw [(xtg_9_7 _ h0.1 h0.2).2]; exact q1) (n := 64) rfl ?_
          refine xw_istore (n := 66) (show xlook 78 64 = some (64, .istore 4, 2, 0, 0, 0, 0) from xlk (by decide +kernel)) rfl (ls' := [.ref (o0), vi (x1 + 1), vi (x2), vi (x3), vi ((G2) (o0 + 2) (x3))]) (Nat.le_of_ble_eq_true rfl) rfl ?_
          exact t hG2

theorem s78_66 {X : List Int32} {d : Nat} {F : XF} {Q : Int → XF → Prop} {o0 : Nat} {x1 : Int} {x2 : Int} {x3 : Int} {x4 : Int} (hPT : xPT F) (h0 : xob 9 o0) (t : ∃ (j1 : Nat), j1 < d ∧ xMI X j1 77 [.ref (o0), vi (x4)] (F) (fun (y1 : Int) (G1 : XF) => (inR (y1) ∧ (((¬ (y1) = (0)) → (xPT (G1) → xW X d 78 6 [.ref (o0), vi (x1), vi (x4), vi (x3 + 1), vi (x4)] [] (G1) (xqi Q))) ∧ (¬ (¬ (y1) = (0)) → (xPT (G1) → Q ((-1)) (G1))))))) : xW X d 78 66 [.ref (o0), vi (x1), vi (x2), vi (x3), vi (x4)] [] F (xqi Q) := by
  refine xw_aload_n (n := 67) (show xlook 78 66 = some (66, .aload_n 0, 1, 0, 0, 0, 0) from xlk (by decide +kernel)) rfl rfl ?_
  refine xw_iload (n := 69) (show xlook 78 67 = some (67, .iload 4, 2, 0, 0, 0, 0) from xlk (by decide +kernel)) rfl rfl ?_
  obtain ⟨j1, hj1, rr1, G1, hm1, hG1, t⟩ := t
  obtain ⟨y1, rfl, t⟩ := t
  refine xw_callv (dk := j1) (o := o0) (as := [vi (x4)]) (show xlook 78 69 = some (69, .invokevirtual 89, 3, 77, 2, 0, 87) from xlk (by decide +kernel)) (by decide) hj1 ⟨Nat.le_of_ble_eq_true rfl, Nat.le_of_ble_eq_true rfl, Nat.le_of_ble_eq_true rfl⟩ ⟨h0.1, h0.2, by decide⟩ rfl hm1 (n := 72) rfl ?_
  show xW X d 78 72 [.ref (o0), vi (x1), vi (x2), vi (x3), vi (x4)] [vi (y1)] G1 (xqi Q)
  obtain ⟨q0, t⟩ := t
  refine xw_if_ne (n := 75) (m := 77) (show xlook 78 72 = some (72, .ifCond .ne 5, 3, 77, 0, 0, 0) from xlk (by decide +kernel)) rfl rfl q0 ⟨fun c => ?_, fun c => ?_⟩
  · replace t := t.1 c
    refine xw_iload (n := 79) (show xlook 78 77 = some (77, .iload 4, 2, 0, 0, 0, 0) from xlk (by decide +kernel)) rfl rfl ?_
    refine xw_istore_n (n := 80) (show xlook 78 79 = some (79, .istore_n 2, 1, 0, 0, 0, 0) from xlk (by decide +kernel)) rfl (ls' := [.ref (o0), vi (x1), vi (x4), vi (x3), vi (x4)]) (Nat.le_of_ble_eq_true rfl) rfl ?_
    refine xw_iinc (n := 83) (show xlook 78 80 = some (80, .iinc 3 1, 3, 0, 0, 0, 0) from xlk (by decide +kernel)) rfl (ls' := [.ref (o0), vi (x1), vi (x4), vi (x3 + 1), vi (x4)]) rfl rfl ?_
    refine xw_goto (m := 6) (show xlook 78 83 = some (83, .goto (-77), 3, 6, 0, 0, 0) from xlk (by decide +kernel)) rfl ?_
    exact t hG1
  · replace t := t.2 c
    refine xw_iconst (n := 76) (show xlook 78 75 = some (75, .iconst (-1), 1, 0, 0, 0, 0) from xlk (by decide +kernel)) rfl ?_
    exact xw_ireturn hG1 (show xlook 78 76 = some (76, .ireturn, 1, 0, 0, 0, 0) from xlk (by decide +kernel)) rfl (t hG1)

theorem s80_0 {X : List Int32} {d : Nat} {F : XF} {Q : XF → Prop} {w1 : Value} (hPT : xPT F)  (t : xPT (xup (F) (104) 1 ((-1))) → xW X d 80 7 [.ref (104), vi (0)] [] (xup (F) (104) 1 ((-1))) (xqv Q)) : xW X d 80 0 [.ref (104), w1] [] F (xqv Q) := by
  refine xw_aload_n (n := 1) (show xlook 80 0 = some (0, .aload_n 0, 1, 0, 0, 0, 0) from xlk (by decide +kernel)) rfl rfl ?_
  refine xw_iconst (n := 2) (show xlook 80 1 = some (1, .iconst (-1), 1, 0, 0, 0, 0) from xlk (by decide +kernel)) rfl ?_
  refine xw_puti (show xlook 80 2 = some (2, .putfield 18, 3, 10, 1, 0, 146) from xlk (by decide +kernel)) (xobf xob_10 (by decide) (by decide)) rfl (n := 5) rfl ?_
  refine xw_iconst (n := 6) (show xlook 80 5 = some (5, .iconst 0, 1, 0, 0, 0, 0) from xlk (by decide +kernel)) rfl ?_
  refine xw_istore_n (n := 7) (show xlook 80 6 = some (6, .istore_n 1, 1, 0, 0, 0, 0) from xlk (by decide +kernel)) rfl (ls' := [.ref (104), vi (0)]) (Nat.le_of_ble_eq_true rfl) rfl ?_
  exact t (xPT_fld (k := 1) hPT xob_10 (by decide) (by decide))
theorem m80 {X : List Int32} {d : Nat} {F : XF} {Q : XF → Prop}  (hPT : xPT F)  (t : xPT (xup (F) (104) 1 ((-1))) → xW X d 80 7 [.ref (104), vi (0)] [] (xup (F) (104) 1 ((-1))) (xqv Q)) : xMV X d 80 [.ref (104)] F Q := by
  show xW X d 80 0 [.ref (104), xU0] [] F (xqv Q)
  exact s80_0 hPT  t

theorem s80_7 {X : List Int32} {d : Nat} {F : XF} {Q : XF → Prop} {x1 : Int} (hPT : xPT F)  (t : inR (x1) ∧ ((((60) < (x1)) → (xPT (F) → xW X d 80 37 [.ref (104), vi (0)] [] (F) (xqv Q))) ∧ (¬ ((60) < (x1)) → ((0 ≤ (x1) ∧ (x1) < 61) ∧ ((0 ≤ (x1) ∧ (x1) < 61) ∧ (xPT (xup (xup (F) (125) (x1) ((-2))) (126) (x1) ((-2))) → xW X d 80 7 [.ref (104), vi (x1 + 1)] [] (xup (xup (F) (125) (x1) ((-2))) (126) (x1) ((-2))) (xqv Q))))))) : xW X d 80 7 [.ref (104), vi (x1)] [] F (xqv Q) := by
  refine xw_iload_n (n := 8) (show xlook 80 7 = some (7, .iload_n 1, 1, 0, 0, 0, 0) from xlk (by decide +kernel)) rfl rfl ?_
  refine xw_bipush (n := 10) (show xlook 80 8 = some (8, .bipush 60, 2, 0, 0, 0, 0) from xlk (by decide +kernel)) rfl (by decide) ?_
  obtain ⟨q0, t⟩ := t
  refine xw_icmp_gt (n := 13) (m := 35) (show xlook 80 10 = some (10, .if_icmp .gt 25, 3, 35, 0, 0, 0) from xlk (by decide +kernel)) rfl rfl q0 ⟨by decide, by decide⟩ ⟨fun c => ?_, fun c => ?_⟩
  · replace t := t.1 c
    refine xw_iconst (n := 36) (show xlook 80 35 = some (35, .iconst 0, 1, 0, 0, 0, 0) from xlk (by decide +kernel)) rfl ?_
    refine xw_istore_n (n := 37) (show xlook 80 36 = some (36, .istore_n 1, 1, 0, 0, 0, 0) from xlk (by decide +kernel)) rfl (ls' := [.ref (104), vi (0)]) (Nat.le_of_ble_eq_true rfl) rfl ?_
    exact t hPT
  · replace t := t.2 c
    refine xw_aload_n (n := 14) (show xlook 80 13 = some (13, .aload_n 0, 1, 0, 0, 0, 0) from xlk (by decide +kernel)) rfl rfl ?_
    refine xw_getr (q := 125) (show xlook 80 14 = some (14, .getfield 32, 3, 10, 5, 0, 150) from xlk (by decide +kernel)) (by decide) (xobf xob_10 (by decide) (by decide)) rfl (xPT_get (k := 5) (f := 21) hPT xob_10 (by decide)) (by have := (xtg_10_5 _ xob_10.1 xob_10.2).1.1; omega) (n := 17) rfl ?_
    refine xw_iload_n (n := 18) (show xlook 80 17 = some (17, .iload_n 1, 1, 0, 0, 0, 0) from xlk (by decide +kernel)) rfl rfl ?_
    refine xw_bipush (n := 20) (show xlook 80 18 = some (18, .bipush (-2), 2, 0, 0, 0, 0) from xlk (by decide +kernel)) rfl (by decide) ?_
    obtain ⟨q1, t⟩ := t
    refine xw_iast (show xlook 80 20 = some (20, .iastore, 1, 0, 0, 0, 0) from xlk (by decide +kernel)) (xtg_10_5 _ xob_10.1 xob_10.2).1 (by rw [(xtg_10_5 _ xob_10.1 xob_10.2).2]; exact q1) (n := 21) rfl ?_
    refine xw_aload_n (n := 22) (show xlook 80 21 = some (21, .aload_n 0, 1, 0, 0, 0, 0) from xlk (by decide +kernel)) rfl rfl ?_
    refine xw_getr (q := 126) (show xlook 80 22 = some (22, .getfield 35, 3, 10, 6, 0, 151) from xlk (by decide +kernel)) (by decide) (xobf xob_10 (by decide) (by decide)) rfl (xPT_get (k := 6) (f := 22) (xPT_arr hPT (Or.inl (xtg_10_5 _ xob_10.1 xob_10.2).1.2)) xob_10 (by decide)) (by have := (xtg_10_6 _ xob_10.1 xob_10.2).1.1; omega) (n := 25) rfl ?_
    refine xw_iload_n (n := 26) (show xlook 80 25 = some (25, .iload_n 1, 1, 0, 0, 0, 0) from xlk (by decide +kernel)) rfl rfl ?_
    refine xw_bipush (n := 28) (show xlook 80 26 = some (26, .bipush (-2), 2, 0, 0, 0, 0) from xlk (by decide +kernel)) rfl (by decide) ?_
    obtain ⟨q1, t⟩ := t
    refine xw_iast (show xlook 80 28 = some (28, .iastore, 1, 0, 0, 0, 0) from xlk (by decide +kernel)) (xtg_10_6 _ xob_10.1 xob_10.2).1 (by rw [(xtg_10_6 _ xob_10.1 xob_10.2).2]; exact q1) (n := 29) rfl ?_
    refine xw_iinc (n := 32) (show xlook 80 29 = some (29, .iinc 1 1, 3, 0, 0, 0, 0) from xlk (by decide +kernel)) rfl (ls' := [.ref (104), vi (x1 + 1)]) rfl rfl ?_
    refine xw_goto (m := 7) (show xlook 80 32 = some (32, .goto (-25), 3, 7, 0, 0, 0) from xlk (by decide +kernel)) rfl ?_
    exact t (xPT_arr (xPT_arr hPT (Or.inl (xtg_10_5 _ xob_10.1 xob_10.2).1.2)) (Or.inl (xtg_10_6 _ xob_10.1 xob_10.2).1.2))

theorem s80_37 {X : List Int32} {d : Nat} {F : XF} {Q : XF → Prop} {x1 : Int} (hPT : xPT F)  (t : inR (x1) ∧ ((((50) < (x1)) → (xPT (F) → Q (F))) ∧ (¬ ((50) < (x1)) → ((0 ≤ (x1) ∧ (x1) < 51) ∧ (xPT (xup (F) (127) (x1) ((-2))) → xW X d 80 37 [.ref (104), vi (x1 + 1)] [] (xup (F) (127) (x1) ((-2))) (xqv Q)))))) : xW X d 80 37 [.ref (104), vi (x1)] [] F (xqv Q) := by
  refine xw_iload_n (n := 38) (show xlook 80 37 = some (37, .iload_n 1, 1, 0, 0, 0, 0) from xlk (by decide +kernel)) rfl rfl ?_
  refine xw_bipush (n := 40) (show xlook 80 38 = some (38, .bipush 50, 2, 0, 0, 0, 0) from xlk (by decide +kernel)) rfl (by decide) ?_
  obtain ⟨q0, t⟩ := t
  refine xw_icmp_gt (n := 43) (m := 57) (show xlook 80 40 = some (40, .if_icmp .gt 17, 3, 57, 0, 0, 0) from xlk (by decide +kernel)) rfl rfl q0 ⟨by decide, by decide⟩ ⟨fun c => ?_, fun c => ?_⟩
  · replace t := t.1 c
    exact xw_return hPT (show xlook 80 57 = some (57, .return_, 1, 0, 0, 0, 0) from xlk (by decide +kernel)) rfl (t hPT)
  · replace t := t.2 c
    refine xw_aload_n (n := 44) (show xlook 80 43 = some (43, .aload_n 0, 1, 0, 0, 0, 0) from xlk (by decide +kernel)) rfl rfl ?_
    refine xw_getr (q := 127) (show xlook 80 44 = some (44, .getfield 38, 3, 10, 7, 0, 152) from xlk (by decide +kernel)) (by decide) (xobf xob_10 (by decide) (by decide)) rfl (xPT_get (k := 7) (f := 23) hPT xob_10 (by decide)) (by have := (xtg_10_7 _ xob_10.1 xob_10.2).1.1; omega) (n := 47) rfl ?_
    refine xw_iload_n (n := 48) (show xlook 80 47 = some (47, .iload_n 1, 1, 0, 0, 0, 0) from xlk (by decide +kernel)) rfl rfl ?_
    refine xw_bipush (n := 50) (show xlook 80 48 = some (48, .bipush (-2), 2, 0, 0, 0, 0) from xlk (by decide +kernel)) rfl (by decide) ?_
    obtain ⟨q1, t⟩ := t
    refine xw_iast (show xlook 80 50 = some (50, .iastore, 1, 0, 0, 0, 0) from xlk (by decide +kernel)) (xtg_10_7 _ xob_10.1 xob_10.2).1 (by rw [(xtg_10_7 _ xob_10.1 xob_10.2).2]; exact q1) (n := 51) rfl ?_
    refine xw_iinc (n := 54) (show xlook 80 51 = some (51, .iinc 1 1, 3, 0, 0, 0, 0) from xlk (by decide +kernel)) rfl (ls' := [.ref (104), vi (x1 + 1)]) rfl rfl ?_
    refine xw_goto (m := 37) (show xlook 80 54 = some (54, .goto (-17), 3, 37, 0, 0, 0) from xlk (by decide +kernel)) rfl ?_
    exact t (xPT_arr hPT (Or.inl (xtg_10_7 _ xob_10.1 xob_10.2).1.2))

theorem s81_0 {X : List Int32} {d : Nat} {F : XF} {Q : XF → Prop}  (hPT : xPT F)  (t : ∃ (j1 : Nat), j1 < d ∧ xMV X j1 80 [.ref (104)] (F) (fun (G1 : XF) => (xPT (G1) → Q (G1)))) : xW X d 81 0 [.ref (104)] [] F (xqv Q) := by
  refine xw_aload_n (n := 1) (show xlook 81 0 = some (0, .aload_n 0, 1, 0, 0, 0, 0) from xlk (by decide +kernel)) rfl rfl ?_
  obtain ⟨j1, hj1, rr1, G1, hm1, hG1, t⟩ := t
  obtain ⟨rfl, t⟩ := t
  refine xw_callv (dk := j1) (o := 104) (as := []) (show xlook 81 1 = some (1, .invokevirtual 41, 3, 80, 1, 0, 90) from xlk (by decide +kernel)) (by decide) hj1 ⟨Nat.le_of_ble_eq_true rfl, Nat.le_of_ble_eq_true rfl, Nat.le_of_ble_eq_true rfl⟩ ⟨xob_10.1, xob_10.2, by decide⟩ rfl hm1 (n := 4) rfl ?_
  show xW X d 81 4 [.ref (104)] [] G1 (xqv Q)
  exact xw_return hG1 (show xlook 81 4 = some (4, .return_, 1, 0, 0, 0, 0) from xlk (by decide +kernel)) rfl (t hG1)
theorem m81 {X : List Int32} {d : Nat} {F : XF} {Q : XF → Prop}  (hPT : xPT F)  (t : ∃ (j1 : Nat), j1 < d ∧ xMV X j1 80 [.ref (104)] (F) (fun (G1 : XF) => (xPT (G1) → Q (G1)))) : xMV X d 81 [.ref (104)] F Q := by
  show xW X d 81 0 [.ref (104)] [] F (xqv Q)
  exact s81_0 hPT  t

theorem s82_0 {X : List Int32} {d : Nat} {F : XF} {Q : XF → Prop} {o1 : Nat} {o2 : Nat} {x3 : Int} {w4 : Value} {w5 : Value} (hPT : xPT F) (h1 : xob 9 o1) (h2 : xob 6 o2) (t : ∃ (j1 : Nat), j1 < d ∧ xMV X j1 72 [.ref (105), .ref (o1)] (F) (fun (G1 : XF) => (inR ((G1) (104) 1) ∧ ((((0) ≤ ((G1) (104) 1)) → (xPT (G1) → xW X d 82 45 [.ref (104), .ref (o1), .ref (o2), vi (x3), w4, w5] [] (G1) (xqv Q))) ∧ (¬ ((0) ≤ ((G1) (104) 1)) → (∃ (j2 : Nat), j2 < d ∧ xMV X j2 83 [.ref (104), vi (0)] (G1) (fun (G2 : XF) => (∃ (j3 : Nat), j3 < d ∧ xMI X j3 57 [.ref (o2), .ref (105), vi (2000)] (xup (G2) (105) 8 (0)) (fun (y3 : Int) (G3 : XF) => (∃ (j4 : Nat), j4 < d ∧ xMV X j4 85 [.ref (104), vi (y3), vi ((-1)), vi ((-1))] (G3) (fun (G4 : XF) => (xPT (G4) → xW X d 82 45 [.ref (104), .ref (o1), .ref (o2), vi (x3), w4, w5] [] (G4) (xqv Q))))))))))))) : xW X d 82 0 [.ref (104), .ref (o1), .ref (o2), vi (x3), w4, w5] [] F (xqv Q) := by
  refine xw_aload_n (n := 1) (show xlook 82 0 = some (0, .aload_n 0, 1, 0, 0, 0, 0) from xlk (by decide +kernel)) rfl rfl ?_
  refine xw_getr (q := 105) (show xlook 82 1 = some (1, .getfield 12, 3, 10, 0, 0, 145) from xlk (by decide +kernel)) (by decide) (xobf xob_10 (by decide) (by decide)) rfl (xPT_get (k := 0) (f := 1) hPT xob_10 (by decide)) (by have := (xtg_10_0 _ xob_10.1 xob_10.2).1; omega) (n := 4) rfl ?_
  refine xw_aload_n (n := 5) (show xlook 82 4 = some (4, .aload_n 1, 1, 0, 0, 0, 0) from xlk (by decide +kernel)) rfl rfl ?_
  obtain ⟨j1, hj1, rr1, G1, hm1, hG1, t⟩ := t
  obtain ⟨rfl, t⟩ := t
  refine xw_callv (dk := j1) (o := 105) (as := [.ref (o1)]) (show xlook 82 5 = some (5, .invokevirtual 44, 3, 72, 2, 0, 91) from xlk (by decide +kernel)) (by decide) hj1 ⟨Nat.le_of_ble_eq_true rfl, Nat.le_of_ble_eq_true rfl, Nat.le_of_ble_eq_true rfl⟩ ⟨(xtg_10_0 _ xob_10.1 xob_10.2).1, (xtg_10_0 _ xob_10.1 xob_10.2).2, by decide⟩ rfl hm1 (n := 8) rfl ?_
  show xW X d 82 8 [.ref (104), .ref (o1), .ref (o2), vi (x3), w4, w5] [] G1 (xqv Q)
  refine xw_aload_n (n := 9) (show xlook 82 8 = some (8, .aload_n 0, 1, 0, 0, 0, 0) from xlk (by decide +kernel)) rfl rfl ?_
  refine xw_geti (show xlook 82 9 = some (9, .getfield 18, 3, 10, 1, 0, 146) from xlk (by decide +kernel)) (by decide) (xobf xob_10 (by decide) (by decide)) rfl (n := 12) rfl ?_
  obtain ⟨q0, t⟩ := t
  refine xw_if_ge (n := 15) (m := 45) (show xlook 82 12 = some (12, .ifCond .ge 33, 3, 45, 0, 0, 0) from xlk (by decide +kernel)) rfl rfl q0 ⟨fun c => ?_, fun c => ?_⟩
  · replace t := t.1 c
    exact t hG1
  · replace t := t.2 c
    refine xw_aload_n (n := 16) (show xlook 82 15 = some (15, .aload_n 0, 1, 0, 0, 0, 0) from xlk (by decide +kernel)) rfl rfl ?_
    refine xw_iconst (n := 17) (show xlook 82 16 = some (16, .iconst 0, 1, 0, 0, 0, 0) from xlk (by decide +kernel)) rfl ?_
    obtain ⟨j2, hj2, rr2, G2, hm2, hG2, t⟩ := t
    obtain ⟨rfl, t⟩ := t
    refine xw_callv (dk := j2) (o := 104) (as := [vi (0)]) (show xlook 82 17 = some (17, .invokevirtual 48, 3, 83, 2, 0, 92) from xlk (by decide +kernel)) (by decide) hj2 ⟨Nat.le_of_ble_eq_true rfl, Nat.le_of_ble_eq_true rfl, Nat.le_of_ble_eq_true rfl⟩ ⟨xob_10.1, xob_10.2, by decide⟩ rfl hm2 (n := 20) rfl ?_
    show xW X d 82 20 [.ref (104), .ref (o1), .ref (o2), vi (x3), w4, w5] [] G2 (xqv Q)
    refine xw_aload_n (n := 21) (show xlook 82 20 = some (20, .aload_n 0, 1, 0, 0, 0, 0) from xlk (by decide +kernel)) rfl rfl ?_
    refine xw_getr (q := 105) (show xlook 82 21 = some (21, .getfield 12, 3, 10, 0, 0, 145) from xlk (by decide +kernel)) (by decide) (xobf xob_10 (by decide) (by decide)) rfl (xPT_get (k := 0) (f := 1) hG2 xob_10 (by decide)) (by have := (xtg_10_0 _ xob_10.1 xob_10.2).1; omega) (n := 24) rfl ?_
    refine xw_iconst (n := 25) (show xlook 82 24 = some (24, .iconst 0, 1, 0, 0, 0, 0) from xlk (by decide +kernel)) rfl ?_
    refine xw_puti (show xlook 82 25 = some (25, .putfield 52, 3, 9, 8, 0, 153) from xlk (by decide +kernel)) (xobf (xtg_10_0 _ xob_10.1 xob_10.2) (by decide) (by decide)) rfl (n := 28) rfl ?_
    refine xw_aload_n (n := 29) (show xlook 82 28 = some (28, .aload_n 0, 1, 0, 0, 0, 0) from xlk (by decide +kernel)) rfl rfl ?_
    refine xw_aload_n (n := 30) (show xlook 82 29 = some (29, .aload_n 2, 1, 0, 0, 0, 0) from xlk (by decide +kernel)) rfl rfl ?_
    refine xw_aload_n (n := 31) (show xlook 82 30 = some (30, .aload_n 0, 1, 0, 0, 0, 0) from xlk (by decide +kernel)) rfl rfl ?_
    refine xw_getr (q := 105) (show xlook 82 31 = some (31, .getfield 12, 3, 10, 0, 0, 145) from xlk (by decide +kernel)) (by decide) (xobf xob_10 (by decide) (by decide)) rfl (xPT_get (k := 0) (f := 1) (xPT_fld (k := 8) hG2 (xtg_10_0 _ xob_10.1 xob_10.2) (by decide) (by decide)) xob_10 (by decide)) (by have := (xtg_10_0 _ xob_10.1 xob_10.2).1; omega) (n := 34) rfl ?_
    refine xw_sipush (n := 37) (show xlook 82 34 = some (34, .sipush 2000, 3, 0, 0, 0, 0) from xlk (by decide +kernel)) rfl (by decide) ?_
    obtain ⟨j3, hj3, rr3, G3, hm3, hG3, t⟩ := t
    obtain ⟨y3, rfl, t⟩ := t
    refine xw_callv (dk := j3) (o := o2) (as := [.ref (105), vi (2000)]) (show xlook 82 37 = some (37, .invokevirtual 55, 3, 57, 3, 0, 93) from xlk (by decide +kernel)) (by decide) hj3 ⟨Nat.le_of_ble_eq_true rfl, Nat.le_of_ble_eq_true rfl, Nat.le_of_ble_eq_true rfl⟩ ⟨h2.1, h2.2, by decide⟩ rfl hm3 (n := 40) rfl ?_
    show xW X d 82 40 [.ref (104), .ref (o1), .ref (o2), vi (x3), w4, w5] [vi (y3), .ref (104)] G3 (xqv Q)
    refine xw_iconst (n := 41) (show xlook 82 40 = some (40, .iconst (-1), 1, 0, 0, 0, 0) from xlk (by decide +kernel)) rfl ?_
    refine xw_iconst (n := 42) (show xlook 82 41 = some (41, .iconst (-1), 1, 0, 0, 0, 0) from xlk (by decide +kernel)) rfl ?_
    obtain ⟨j4, hj4, rr4, G4, hm4, hG4, t⟩ := t
    obtain ⟨rfl, t⟩ := t
    refine xw_callv (dk := j4) (o := 104) (as := [vi (y3), vi ((-1)), vi ((-1))]) (show xlook 82 42 = some (42, .invokevirtual 61, 3, 85, 4, 0, 94) from xlk (by decide +kernel)) (by decide) hj4 ⟨Nat.le_of_ble_eq_true rfl, Nat.le_of_ble_eq_true rfl, Nat.le_of_ble_eq_true rfl⟩ ⟨xob_10.1, xob_10.2, by decide⟩ rfl hm4 (n := 45) rfl ?_
    show xW X d 82 45 [.ref (104), .ref (o1), .ref (o2), vi (x3), w4, w5] [] G4 (xqv Q)
    exact t hG4
theorem m82 {X : List Int32} {d : Nat} {F : XF} {Q : XF → Prop} {o1 : Nat} {o2 : Nat} {x3 : Int} (hPT : xPT F) (h1 : xob 9 o1) (h2 : xob 6 o2) (t : ∃ (j1 : Nat), j1 < d ∧ xMV X j1 72 [.ref (105), .ref (o1)] (F) (fun (G1 : XF) => (inR ((G1) (104) 1) ∧ ((((0) ≤ ((G1) (104) 1)) → (xPT (G1) → xW X d 82 45 [.ref (104), .ref (o1), .ref (o2), vi (x3), xU0, xU0] [] (G1) (xqv Q))) ∧ (¬ ((0) ≤ ((G1) (104) 1)) → (∃ (j2 : Nat), j2 < d ∧ xMV X j2 83 [.ref (104), vi (0)] (G1) (fun (G2 : XF) => (∃ (j3 : Nat), j3 < d ∧ xMI X j3 57 [.ref (o2), .ref (105), vi (2000)] (xup (G2) (105) 8 (0)) (fun (y3 : Int) (G3 : XF) => (∃ (j4 : Nat), j4 < d ∧ xMV X j4 85 [.ref (104), vi (y3), vi ((-1)), vi ((-1))] (G3) (fun (G4 : XF) => (xPT (G4) → xW X d 82 45 [.ref (104), .ref (o1), .ref (o2), vi (x3), xU0, xU0] [] (G4) (xqv Q))))))))))))) : xMV X d 82 [.ref (104), .ref (o1), .ref (o2), vi (x3)] F Q := by
  show xW X d 82 0 [.ref (104), .ref (o1), .ref (o2), vi (x3), xU0, xU0] [] F (xqv Q)
  exact s82_0 hPT h1 h2 t

theorem s82_45 {X : List Int32} {d : Nat} {F : XF} {Q : XF → Prop} {o1 : Nat} {o2 : Nat} {x3 : Int} {w4 : Value} {w5 : Value} (hPT : xPT F) (h1 : xob 9 o1) (h2 : xob 6 o2) (t : inR ((F) (104) 1) ∧ ((((1) ≤ ((F) (104) 1)) → (xPT (F) → xW X d 82 116 [.ref (104), .ref (o1), .ref (o2), vi (x3), w4, w5] [] (F) (xqv Q))) ∧ (¬ ((1) ≤ ((F) (104) 1)) → (inR (x3) ∧ ((((x3) < (1)) → (xPT (F) → xW X d 82 116 [.ref (104), .ref (o1), .ref (o2), vi (x3), w4, w5] [] (F) (xqv Q))) ∧ (¬ ((x3) < (1)) → (∃ (j1 : Nat), j1 < d ∧ xMV X j1 83 [.ref (104), vi (1)] (F) (fun (G1 : XF) => (xPT (G1) → xW X d 82 66 [.ref (104), .ref (o1), .ref (o2), vi (x3), vi (0), w5] [] (G1) (xqv Q)))))))))) : xW X d 82 45 [.ref (104), .ref (o1), .ref (o2), vi (x3), w4, w5] [] F (xqv Q) := by
  refine xw_aload_n (n := 46) (show xlook 82 45 = some (45, .aload_n 0, 1, 0, 0, 0, 0) from xlk (by decide +kernel)) rfl rfl ?_
  refine xw_geti (show xlook 82 46 = some (46, .getfield 18, 3, 10, 1, 0, 146) from xlk (by decide +kernel)) (by decide) (xobf xob_10 (by decide) (by decide)) rfl (n := 49) rfl ?_
  refine xw_iconst (n := 50) (show xlook 82 49 = some (49, .iconst 1, 1, 0, 0, 0, 0) from xlk (by decide +kernel)) rfl ?_
  obtain ⟨q0, t⟩ := t
  refine xw_icmp_ge (n := 53) (m := 116) (show xlook 82 50 = some (50, .if_icmp .ge 66, 3, 116, 0, 0, 0) from xlk (by decide +kernel)) rfl rfl q0 ⟨by decide, by decide⟩ ⟨fun c => ?_, fun c => ?_⟩
  · replace t := t.1 c
    exact t hPT
  · replace t := t.2 c
    refine xw_iload_n (n := 54) (show xlook 82 53 = some (53, .iload_n 3, 1, 0, 0, 0, 0) from xlk (by decide +kernel)) rfl rfl ?_
    refine xw_iconst (n := 55) (show xlook 82 54 = some (54, .iconst 1, 1, 0, 0, 0, 0) from xlk (by decide +kernel)) rfl ?_
    obtain ⟨q0, t⟩ := t
    refine xw_icmp_lt (n := 58) (m := 116) (show xlook 82 55 = some (55, .if_icmp .lt 61, 3, 116, 0, 0, 0) from xlk (by decide +kernel)) rfl rfl q0 ⟨by decide, by decide⟩ ⟨fun c => ?_, fun c => ?_⟩
    · replace t := t.1 c
      exact t hPT
    · replace t := t.2 c
      refine xw_aload_n (n := 59) (show xlook 82 58 = some (58, .aload_n 0, 1, 0, 0, 0, 0) from xlk (by decide +kernel)) rfl rfl ?_
      refine xw_iconst (n := 60) (show xlook 82 59 = some (59, .iconst 1, 1, 0, 0, 0, 0) from xlk (by decide +kernel)) rfl ?_
      obtain ⟨j1, hj1, rr1, G1, hm1, hG1, t⟩ := t
      obtain ⟨rfl, t⟩ := t
      refine xw_callv (dk := j1) (o := 104) (as := [vi (1)]) (show xlook 82 60 = some (60, .invokevirtual 48, 3, 83, 2, 0, 92) from xlk (by decide +kernel)) (by decide) hj1 ⟨Nat.le_of_ble_eq_true rfl, Nat.le_of_ble_eq_true rfl, Nat.le_of_ble_eq_true rfl⟩ ⟨xob_10.1, xob_10.2, by decide⟩ rfl hm1 (n := 63) rfl ?_
      show xW X d 82 63 [.ref (104), .ref (o1), .ref (o2), vi (x3), w4, w5] [] G1 (xqv Q)
      refine xw_iconst (n := 64) (show xlook 82 63 = some (63, .iconst 0, 1, 0, 0, 0, 0) from xlk (by decide +kernel)) rfl ?_
      refine xw_istore (n := 66) (show xlook 82 64 = some (64, .istore 4, 2, 0, 0, 0, 0) from xlk (by decide +kernel)) rfl (ls' := [.ref (104), .ref (o1), .ref (o2), vi (x3), vi (0), w5]) (Nat.le_of_ble_eq_true rfl) rfl ?_
      exact t hG1

theorem s82_66 {X : List Int32} {d : Nat} {F : XF} {Q : XF → Prop} {o1 : Nat} {o2 : Nat} {x3 : Int} {x4 : Int} {w5 : Value} (hPT : xPT F) (h1 : xob 9 o1) (h2 : xob 6 o2) (t : inR (x4) ∧ inR (((F) (105) 6) - (1)) ∧ ((((((F) (105) 6) - (1)) ≤ (x4)) → (xPT (F) → xW X d 82 116 [.ref (104), .ref (o1), .ref (o2), vi (x3), vi (x4), w5] [] (F) (xqv Q))) ∧ (¬ ((((F) (105) 6) - (1)) ≤ (x4)) → (∃ (j1 : Nat), j1 < d ∧ xMI X j1 84 [.ref (104)] (xup (F) (105) 8 (xshl (1) (x4))) (fun (y1 : Int) (G1 : XF) => (∃ (j2 : Nat), j2 < d ∧ xMI X j2 57 [.ref (o2), .ref (105), vi (y1)] (G1) (fun (y2 : Int) (G2 : XF) => (∃ (j3 : Nat), j3 < d ∧ xMV X j3 85 [.ref (104), vi (y2), vi (x4), vi ((-1))] (G2) (fun (G3 : XF) => (xPT (G3) → xW X d 82 66 [.ref (104), .ref (o1), .ref (o2), vi (x3), vi (x4 + 1), w5] [] (G3) (xqv Q))))))))))) : xW X d 82 66 [.ref (104), .ref (o1), .ref (o2), vi (x3), vi (x4), w5] [] F (xqv Q) := by
  refine xw_iload (n := 68) (show xlook 82 66 = some (66, .iload 4, 2, 0, 0, 0, 0) from xlk (by decide +kernel)) rfl rfl ?_
  refine xw_aload_n (n := 69) (show xlook 82 68 = some (68, .aload_n 0, 1, 0, 0, 0, 0) from xlk (by decide +kernel)) rfl rfl ?_
  refine xw_getr (q := 105) (show xlook 82 69 = some (69, .getfield 12, 3, 10, 0, 0, 145) from xlk (by decide +kernel)) (by decide) (xobf xob_10 (by decide) (by decide)) rfl (xPT_get (k := 0) (f := 1) hPT xob_10 (by decide)) (by have := (xtg_10_0 _ xob_10.1 xob_10.2).1; omega) (n := 72) rfl ?_
  refine xw_geti (show xlook 82 72 = some (72, .getfield 65, 3, 9, 6, 0, 154) from xlk (by decide +kernel)) (by decide) (xobf (xtg_10_0 _ xob_10.1 xob_10.2) (by decide) (by decide)) rfl (n := 75) rfl ?_
  refine xw_iconst (n := 76) (show xlook 82 75 = some (75, .iconst 1, 1, 0, 0, 0, 0) from xlk (by decide +kernel)) rfl ?_
  refine xw_isub (n := 77) (show xlook 82 76 = some (76, .isub, 1, 0, 0, 0, 0) from xlk (by decide +kernel)) rfl ?_
  obtain ⟨q0, q1, t⟩ := t
  refine xw_icmp_ge (n := 80) (m := 116) (show xlook 82 77 = some (77, .if_icmp .ge 39, 3, 116, 0, 0, 0) from xlk (by decide +kernel)) rfl rfl q0 q1 ⟨fun c => ?_, fun c => ?_⟩
  · replace t := t.1 c
    exact t hPT
  · replace t := t.2 c
    refine xw_aload_n (n := 81) (show xlook 82 80 = some (80, .aload_n 0, 1, 0, 0, 0, 0) from xlk (by decide +kernel)) rfl rfl ?_
    refine xw_getr (q := 105) (show xlook 82 81 = some (81, .getfield 12, 3, 10, 0, 0, 145) from xlk (by decide +kernel)) (by decide) (xobf xob_10 (by decide) (by decide)) rfl (xPT_get (k := 0) (f := 1) hPT xob_10 (by decide)) (by have := (xtg_10_0 _ xob_10.1 xob_10.2).1; omega) (n := 84) rfl ?_
    refine xw_iconst (n := 85) (show xlook 82 84 = some (84, .iconst 1, 1, 0, 0, 0, 0) from xlk (by decide +kernel)) rfl ?_
    refine xw_iload (n := 87) (show xlook 82 85 = some (85, .iload 4, 2, 0, 0, 0, 0) from xlk (by decide +kernel)) rfl rfl ?_
    refine xw_ishl (n := 88) (show xlook 82 87 = some (87, .ishl, 1, 0, 0, 0, 0) from xlk (by decide +kernel)) rfl ?_
    refine xw_puti (show xlook 82 88 = some (88, .putfield 52, 3, 9, 8, 0, 153) from xlk (by decide +kernel)) (xobf (xtg_10_0 _ xob_10.1 xob_10.2) (by decide) (by decide)) rfl (n := 91) rfl ?_
    refine xw_aload_n (n := 92) (show xlook 82 91 = some (91, .aload_n 0, 1, 0, 0, 0, 0) from xlk (by decide +kernel)) rfl rfl ?_
    refine xw_aload_n (n := 93) (show xlook 82 92 = some (92, .aload_n 2, 1, 0, 0, 0, 0) from xlk (by decide +kernel)) rfl rfl ?_
    refine xw_aload_n (n := 94) (show xlook 82 93 = some (93, .aload_n 0, 1, 0, 0, 0, 0) from xlk (by decide +kernel)) rfl rfl ?_
    refine xw_getr (q := 105) (show xlook 82 94 = some (94, .getfield 12, 3, 10, 0, 0, 145) from xlk (by decide +kernel)) (by decide) (xobf xob_10 (by decide) (by decide)) rfl (xPT_get (k := 0) (f := 1) (xPT_fld (k := 8) hPT (xtg_10_0 _ xob_10.1 xob_10.2) (by decide) (by decide)) xob_10 (by decide)) (by have := (xtg_10_0 _ xob_10.1 xob_10.2).1; omega) (n := 97) rfl ?_
    refine xw_aload_n (n := 98) (show xlook 82 97 = some (97, .aload_n 0, 1, 0, 0, 0, 0) from xlk (by decide +kernel)) rfl rfl ?_
    obtain ⟨j1, hj1, rr1, G1, hm1, hG1, t⟩ := t
    obtain ⟨y1, rfl, t⟩ := t
    refine xw_callv (dk := j1) (o := 104) (as := []) (show xlook 82 98 = some (98, .invokevirtual 68, 3, 84, 1, 0, 95) from xlk (by decide +kernel)) (by decide) hj1 ⟨Nat.le_of_ble_eq_true rfl, Nat.le_of_ble_eq_true rfl, Nat.le_of_ble_eq_true rfl⟩ ⟨xob_10.1, xob_10.2, by decide⟩ rfl hm1 (n := 101) rfl ?_
    show xW X d 82 101 [.ref (104), .ref (o1), .ref (o2), vi (x3), vi (x4), w5] [vi (y1), .ref (105), .ref (o2), .ref (104)] G1 (xqv Q)
    obtain ⟨j2, hj2, rr2, G2, hm2, hG2, t⟩ := t
    obtain ⟨y2, rfl, t⟩ := t
    refine xw_callv (dk := j2) (o := o2) (as := [.ref (105), vi (y1)]) (show xlook 82 101 = some (101, .invokevirtual 55, 3, 57, 3, 0, 93) from xlk (by decide +kernel)) (by decide) hj2 ⟨Nat.le_of_ble_eq_true rfl, Nat.le_of_ble_eq_true rfl, Nat.le_of_ble_eq_true rfl⟩ ⟨h2.1, h2.2, by decide⟩ rfl hm2 (n := 104) rfl ?_
    show xW X d 82 104 [.ref (104), .ref (o1), .ref (o2), vi (x3), vi (x4), w5] [vi (y2), .ref (104)] G2 (xqv Q)
    refine xw_iload (n := 106) (show xlook 82 104 = some (104, .iload 4, 2, 0, 0, 0, 0) from xlk (by decide +kernel)) rfl rfl ?_
    refine xw_iconst (n := 107) (show xlook 82 106 = some (106, .iconst (-1), 1, 0, 0, 0, 0) from xlk (by decide +kernel)) rfl ?_
    obtain ⟨j3, hj3, rr3, G3, hm3, hG3, t⟩ := t
    obtain ⟨rfl, t⟩ := t
    refine xw_callv (dk := j3) (o := 104) (as := [vi (y2), vi (x4), vi ((-1))]) (show xlook 82 107 = some (107, .invokevirtual 61, 3, 85, 4, 0, 94) from xlk (by decide +kernel)) (by decide) hj3 ⟨Nat.le_of_ble_eq_true rfl, Nat.le_of_ble_eq_true rfl, Nat.le_of_ble_eq_true rfl⟩ ⟨xob_10.1, xob_10.2, by decide⟩ rfl hm3 (n := 110) rfl ?_
    show xW X d 82 110 [.ref (104), .ref (o1), .ref (o2), vi (x3), vi (x4), w5] [] G3 (xqv Q)
    refine xw_iinc (n := 113) (show xlook 82 110 = some (110, .iinc 4 1, 3, 0, 0, 0, 0) from xlk (by decide +kernel)) rfl (ls' := [.ref (104), .ref (o1), .ref (o2), vi (x3), vi (x4 + 1), w5]) rfl rfl ?_
    refine xw_goto (m := 66) (show xlook 82 113 = some (113, .goto (-47), 3, 66, 0, 0, 0) from xlk (by decide +kernel)) rfl ?_
    exact t hG3

theorem s82_116 {X : List Int32} {d : Nat} {F : XF} {Q : XF → Prop} {o1 : Nat} {o2 : Nat} {x3 : Int} {w4 : Value} {w5 : Value} (hPT : xPT F) (h1 : xob 9 o1) (h2 : xob 6 o2) (t : inR ((F) (104) 1) ∧ ((((2) ≤ ((F) (104) 1)) → (xPT (F) → Q (F))) ∧ (¬ ((2) ≤ ((F) (104) 1)) → (inR (x3) ∧ ((((x3) < (2)) → (xPT (F) → Q (F))) ∧ (¬ ((x3) < (2)) → (∃ (j1 : Nat), j1 < d ∧ xMV X j1 83 [.ref (104), vi (2)] (F) (fun (G1 : XF) => (xPT (G1) → xW X d 82 137 [.ref (104), .ref (o1), .ref (o2), vi (x3), vi (0), w5] [] (G1) (xqv Q)))))))))) : xW X d 82 116 [.ref (104), .ref (o1), .ref (o2), vi (x3), w4, w5] [] F (xqv Q) := by
  refine xw_aload_n (n := 117) (show xlook 82 116 = some (116, .aload_n 0, 1, 0, 0, 0, 0) from xlk (by decide +kernel)) rfl rfl ?_
  refine xw_geti (show xlook 82 117 = some (117, .getfield 18, 3, 10, 1, 0, 146) from xlk (by decide +kernel)) (by decide) (xobf xob_10 (by decide) (by decide)) rfl (n := 120) rfl ?_
  refine xw_iconst (n := 121) (show xlook 82 120 = some (120, .iconst 2, 1, 0, 0, 0, 0) from xlk (by decide +kernel)) rfl ?_
  obtain ⟨q0, t⟩ := t
  refine xw_icmp_ge (n := 124) (m := 219) (show xlook 82 121 = some (121, .if_icmp .ge 98, 3, 219, 0, 0, 0) from xlk (by decide +kernel)) rfl rfl q0 ⟨by decide, by decide⟩ ⟨fun c => ?_, fun c => ?_⟩
  · replace t := t.1 c
    exact xw_return hPT (show xlook 82 219 = some (219, .return_, 1, 0, 0, 0, 0) from xlk (by decide +kernel)) rfl (t hPT)
  · replace t := t.2 c
    refine xw_iload_n (n := 125) (show xlook 82 124 = some (124, .iload_n 3, 1, 0, 0, 0, 0) from xlk (by decide +kernel)) rfl rfl ?_
    refine xw_iconst (n := 126) (show xlook 82 125 = some (125, .iconst 2, 1, 0, 0, 0, 0) from xlk (by decide +kernel)) rfl ?_
    obtain ⟨q0, t⟩ := t
    refine xw_icmp_lt (n := 129) (m := 219) (show xlook 82 126 = some (126, .if_icmp .lt 93, 3, 219, 0, 0, 0) from xlk (by decide +kernel)) rfl rfl q0 ⟨by decide, by decide⟩ ⟨fun c => ?_, fun c => ?_⟩
    · replace t := t.1 c
      exact xw_return hPT (show xlook 82 219 = some (219, .return_, 1, 0, 0, 0, 0) from xlk (by decide +kernel)) rfl (t hPT)
    · replace t := t.2 c
      refine xw_aload_n (n := 130) (show xlook 82 129 = some (129, .aload_n 0, 1, 0, 0, 0, 0) from xlk (by decide +kernel)) rfl rfl ?_
      refine xw_iconst (n := 131) (show xlook 82 130 = some (130, .iconst 2, 1, 0, 0, 0, 0) from xlk (by decide +kernel)) rfl ?_
      obtain ⟨j1, hj1, rr1, G1, hm1, hG1, t⟩ := t
      obtain ⟨rfl, t⟩ := t
      refine xw_callv (dk := j1) (o := 104) (as := [vi (2)]) (show xlook 82 131 = some (131, .invokevirtual 48, 3, 83, 2, 0, 92) from xlk (by decide +kernel)) (by decide) hj1 ⟨Nat.le_of_ble_eq_true rfl, Nat.le_of_ble_eq_true rfl, Nat.le_of_ble_eq_true rfl⟩ ⟨xob_10.1, xob_10.2, by decide⟩ rfl hm1 (n := 134) rfl ?_
      show xW X d 82 134 [.ref (104), .ref (o1), .ref (o2), vi (x3), w4, w5] [] G1 (xqv Q)
      refine xw_iconst (n := 135) (show xlook 82 134 = some (134, .iconst 0, 1, 0, 0, 0, 0) from xlk (by decide +kernel)) rfl ?_
      refine xw_istore (n := 137) (show xlook 82 135 = some (135, .istore 4, 2, 0, 0, 0, 0) from xlk (by decide +kernel)) rfl (ls' := [.ref (104), .ref (o1), .ref (o2), vi (x3), vi (0), w5]) (Nat.le_of_ble_eq_true rfl) rfl ?_
      exact t hG1

theorem s82_137 {X : List Int32} {d : Nat} {F : XF} {Q : XF → Prop} {o1 : Nat} {o2 : Nat} {x3 : Int} {x4 : Int} {w5 : Value} (hPT : xPT F) (h1 : xob 9 o1) (h2 : xob 6 o2) (t : inR (x4) ∧ inR (((F) (105) 6) - (1)) ∧ ((((((F) (105) 6) - (1)) ≤ (x4)) → (xPT (F) → Q (F))) ∧ (¬ ((((F) (105) 6) - (1)) ≤ (x4)) → (xPT (F) → xW X d 82 157 [.ref (104), .ref (o1), .ref (o2), vi (x3), vi (x4), vi ((x4) + (1))] [] (F) (xqv Q))))) : xW X d 82 137 [.ref (104), .ref (o1), .ref (o2), vi (x3), vi (x4), w5] [] F (xqv Q) := by
  refine xw_iload (n := 139) (show xlook 82 137 = some (137, .iload 4, 2, 0, 0, 0, 0) from xlk (by decide +kernel)) rfl rfl ?_
  refine xw_aload_n (n := 140) (show xlook 82 139 = some (139, .aload_n 0, 1, 0, 0, 0, 0) from xlk (by decide +kernel)) rfl rfl ?_
  refine xw_getr (q := 105) (show xlook 82 140 = some (140, .getfield 12, 3, 10, 0, 0, 145) from xlk (by decide +kernel)) (by decide) (xobf xob_10 (by decide) (by decide)) rfl (xPT_get (k := 0) (f := 1) hPT xob_10 (by decide)) (by have := (xtg_10_0 _ xob_10.1 xob_10.2).1; omega) (n := 143) rfl ?_
  refine xw_geti (show xlook 82 143 = some (143, .getfield 65, 3, 9, 6, 0, 154) from xlk (by decide +kernel)) (by decide) (xobf (xtg_10_0 _ xob_10.1 xob_10.2) (by decide) (by decide)) rfl (n := 146) rfl ?_
  refine xw_iconst (n := 147) (show xlook 82 146 = some (146, .iconst 1, 1, 0, 0, 0, 0) from xlk (by decide +kernel)) rfl ?_
  refine xw_isub (n := 148) (show xlook 82 147 = some (147, .isub, 1, 0, 0, 0, 0) from xlk (by decide +kernel)) rfl ?_
  obtain ⟨q0, q1, t⟩ := t
  refine xw_icmp_ge (n := 151) (m := 219) (show xlook 82 148 = some (148, .if_icmp .ge 71, 3, 219, 0, 0, 0) from xlk (by decide +kernel)) rfl rfl q0 q1 ⟨fun c => ?_, fun c => ?_⟩
  · replace t := t.1 c
    exact xw_return hPT (show xlook 82 219 = some (219, .return_, 1, 0, 0, 0, 0) from xlk (by decide +kernel)) rfl (t hPT)
  · replace t := t.2 c
    refine xw_iload (n := 153) (show xlook 82 151 = some (151, .iload 4, 2, 0, 0, 0, 0) from xlk (by decide +kernel)) rfl rfl ?_
    refine xw_iconst (n := 154) (show xlook 82 153 = some (153, .iconst 1, 1, 0, 0, 0, 0) from xlk (by decide +kernel)) rfl ?_
    refine xw_iadd (n := 155) (show xlook 82 154 = some (154, .iadd, 1, 0, 0, 0, 0) from xlk (by decide +kernel)) rfl ?_
    refine xw_istore (n := 157) (show xlook 82 155 = some (155, .istore 5, 2, 0, 0, 0, 0) from xlk (by decide +kernel)) rfl (ls' := [.ref (104), .ref (o1), .ref (o2), vi (x3), vi (x4), vi ((x4) + (1))]) (Nat.le_of_ble_eq_true rfl) rfl ?_
    exact t hPT

theorem s82_157 {X : List Int32} {d : Nat} {F : XF} {Q : XF → Prop} {o1 : Nat} {o2 : Nat} {x3 : Int} {x4 : Int} {x5 : Int} (hPT : xPT F) (h1 : xob 9 o1) (h2 : xob 6 o2) (t : inR (x5) ∧ inR (((F) (105) 6) - (1)) ∧ ((((((F) (105) 6) - (1)) ≤ (x5)) → (xPT (F) → xW X d 82 137 [.ref (104), .ref (o1), .ref (o2), vi (x3), vi (x4 + 1), vi (x5)] [] (F) (xqv Q))) ∧ (¬ ((((F) (105) 6) - (1)) ≤ (x5)) → (∃ (j1 : Nat), j1 < d ∧ xMI X j1 84 [.ref (104)] (xup (F) (105) 8 (xior (xshl (1) (x4)) (xshl (1) (x5)))) (fun (y1 : Int) (G1 : XF) => (∃ (j2 : Nat), j2 < d ∧ xMI X j2 57 [.ref (o2), .ref (105), vi (y1)] (G1) (fun (y2 : Int) (G2 : XF) => (∃ (j3 : Nat), j3 < d ∧ xMV X j3 85 [.ref (104), vi (y2), vi (x4), vi (x5)] (G2) (fun (G3 : XF) => (xPT (G3) → xW X d 82 157 [.ref (104), .ref (o1), .ref (o2), vi (x3), vi (x4), vi (x5 + 1)] [] (G3) (xqv Q))))))))))) : xW X d 82 157 [.ref (104), .ref (o1), .ref (o2), vi (x3), vi (x4), vi (x5)] [] F (xqv Q) := by
  refine xw_iload (n := 159) (show xlook 82 157 = some (157, .iload 5, 2, 0, 0, 0, 0) from xlk (by decide +kernel)) rfl rfl ?_
  refine xw_aload_n (n := 160) (show xlook 82 159 = some (159, .aload_n 0, 1, 0, 0, 0, 0) from xlk (by decide +kernel)) rfl rfl ?_
  refine xw_getr (q := 105) (show xlook 82 160 = some (160, .getfield 12, 3, 10, 0, 0, 145) from xlk (by decide +kernel)) (by decide) (xobf xob_10 (by decide) (by decide)) rfl (xPT_get (k := 0) (f := 1) hPT xob_10 (by decide)) (by have := (xtg_10_0 _ xob_10.1 xob_10.2).1; omega) (n := 163) rfl ?_
  refine xw_geti (show xlook 82 163 = some (163, .getfield 65, 3, 9, 6, 0, 154) from xlk (by decide +kernel)) (by decide) (xobf (xtg_10_0 _ xob_10.1 xob_10.2) (by decide) (by decide)) rfl (n := 166) rfl ?_
  refine xw_iconst (n := 167) (show xlook 82 166 = some (166, .iconst 1, 1, 0, 0, 0, 0) from xlk (by decide +kernel)) rfl ?_
  refine xw_isub (n := 168) (show xlook 82 167 = some (167, .isub, 1, 0, 0, 0, 0) from xlk (by decide +kernel)) rfl ?_
  obtain ⟨q0, q1, t⟩ := t
  refine xw_icmp_ge (n := 171) (m := 213) (show xlook 82 168 = some (168, .if_icmp .ge 45, 3, 213, 0, 0, 0) from xlk (by decide +kernel)) rfl rfl q0 q1 ⟨fun c => ?_, fun c => ?_⟩
  · replace t := t.1 c
    refine xw_iinc (n := 216) (show xlook 82 213 = some (213, .iinc 4 1, 3, 0, 0, 0, 0) from xlk (by decide +kernel)) rfl (ls' := [.ref (104), .ref (o1), .ref (o2), vi (x3), vi (x4 + 1), vi (x5)]) rfl rfl ?_
    refine xw_goto (m := 137) (show xlook 82 216 = some (216, .goto (-79), 3, 137, 0, 0, 0) from xlk (by decide +kernel)) rfl ?_
    exact t hPT
  · replace t := t.2 c
    refine xw_aload_n (n := 172) (show xlook 82 171 = some (171, .aload_n 0, 1, 0, 0, 0, 0) from xlk (by decide +kernel)) rfl rfl ?_
    refine xw_getr (q := 105) (show xlook 82 172 = some (172, .getfield 12, 3, 10, 0, 0, 145) from xlk (by decide +kernel)) (by decide) (xobf xob_10 (by decide) (by decide)) rfl (xPT_get (k := 0) (f := 1) hPT xob_10 (by decide)) (by have := (xtg_10_0 _ xob_10.1 xob_10.2).1; omega) (n := 175) rfl ?_
    refine xw_iconst (n := 176) (show xlook 82 175 = some (175, .iconst 1, 1, 0, 0, 0, 0) from xlk (by decide +kernel)) rfl ?_
    refine xw_iload (n := 178) (show xlook 82 176 = some (176, .iload 4, 2, 0, 0, 0, 0) from xlk (by decide +kernel)) rfl rfl ?_
    refine xw_ishl (n := 179) (show xlook 82 178 = some (178, .ishl, 1, 0, 0, 0, 0) from xlk (by decide +kernel)) rfl ?_
    refine xw_iconst (n := 180) (show xlook 82 179 = some (179, .iconst 1, 1, 0, 0, 0, 0) from xlk (by decide +kernel)) rfl ?_
    refine xw_iload (n := 182) (show xlook 82 180 = some (180, .iload 5, 2, 0, 0, 0, 0) from xlk (by decide +kernel)) rfl rfl ?_
    refine xw_ishl (n := 183) (show xlook 82 182 = some (182, .ishl, 1, 0, 0, 0, 0) from xlk (by decide +kernel)) rfl ?_
    refine xw_ior (n := 184) (show xlook 82 183 = some (183, .ior, 1, 0, 0, 0, 0) from xlk (by decide +kernel)) rfl ?_
    refine xw_puti (show xlook 82 184 = some (184, .putfield 52, 3, 9, 8, 0, 153) from xlk (by decide +kernel)) (xobf (xtg_10_0 _ xob_10.1 xob_10.2) (by decide) (by decide)) rfl (n := 187) rfl ?_
    refine xw_aload_n (n := 188) (show xlook 82 187 = some (187, .aload_n 0, 1, 0, 0, 0, 0) from xlk (by decide +kernel)) rfl rfl ?_
    refine xw_aload_n (n := 189) (show xlook 82 188 = some (188, .aload_n 2, 1, 0, 0, 0, 0) from xlk (by decide +kernel)) rfl rfl ?_
    refine xw_aload_n (n := 190) (show xlook 82 189 = some (189, .aload_n 0, 1, 0, 0, 0, 0) from xlk (by decide +kernel)) rfl rfl ?_
    refine xw_getr (q := 105) (show xlook 82 190 = some (190, .getfield 12, 3, 10, 0, 0, 145) from xlk (by decide +kernel)) (by decide) (xobf xob_10 (by decide) (by decide)) rfl (xPT_get (k := 0) (f := 1) (xPT_fld (k := 8) hPT (xtg_10_0 _ xob_10.1 xob_10.2) (by decide) (by decide)) xob_10 (by decide)) (by have := (xtg_10_0 _ xob_10.1 xob_10.2).1; omega) (n := 193) rfl ?_
    refine xw_aload_n (n := 194) (show xlook 82 193 = some (193, .aload_n 0, 1, 0, 0, 0, 0) from xlk (by decide +kernel)) rfl rfl ?_
    obtain ⟨j1, hj1, rr1, G1, hm1, hG1, t⟩ := t
    obtain ⟨y1, rfl, t⟩ := t
    refine xw_callv (dk := j1) (o := 104) (as := []) (show xlook 82 194 = some (194, .invokevirtual 68, 3, 84, 1, 0, 95) from xlk (by decide +kernel)) (by decide) hj1 ⟨Nat.le_of_ble_eq_true rfl, Nat.le_of_ble_eq_true rfl, Nat.le_of_ble_eq_true rfl⟩ ⟨xob_10.1, xob_10.2, by decide⟩ rfl hm1 (n := 197) rfl ?_
    show xW X d 82 197 [.ref (104), .ref (o1), .ref (o2), vi (x3), vi (x4), vi (x5)] [vi (y1), .ref (105), .ref (o2), .ref (104)] G1 (xqv Q)
    obtain ⟨j2, hj2, rr2, G2, hm2, hG2, t⟩ := t
    obtain ⟨y2, rfl, t⟩ := t
    refine xw_callv (dk := j2) (o := o2) (as := [.ref (105), vi (y1)]) (show xlook 82 197 = some (197, .invokevirtual 55, 3, 57, 3, 0, 93) from xlk (by decide +kernel)) (by decide) hj2 ⟨Nat.le_of_ble_eq_true rfl, Nat.le_of_ble_eq_true rfl, Nat.le_of_ble_eq_true rfl⟩ ⟨h2.1, h2.2, by decide⟩ rfl hm2 (n := 200) rfl ?_
    show xW X d 82 200 [.ref (104), .ref (o1), .ref (o2), vi (x3), vi (x4), vi (x5)] [vi (y2), .ref (104)] G2 (xqv Q)
    refine xw_iload (n := 202) (show xlook 82 200 = some (200, .iload 4, 2, 0, 0, 0, 0) from xlk (by decide +kernel)) rfl rfl ?_
    refine xw_iload (n := 204) (show xlook 82 202 = some (202, .iload 5, 2, 0, 0, 0, 0) from xlk (by decide +kernel)) rfl rfl ?_
    obtain ⟨j3, hj3, rr3, G3, hm3, hG3, t⟩ := t
    obtain ⟨rfl, t⟩ := t
    refine xw_callv (dk := j3) (o := 104) (as := [vi (y2), vi (x4), vi (x5)]) (show xlook 82 204 = some (204, .invokevirtual 61, 3, 85, 4, 0, 94) from xlk (by decide +kernel)) (by decide) hj3 ⟨Nat.le_of_ble_eq_true rfl, Nat.le_of_ble_eq_true rfl, Nat.le_of_ble_eq_true rfl⟩ ⟨xob_10.1, xob_10.2, by decide⟩ rfl hm3 (n := 207) rfl ?_
    show xW X d 82 207 [.ref (104), .ref (o1), .ref (o2), vi (x3), vi (x4), vi (x5)] [] G3 (xqv Q)
    refine xw_iinc (n := 210) (show xlook 82 207 = some (207, .iinc 5 1, 3, 0, 0, 0, 0) from xlk (by decide +kernel)) rfl (ls' := [.ref (104), .ref (o1), .ref (o2), vi (x3), vi (x4), vi (x5 + 1)]) rfl rfl ?_
    refine xw_goto (m := 157) (show xlook 82 210 = some (210, .goto (-53), 3, 157, 0, 0, 0) from xlk (by decide +kernel)) rfl ?_
    exact t hG3

theorem s83_0 {X : List Int32} {d : Nat} {F : XF} {Q : XF → Prop} {x1 : Int} {w2 : Value} (hPT : xPT F)  (t : inR (x1) ∧ ((((x1) ≤ (0)) → ((0 ≤ (x1) ∧ (x1) < 3) ∧ ((0 ≤ (x1) ∧ (x1) < 3) ∧ ((0 ≤ (x1) ∧ (x1) < 3) ∧ (xPT (xup (xup (xup (xup (F) (122) (x1) ((-1))) (123) (x1) ((-1))) (124) (x1) ((-1))) (104) 1 (x1)) → Q (xup (xup (xup (xup (F) (122) (x1) ((-1))) (123) (x1) ((-1))) (124) (x1) ((-1))) (104) 1 (x1))))))) ∧ (¬ ((x1) ≤ (0)) → ((0 ≤ ((x1) - (1)) ∧ ((x1) - (1)) < 3) ∧ ((0 ≤ (x1) ∧ (x1) < 3) ∧ ((0 ≤ ((x1) - (1)) ∧ ((x1) - (1)) < 3) ∧ ((0 ≤ (x1) ∧ (x1) < 3) ∧ ((0 ≤ (x1) ∧ (x1) < 3) ∧ (xPT (xup (xup (xup (xup (F) (122) (x1) ((F) (122) ((x1) - (1)))) (123) (x1) ((F) (123) ((x1) - (1)))) (124) (x1) ((-1))) (104) 1 (x1)) → Q (xup (xup (xup (xup (F) (122) (x1) ((F) (122) ((x1) - (1)))) (123) (x1) ((F) (123) ((x1) - (1)))) (124) (x1) ((-1))) (104) 1 (x1))))))))))) : xW X d 83 0 [.ref (104), vi (x1), w2] [] F (xqv Q) := by
  refine xw_iload_n (n := 1) (show xlook 83 0 = some (0, .iload_n 1, 1, 0, 0, 0, 0) from xlk (by decide +kernel)) rfl rfl ?_
  obtain ⟨q0, t⟩ := t
  refine xw_if_le (n := 4) (m := 8) (show xlook 83 1 = some (1, .ifCond .le 7, 3, 8, 0, 0, 0) from xlk (by decide +kernel)) rfl rfl q0 ⟨fun c => ?_, fun c => ?_⟩
  · replace t := t.1 c
    refine xw_iconst (n := 9) (show xlook 83 8 = some (8, .iconst 0, 1, 0, 0, 0, 0) from xlk (by decide +kernel)) rfl ?_
    refine xw_istore_n (n := 10) (show xlook 83 9 = some (9, .istore_n 2, 1, 0, 0, 0, 0) from xlk (by decide +kernel)) rfl (ls' := [.ref (104), vi (x1), vi (0)]) (Nat.le_of_ble_eq_true rfl) rfl ?_
    refine xw_aload_n (n := 11) (show xlook 83 10 = some (10, .aload_n 0, 1, 0, 0, 0, 0) from xlk (by decide +kernel)) rfl rfl ?_
    refine xw_getr (q := 122) (show xlook 83 11 = some (11, .getfield 22, 3, 10, 2, 0, 147) from xlk (by decide +kernel)) (by decide) (xobf xob_10 (by decide) (by decide)) rfl (xPT_get (k := 2) (f := 18) hPT xob_10 (by decide)) (by have := (xtg_10_2 _ xob_10.1 xob_10.2).1.1; omega) (n := 14) rfl ?_
    refine xw_iload_n (n := 15) (show xlook 83 14 = some (14, .iload_n 1, 1, 0, 0, 0, 0) from xlk (by decide +kernel)) rfl rfl ?_
    refine xw_iload_n (n := 16) (show xlook 83 15 = some (15, .iload_n 2, 1, 0, 0, 0, 0) from xlk (by decide +kernel)) rfl rfl ?_
    refine xw_if_eq (n := 19) (m := 30) (show xlook 83 16 = some (16, .ifCond .eq 14, 3, 30, 0, 0, 0) from xlk (by decide +kernel)) rfl rfl ⟨by decide, by decide⟩ ⟨fun _ => ?_, fun c => absurd c (by decide)⟩
    refine xw_iconst (n := 31) (show xlook 83 30 = some (30, .iconst (-1), 1, 0, 0, 0, 0) from xlk (by decide +kernel)) rfl ?_
    obtain ⟨q1, t⟩ := t
    refine xw_iast (show xlook 83 31 = some (31, .iastore, 1, 0, 0, 0, 0) from xlk (by decide +kernel)) (xtg_10_2 _ xob_10.1 xob_10.2).1 (by rw [(xtg_10_2 _ xob_10.1 xob_10.2).2]; exact q1) (n := 32) rfl ?_
    refine xw_aload_n (n := 33) (show xlook 83 32 = some (32, .aload_n 0, 1, 0, 0, 0, 0) from xlk (by decide +kernel)) rfl rfl ?_
    refine xw_getr (q := 123) (show xlook 83 33 = some (33, .getfield 26, 3, 10, 3, 0, 148) from xlk (by decide +kernel)) (by decide) (xobf xob_10 (by decide) (by decide)) rfl (xPT_get (k := 3) (f := 19) (xPT_arr hPT (Or.inl (xtg_10_2 _ xob_10.1 xob_10.2).1.2)) xob_10 (by decide)) (by have := (xtg_10_3 _ xob_10.1 xob_10.2).1.1; omega) (n := 36) rfl ?_
    refine xw_iload_n (n := 37) (show xlook 83 36 = some (36, .iload_n 1, 1, 0, 0, 0, 0) from xlk (by decide +kernel)) rfl rfl ?_
    refine xw_iload_n (n := 38) (show xlook 83 37 = some (37, .iload_n 2, 1, 0, 0, 0, 0) from xlk (by decide +kernel)) rfl rfl ?_
    refine xw_if_eq (n := 41) (m := 52) (show xlook 83 38 = some (38, .ifCond .eq 14, 3, 52, 0, 0, 0) from xlk (by decide +kernel)) rfl rfl ⟨by decide, by decide⟩ ⟨fun _ => ?_, fun c => absurd c (by decide)⟩
    refine xw_iconst (n := 53) (show xlook 83 52 = some (52, .iconst (-1), 1, 0, 0, 0, 0) from xlk (by decide +kernel)) rfl ?_
    obtain ⟨q1, t⟩ := t
    refine xw_iast (show xlook 83 53 = some (53, .iastore, 1, 0, 0, 0, 0) from xlk (by decide +kernel)) (xtg_10_3 _ xob_10.1 xob_10.2).1 (by rw [(xtg_10_3 _ xob_10.1 xob_10.2).2]; exact q1) (n := 54) rfl ?_
    refine xw_aload_n (n := 55) (show xlook 83 54 = some (54, .aload_n 0, 1, 0, 0, 0, 0) from xlk (by decide +kernel)) rfl rfl ?_
    refine xw_getr (q := 124) (show xlook 83 55 = some (55, .getfield 29, 3, 10, 4, 0, 149) from xlk (by decide +kernel)) (by decide) (xobf xob_10 (by decide) (by decide)) rfl (xPT_get (k := 4) (f := 20) (xPT_arr (xPT_arr hPT (Or.inl (xtg_10_2 _ xob_10.1 xob_10.2).1.2)) (Or.inl (xtg_10_3 _ xob_10.1 xob_10.2).1.2)) xob_10 (by decide)) (by have := (xtg_10_4 _ xob_10.1 xob_10.2).1.1; omega) (n := 58) rfl ?_
    refine xw_iload_n (n := 59) (show xlook 83 58 = some (58, .iload_n 1, 1, 0, 0, 0, 0) from xlk (by decide +kernel)) rfl rfl ?_
    refine xw_iconst (n := 60) (show xlook 83 59 = some (59, .iconst (-1), 1, 0, 0, 0, 0) from xlk (by decide +kernel)) rfl ?_
    obtain ⟨q1, t⟩ := t
    refine xw_iast (show xlook 83 60 = some (60, .iastore, 1, 0, 0, 0, 0) from xlk (by decide +kernel)) (xtg_10_4 _ xob_10.1 xob_10.2).1 (by rw [(xtg_10_4 _ xob_10.1 xob_10.2).2]; exact q1) (n := 61) rfl ?_
    refine xw_aload_n (n := 62) (show xlook 83 61 = some (61, .aload_n 0, 1, 0, 0, 0, 0) from xlk (by decide +kernel)) rfl rfl ?_
    refine xw_iload_n (n := 63) (show xlook 83 62 = some (62, .iload_n 1, 1, 0, 0, 0, 0) from xlk (by decide +kernel)) rfl rfl ?_
    refine xw_puti (show xlook 83 63 = some (63, .putfield 18, 3, 10, 1, 0, 146) from xlk (by decide +kernel)) (xobf xob_10 (by decide) (by decide)) rfl (n := 66) rfl ?_
    exact xw_return (xPT_fld (k := 1) (xPT_arr (xPT_arr (xPT_arr hPT (Or.inl (xtg_10_2 _ xob_10.1 xob_10.2).1.2)) (Or.inl (xtg_10_3 _ xob_10.1 xob_10.2).1.2)) (Or.inl (xtg_10_4 _ xob_10.1 xob_10.2).1.2)) xob_10 (by decide) (by decide)) (show xlook 83 66 = some (66, .return_, 1, 0, 0, 0, 0) from xlk (by decide +kernel)) rfl (t (xPT_fld (k := 1) (xPT_arr (xPT_arr (xPT_arr hPT (Or.inl (xtg_10_2 _ xob_10.1 xob_10.2).1.2)) (Or.inl (xtg_10_3 _ xob_10.1 xob_10.2).1.2)) (Or.inl (xtg_10_4 _ xob_10.1 xob_10.2).1.2)) xob_10 (by decide) (by decide)))
  · replace t := t.2 c
    refine xw_iconst (n := 5) (show xlook 83 4 = some (4, .iconst 1, 1, 0, 0, 0, 0) from xlk (by decide +kernel)) rfl ?_
    refine xw_goto (m := 9) (show xlook 83 5 = some (5, .goto 4, 3, 9, 0, 0, 0) from xlk (by decide +kernel)) rfl ?_
    refine xw_istore_n (n := 10) (show xlook 83 9 = some (9, .istore_n 2, 1, 0, 0, 0, 0) from xlk (by decide +kernel)) rfl (ls' := [.ref (104), vi (x1), vi (1)]) (Nat.le_of_ble_eq_true rfl) rfl ?_
    refine xw_aload_n (n := 11) (show xlook 83 10 = some (10, .aload_n 0, 1, 0, 0, 0, 0) from xlk (by decide +kernel)) rfl rfl ?_
    refine xw_getr (q := 122) (show xlook 83 11 = some (11, .getfield 22, 3, 10, 2, 0, 147) from xlk (by decide +kernel)) (by decide) (xobf xob_10 (by decide) (by decide)) rfl (xPT_get (k := 2) (f := 18) hPT xob_10 (by decide)) (by have := (xtg_10_2 _ xob_10.1 xob_10.2).1.1; omega) (n := 14) rfl ?_
    refine xw_iload_n (n := 15) (show xlook 83 14 = some (14, .iload_n 1, 1, 0, 0, 0, 0) from xlk (by decide +kernel)) rfl rfl ?_
    refine xw_iload_n (n := 16) (show xlook 83 15 = some (15, .iload_n 2, 1, 0, 0, 0, 0) from xlk (by decide +kernel)) rfl rfl ?_
    refine xw_if_eq (n := 19) (m := 30) (show xlook 83 16 = some (16, .ifCond .eq 14, 3, 30, 0, 0, 0) from xlk (by decide +kernel)) rfl rfl ⟨by decide, by decide⟩ ⟨fun c => absurd c (by decide), fun _ => ?_⟩
    refine xw_aload_n (n := 20) (show xlook 83 19 = some (19, .aload_n 0, 1, 0, 0, 0, 0) from xlk (by decide +kernel)) rfl rfl ?_
    refine xw_getr (q := 122) (show xlook 83 20 = some (20, .getfield 22, 3, 10, 2, 0, 147) from xlk (by decide +kernel)) (by decide) (xobf xob_10 (by decide) (by decide)) rfl (xPT_get (k := 2) (f := 18) hPT xob_10 (by decide)) (by have := (xtg_10_2 _ xob_10.1 xob_10.2).1.1; omega) (n := 23) rfl ?_
    refine xw_iload_n (n := 24) (show xlook 83 23 = some (23, .iload_n 1, 1, 0, 0, 0, 0) from xlk (by decide +kernel)) rfl rfl ?_
    refine xw_iconst (n := 25) (show xlook 83 24 = some (24, .iconst 1, 1, 0, 0, 0, 0) from xlk (by decide +kernel)) rfl ?_
    refine xw_isub (n := 26) (show xlook 83 25 = some (25, .isub, 1, 0, 0, 0, 0) from xlk (by decide +kernel)) rfl ?_
    obtain ⟨q1, t⟩ := t
    refine xw_iald (show xlook 83 26 = some (26, .iaload, 1, 0, 0, 0, 0) from xlk (by decide +kernel)) (xtg_10_2 _ xob_10.1 xob_10.2).1 (by rw [(xtg_10_2 _ xob_10.1 xob_10.2).2]; exact q1) (n := 27) rfl ?_
    refine xw_goto (m := 31) (show xlook 83 27 = some (27, .goto 4, 3, 31, 0, 0, 0) from xlk (by decide +kernel)) rfl ?_
    obtain ⟨q1, t⟩ := t
    refine xw_iast (show xlook 83 31 = some (31, .iastore, 1, 0, 0, 0, 0) from xlk (by decide +kernel)) (xtg_10_2 _ xob_10.1 xob_10.2).1 (by rw [(xtg_10_2 _ xob_10.1 xob_10.2).2]; exact q1) (n := 32) rfl ?_
    refine xw_aload_n (n := 33) (show xlook 83 32 = some (32, .aload_n 0, 1, 0, 0, 0, 0) from xlk (by decide +kernel)) rfl rfl ?_
    refine xw_getr (q := 123) (show xlook 83 33 = some (33, .getfield 26, 3, 10, 3, 0, 148) from xlk (by decide +kernel)) (by decide) (xobf xob_10 (by decide) (by decide)) rfl (xPT_get (k := 3) (f := 19) (xPT_arr hPT (Or.inl (xtg_10_2 _ xob_10.1 xob_10.2).1.2)) xob_10 (by decide)) (by have := (xtg_10_3 _ xob_10.1 xob_10.2).1.1; omega) (n := 36) rfl ?_
    refine xw_iload_n (n := 37) (show xlook 83 36 = some (36, .iload_n 1, 1, 0, 0, 0, 0) from xlk (by decide +kernel)) rfl rfl ?_
    refine xw_iload_n (n := 38) (show xlook 83 37 = some (37, .iload_n 2, 1, 0, 0, 0, 0) from xlk (by decide +kernel)) rfl rfl ?_
    refine xw_if_eq (n := 41) (m := 52) (show xlook 83 38 = some (38, .ifCond .eq 14, 3, 52, 0, 0, 0) from xlk (by decide +kernel)) rfl rfl ⟨by decide, by decide⟩ ⟨fun c => absurd c (by decide), fun _ => ?_⟩
    refine xw_aload_n (n := 42) (show xlook 83 41 = some (41, .aload_n 0, 1, 0, 0, 0, 0) from xlk (by decide +kernel)) rfl rfl ?_
    refine xw_getr (q := 123) (show xlook 83 42 = some (42, .getfield 26, 3, 10, 3, 0, 148) from xlk (by decide +kernel)) (by decide) (xobf xob_10 (by decide) (by decide)) rfl (xPT_get (k := 3) (f := 19) (xPT_arr hPT (Or.inl (xtg_10_2 _ xob_10.1 xob_10.2).1.2)) xob_10 (by decide)) (by have := (xtg_10_3 _ xob_10.1 xob_10.2).1.1; omega) (n := 45) rfl ?_
    refine xw_iload_n (n := 46) (show xlook 83 45 = some (45, .iload_n 1, 1, 0, 0, 0, 0) from xlk (by decide +kernel)) rfl rfl ?_
    refine xw_iconst (n := 47) (show xlook 83 46 = some (46, .iconst 1, 1, 0, 0, 0, 0) from xlk (by decide +kernel)) rfl ?_
    refine xw_isub (n := 48) (show xlook 83 47 = some (47, .isub, 1, 0, 0, 0, 0) from xlk (by decide +kernel)) rfl ?_
    obtain ⟨q1, t⟩ := t
    refine xw_iald2 (u := (F) (123) ((x1) - (1))) (show xlook 83 48 = some (48, .iaload, 1, 0, 0, 0, 0) from xlk (by decide +kernel)) (xtg_10_3 _ xob_10.1 xob_10.2).1 (by rw [(xtg_10_3 _ xob_10.1 xob_10.2).2]; exact q1) (xup_o (by decide)) (n := 49) rfl ?_
    refine xw_goto (m := 53) (show xlook 83 49 = some (49, .goto 4, 3, 53, 0, 0, 0) from xlk (by decide +kernel)) rfl ?_
    obtain ⟨q1, t⟩ := t
    refine xw_iast (show xlook 83 53 = some (53, .iastore, 1, 0, 0, 0, 0) from xlk (by decide +kernel)) (xtg_10_3 _ xob_10.1 xob_10.2).1 (by rw [(xtg_10_3 _ xob_10.1 xob_10.2).2]; exact q1) (n := 54) rfl ?_
    refine xw_aload_n (n := 55) (show xlook 83 54 = some (54, .aload_n 0, 1, 0, 0, 0, 0) from xlk (by decide +kernel)) rfl rfl ?_
    refine xw_getr (q := 124) (show xlook 83 55 = some (55, .getfield 29, 3, 10, 4, 0, 149) from xlk (by decide +kernel)) (by decide) (xobf xob_10 (by decide) (by decide)) rfl (xPT_get (k := 4) (f := 20) (xPT_arr (xPT_arr hPT (Or.inl (xtg_10_2 _ xob_10.1 xob_10.2).1.2)) (Or.inl (xtg_10_3 _ xob_10.1 xob_10.2).1.2)) xob_10 (by decide)) (by have := (xtg_10_4 _ xob_10.1 xob_10.2).1.1; omega) (n := 58) rfl ?_
    refine xw_iload_n (n := 59) (show xlook 83 58 = some (58, .iload_n 1, 1, 0, 0, 0, 0) from xlk (by decide +kernel)) rfl rfl ?_
    refine xw_iconst (n := 60) (show xlook 83 59 = some (59, .iconst (-1), 1, 0, 0, 0, 0) from xlk (by decide +kernel)) rfl ?_
    obtain ⟨q1, t⟩ := t
    refine xw_iast (show xlook 83 60 = some (60, .iastore, 1, 0, 0, 0, 0) from xlk (by decide +kernel)) (xtg_10_4 _ xob_10.1 xob_10.2).1 (by rw [(xtg_10_4 _ xob_10.1 xob_10.2).2]; exact q1) (n := 61) rfl ?_
    refine xw_aload_n (n := 62) (show xlook 83 61 = some (61, .aload_n 0, 1, 0, 0, 0, 0) from xlk (by decide +kernel)) rfl rfl ?_
    refine xw_iload_n (n := 63) (show xlook 83 62 = some (62, .iload_n 1, 1, 0, 0, 0, 0) from xlk (by decide +kernel)) rfl rfl ?_
    refine xw_puti (show xlook 83 63 = some (63, .putfield 18, 3, 10, 1, 0, 146) from xlk (by decide +kernel)) (xobf xob_10 (by decide) (by decide)) rfl (n := 66) rfl ?_
    exact xw_return (xPT_fld (k := 1) (xPT_arr (xPT_arr (xPT_arr hPT (Or.inl (xtg_10_2 _ xob_10.1 xob_10.2).1.2)) (Or.inl (xtg_10_3 _ xob_10.1 xob_10.2).1.2)) (Or.inl (xtg_10_4 _ xob_10.1 xob_10.2).1.2)) xob_10 (by decide) (by decide)) (show xlook 83 66 = some (66, .return_, 1, 0, 0, 0, 0) from xlk (by decide +kernel)) rfl (t (xPT_fld (k := 1) (xPT_arr (xPT_arr (xPT_arr hPT (Or.inl (xtg_10_2 _ xob_10.1 xob_10.2).1.2)) (Or.inl (xtg_10_3 _ xob_10.1 xob_10.2).1.2)) (Or.inl (xtg_10_4 _ xob_10.1 xob_10.2).1.2)) xob_10 (by decide) (by decide)))
theorem m83 {X : List Int32} {d : Nat} {F : XF} {Q : XF → Prop} {x1 : Int} (hPT : xPT F)  (t : inR (x1) ∧ ((((x1) ≤ (0)) → ((0 ≤ (x1) ∧ (x1) < 3) ∧ ((0 ≤ (x1) ∧ (x1) < 3) ∧ ((0 ≤ (x1) ∧ (x1) < 3) ∧ (xPT (xup (xup (xup (xup (F) (122) (x1) ((-1))) (123) (x1) ((-1))) (124) (x1) ((-1))) (104) 1 (x1)) → Q (xup (xup (xup (xup (F) (122) (x1) ((-1))) (123) (x1) ((-1))) (124) (x1) ((-1))) (104) 1 (x1))))))) ∧ (¬ ((x1) ≤ (0)) → ((0 ≤ ((x1) - (1)) ∧ ((x1) - (1)) < 3) ∧ ((0 ≤ (x1) ∧ (x1) < 3) ∧ ((0 ≤ ((x1) - (1)) ∧ ((x1) - (1)) < 3) ∧ ((0 ≤ (x1) ∧ (x1) < 3) ∧ ((0 ≤ (x1) ∧ (x1) < 3) ∧ (xPT (xup (xup (xup (xup (F) (122) (x1) ((F) (122) ((x1) - (1)))) (123) (x1) ((F) (123) ((x1) - (1)))) (124) (x1) ((-1))) (104) 1 (x1)) → Q (xup (xup (xup (xup (F) (122) (x1) ((F) (122) ((x1) - (1)))) (123) (x1) ((F) (123) ((x1) - (1)))) (124) (x1) ((-1))) (104) 1 (x1))))))))))) : xMV X d 83 [.ref (104), vi (x1)] F Q := by
  show xW X d 83 0 [.ref (104), vi (x1), xU0] [] F (xqv Q)
  exact s83_0 hPT  t

theorem s84_0 {X : List Int32} {d : Nat} {F : XF} {Q : Int → XF → Prop}  (hPT : xPT F)  (t : (0 ≤ ((F) (104) 1) ∧ ((F) (104) 1) < 3) ∧ (inR ((F) (122) ((F) (104) 1)) ∧ (((¬ ((F) (122) ((F) (104) 1)) = ((-1))) → ((0 ≤ ((F) (104) 1) ∧ ((F) (104) 1) < 3) ∧ (xPT (F) → Q (((F) (122) ((F) (104) 1)) - (1)) (F)))) ∧ (¬ (¬ ((F) (122) ((F) (104) 1)) = ((-1))) → (xPT (F) → Q (2000) (F)))))) : xW X d 84 0 [.ref (104)] [] F (xqi Q) := by
  refine xw_aload_n (n := 1) (show xlook 84 0 = some (0, .aload_n 0, 1, 0, 0, 0, 0) from xlk (by decide +kernel)) rfl rfl ?_
  refine xw_getr (q := 122) (show xlook 84 1 = some (1, .getfield 22, 3, 10, 2, 0, 147) from xlk (by decide +kernel)) (by decide) (xobf xob_10 (by decide) (by decide)) rfl (xPT_get (k := 2) (f := 18) hPT xob_10 (by decide)) (by have := (xtg_10_2 _ xob_10.1 xob_10.2).1.1; omega) (n := 4) rfl ?_
  refine xw_aload_n (n := 5) (show xlook 84 4 = some (4, .aload_n 0, 1, 0, 0, 0, 0) from xlk (by decide +kernel)) rfl rfl ?_
  refine xw_geti (show xlook 84 5 = some (5, .getfield 18, 3, 10, 1, 0, 146) from xlk (by decide +kernel)) (by decide) (xobf xob_10 (by decide) (by decide)) rfl (n := 8) rfl ?_
  obtain ⟨q1, t⟩ := t
  refine xw_iald (show xlook 84 8 = some (8, .iaload, 1, 0, 0, 0, 0) from xlk (by decide +kernel)) (xtg_10_2 _ xob_10.1 xob_10.2).1 (by rw [(xtg_10_2 _ xob_10.1 xob_10.2).2]; exact q1) (n := 9) rfl ?_
  refine xw_iconst (n := 10) (show xlook 84 9 = some (9, .iconst (-1), 1, 0, 0, 0, 0) from xlk (by decide +kernel)) rfl ?_
  obtain ⟨q0, t⟩ := t
  refine xw_icmp_ne (n := 13) (m := 19) (show xlook 84 10 = some (10, .if_icmp .ne 9, 3, 19, 0, 0, 0) from xlk (by decide +kernel)) rfl rfl q0 ⟨by decide, by decide⟩ ⟨fun c => ?_, fun c => ?_⟩
  · replace t := t.1 c
    refine xw_aload_n (n := 20) (show xlook 84 19 = some (19, .aload_n 0, 1, 0, 0, 0, 0) from xlk (by decide +kernel)) rfl rfl ?_
    refine xw_getr (q := 122) (show xlook 84 20 = some (20, .getfield 22, 3, 10, 2, 0, 147) from xlk (by decide +kernel)) (by decide) (xobf xob_10 (by decide) (by decide)) rfl (xPT_get (k := 2) (f := 18) hPT xob_10 (by decide)) (by have := (xtg_10_2 _ xob_10.1 xob_10.2).1.1; omega) (n := 23) rfl ?_
    refine xw_aload_n (n := 24) (show xlook 84 23 = some (23, .aload_n 0, 1, 0, 0, 0, 0) from xlk (by decide +kernel)) rfl rfl ?_
    refine xw_geti (show xlook 84 24 = some (24, .getfield 18, 3, 10, 1, 0, 146) from xlk (by decide +kernel)) (by decide) (xobf xob_10 (by decide) (by decide)) rfl (n := 27) rfl ?_
    obtain ⟨q1, t⟩ := t
    refine xw_iald (show xlook 84 27 = some (27, .iaload, 1, 0, 0, 0, 0) from xlk (by decide +kernel)) (xtg_10_2 _ xob_10.1 xob_10.2).1 (by rw [(xtg_10_2 _ xob_10.1 xob_10.2).2]; exact q1) (n := 28) rfl ?_
    refine xw_iconst (n := 29) (show xlook 84 28 = some (28, .iconst 1, 1, 0, 0, 0, 0) from xlk (by decide +kernel)) rfl ?_
    refine xw_isub (n := 30) (show xlook 84 29 = some (29, .isub, 1, 0, 0, 0, 0) from xlk (by decide +kernel)) rfl ?_
    exact xw_ireturn hPT (show xlook 84 30 = some (30, .ireturn, 1, 0, 0, 0, 0) from xlk (by decide +kernel)) rfl (t hPT)
  · replace t := t.2 c
    refine xw_sipush (n := 16) (show xlook 84 13 = some (13, .sipush 2000, 3, 0, 0, 0, 0) from xlk (by decide +kernel)) rfl (by decide) ?_
    refine xw_goto (m := 30) (show xlook 84 16 = some (16, .goto 14, 3, 30, 0, 0, 0) from xlk (by decide +kernel)) rfl ?_
    exact xw_ireturn hPT (show xlook 84 30 = some (30, .ireturn, 1, 0, 0, 0, 0) from xlk (by decide +kernel)) rfl (t hPT)
theorem m84 {X : List Int32} {d : Nat} {F : XF} {Q : Int → XF → Prop}  (hPT : xPT F)  (t : (0 ≤ ((F) (104) 1) ∧ ((F) (104) 1) < 3) ∧ (inR ((F) (122) ((F) (104) 1)) ∧ (((¬ ((F) (122) ((F) (104) 1)) = ((-1))) → ((0 ≤ ((F) (104) 1) ∧ ((F) (104) 1) < 3) ∧ (xPT (F) → Q (((F) (122) ((F) (104) 1)) - (1)) (F)))) ∧ (¬ (¬ ((F) (122) ((F) (104) 1)) = ((-1))) → (xPT (F) → Q (2000) (F)))))) : xMI X d 84 [.ref (104)] F Q := by
  show xW X d 84 0 [.ref (104)] [] F (xqi Q)
  exact s84_0 hPT  t

theorem s85_0 {X : List Int32} {d : Nat} {F : XF} {Q : XF → Prop} {x1 : Int} {x2 : Int} {x3 : Int} (hPT : xPT F)  (t : inR (x1) ∧ ((((x1) = ((-1))) → (xPT (F) → Q (F))) ∧ (¬ ((x1) = ((-1))) → ((0 ≤ ((F) (104) 1) ∧ ((F) (104) 1) < 3) ∧ ((0 ≤ ((F) (104) 1) ∧ ((F) (104) 1) < 3) ∧ ((0 ≤ ((F) (104) 1) ∧ ((F) (104) 1) < 3) ∧ (xPT (xup (xup (xup (F) (122) ((F) (104) 1) (x1)) (123) ((F) (104) 1) (x2)) (124) ((F) (104) 1) (x3)) → Q (xup (xup (xup (F) (122) ((F) (104) 1) (x1)) (123) ((F) (104) 1) (x2)) (124) ((F) (104) 1) (x3))))))))) : xW X d 85 0 [.ref (104), vi (x1), vi (x2), vi (x3)] [] F (xqv Q) := by
  refine xw_iload_n (n := 1) (show xlook 85 0 = some (0, .iload_n 1, 1, 0, 0, 0, 0) from xlk (by decide +kernel)) rfl rfl ?_
  refine xw_iconst (n := 2) (show xlook 85 1 = some (1, .iconst (-1), 1, 0, 0, 0, 0) from xlk (by decide +kernel)) rfl ?_
  obtain ⟨q0, t⟩ := t
  refine xw_icmp_eq (n := 5) (m := 35) (show xlook 85 2 = some (2, .if_icmp .eq 33, 3, 35, 0, 0, 0) from xlk (by decide +kernel)) rfl rfl q0 ⟨by decide, by decide⟩ ⟨fun c => ?_, fun c => ?_⟩
  · replace t := t.1 c
    exact xw_return hPT (show xlook 85 35 = some (35, .return_, 1, 0, 0, 0, 0) from xlk (by decide +kernel)) rfl (t hPT)
  · replace t := t.2 c
    refine xw_aload_n (n := 6) (show xlook 85 5 = some (5, .aload_n 0, 1, 0, 0, 0, 0) from xlk (by decide +kernel)) rfl rfl ?_
    refine xw_getr (q := 122) (show xlook 85 6 = some (6, .getfield 22, 3, 10, 2, 0, 147) from xlk (by decide +kernel)) (by decide) (xobf xob_10 (by decide) (by decide)) rfl (xPT_get (k := 2) (f := 18) hPT xob_10 (by decide)) (by have := (xtg_10_2 _ xob_10.1 xob_10.2).1.1; omega) (n := 9) rfl ?_
    refine xw_aload_n (n := 10) (show xlook 85 9 = some (9, .aload_n 0, 1, 0, 0, 0, 0) from xlk (by decide +kernel)) rfl rfl ?_
    refine xw_geti (show xlook 85 10 = some (10, .getfield 18, 3, 10, 1, 0, 146) from xlk (by decide +kernel)) (by decide) (xobf xob_10 (by decide) (by decide)) rfl (n := 13) rfl ?_
    refine xw_iload_n (n := 14) (show xlook 85 13 = some (13, .iload_n 1, 1, 0, 0, 0, 0) from xlk (by decide +kernel)) rfl rfl ?_
    obtain ⟨q1, t⟩ := t
    refine xw_iast (show xlook 85 14 = some (14, .iastore, 1, 0, 0, 0, 0) from xlk (by decide +kernel)) (xtg_10_2 _ xob_10.1 xob_10.2).1 (by rw [(xtg_10_2 _ xob_10.1 xob_10.2).2]; exact q1) (n := 15) rfl ?_
    refine xw_aload_n (n := 16) (show xlook 85 15 = some (15, .aload_n 0, 1, 0, 0, 0, 0) from xlk (by decide +kernel)) rfl rfl ?_
    refine xw_getr (q := 123) (show xlook 85 16 = some (16, .getfield 26, 3, 10, 3, 0, 148) from xlk (by decide +kernel)) (by decide) (xobf xob_10 (by decide) (by decide)) rfl (xPT_get (k := 3) (f := 19) (xPT_arr hPT (Or.inl (xtg_10_2 _ xob_10.1 xob_10.2).1.2)) xob_10 (by decide)) (by have := (xtg_10_3 _ xob_10.1 xob_10.2).1.1; omega) (n := 19) rfl ?_
    refine xw_aload_n (n := 20) (show xlook 85 19 = some (19, .aload_n 0, 1, 0, 0, 0, 0) from xlk (by decide +kernel)) rfl rfl ?_
    refine xw_geti2 (u := (F) (104) 1) (show xlook 85 20 = some (20, .getfield 18, 3, 10, 1, 0, 146) from xlk (by decide +kernel)) (by decide) (xobf xob_10 (by decide) (by decide)) rfl (xup_o (by decide)) (n := 23) rfl ?_
    refine xw_iload_n (n := 24) (show xlook 85 23 = some (23, .iload_n 2, 1, 0, 0, 0, 0) from xlk (by decide +kernel)) rfl rfl ?_
    obtain ⟨q1, t⟩ := t
    refine xw_iast (show xlook 85 24 = some (24, .iastore, 1, 0, 0, 0, 0) from xlk (by decide +kernel)) (xtg_10_3 _ xob_10.1 xob_10.2).1 (by rw [(xtg_10_3 _ xob_10.1 xob_10.2).2]; exact q1) (n := 25) rfl ?_
    refine xw_aload_n (n := 26) (show xlook 85 25 = some (25, .aload_n 0, 1, 0, 0, 0, 0) from xlk (by decide +kernel)) rfl rfl ?_
    refine xw_getr (q := 124) (show xlook 85 26 = some (26, .getfield 29, 3, 10, 4, 0, 149) from xlk (by decide +kernel)) (by decide) (xobf xob_10 (by decide) (by decide)) rfl (xPT_get (k := 4) (f := 20) (xPT_arr (xPT_arr hPT (Or.inl (xtg_10_2 _ xob_10.1 xob_10.2).1.2)) (Or.inl (xtg_10_3 _ xob_10.1 xob_10.2).1.2)) xob_10 (by decide)) (by have := (xtg_10_4 _ xob_10.1 xob_10.2).1.1; omega) (n := 29) rfl ?_
    refine xw_aload_n (n := 30) (show xlook 85 29 = some (29, .aload_n 0, 1, 0, 0, 0, 0) from xlk (by decide +kernel)) rfl rfl ?_
    refine xw_geti2 (u := (F) (104) 1) (show xlook 85 30 = some (30, .getfield 18, 3, 10, 1, 0, 146) from xlk (by decide +kernel)) (by decide) (xobf xob_10 (by decide) (by decide)) rfl ((xup_o (by decide)).trans (xup_o (by decide))) (n := 33) rfl ?_
    refine xw_iload_n (n := 34) (show xlook 85 33 = some (33, .iload_n 3, 1, 0, 0, 0, 0) from xlk (by decide +kernel)) rfl rfl ?_
    obtain ⟨q1, t⟩ := t
    refine xw_iast (show xlook 85 34 = some (34, .iastore, 1, 0, 0, 0, 0) from xlk (by decide +kernel)) (xtg_10_4 _ xob_10.1 xob_10.2).1 (by rw [(xtg_10_4 _ xob_10.1 xob_10.2).2]; exact q1) (n := 35) rfl ?_
    exact xw_return (xPT_arr (xPT_arr (xPT_arr hPT (Or.inl (xtg_10_2 _ xob_10.1 xob_10.2).1.2)) (Or.inl (xtg_10_3 _ xob_10.1 xob_10.2).1.2)) (Or.inl (xtg_10_4 _ xob_10.1 xob_10.2).1.2)) (show xlook 85 35 = some (35, .return_, 1, 0, 0, 0, 0) from xlk (by decide +kernel)) rfl (t (xPT_arr (xPT_arr (xPT_arr hPT (Or.inl (xtg_10_2 _ xob_10.1 xob_10.2).1.2)) (Or.inl (xtg_10_3 _ xob_10.1 xob_10.2).1.2)) (Or.inl (xtg_10_4 _ xob_10.1 xob_10.2).1.2)))
theorem m85 {X : List Int32} {d : Nat} {F : XF} {Q : XF → Prop} {x1 : Int} {x2 : Int} {x3 : Int} (hPT : xPT F)  (t : inR (x1) ∧ ((((x1) = ((-1))) → (xPT (F) → Q (F))) ∧ (¬ ((x1) = ((-1))) → ((0 ≤ ((F) (104) 1) ∧ ((F) (104) 1) < 3) ∧ ((0 ≤ ((F) (104) 1) ∧ ((F) (104) 1) < 3) ∧ ((0 ≤ ((F) (104) 1) ∧ ((F) (104) 1) < 3) ∧ (xPT (xup (xup (xup (F) (122) ((F) (104) 1) (x1)) (123) ((F) (104) 1) (x2)) (124) ((F) (104) 1) (x3)) → Q (xup (xup (xup (F) (122) ((F) (104) 1) (x1)) (123) ((F) (104) 1) (x2)) (124) ((F) (104) 1) (x3))))))))) : xMV X d 85 [.ref (104), vi (x1), vi (x2), vi (x3)] F Q := by
  show xW X d 85 0 [.ref (104), vi (x1), vi (x2), vi (x3)] [] F (xqv Q)
  exact s85_0 hPT  t

theorem s86_0 {X : List Int32} {d : Nat} {F : XF} {Q : Int → XF → Prop} {o1 : Nat} {o2 : Nat} {x3 : Int} {w4 : Value} {w5 : Value} {w6 : Value} (hPT : xPT F) (h1 : xob 9 o1) (h2 : xob 6 o2) (t : ∃ (j1 : Nat), j1 < d ∧ xMV X j1 72 [.ref (105), .ref (o1)] (F) (fun (G1 : XF) => (xPT (G1) → xW X d 86 14 [.ref (104), .ref (o1), .ref (o2), vi (x3), vi ((-1)), vi (0), w6] [] (G1) (xqi Q)))) : xW X d 86 0 [.ref (104), .ref (o1), .ref (o2), vi (x3), w4, w5, w6] [] F (xqi Q) := by
  refine xw_aload_n (n := 1) (show xlook 86 0 = some (0, .aload_n 0, 1, 0, 0, 0, 0) from xlk (by decide +kernel)) rfl rfl ?_
  refine xw_getr (q := 105) (show xlook 86 1 = some (1, .getfield 12, 3, 10, 0, 0, 145) from xlk (by decide +kernel)) (by decide) (xobf xob_10 (by decide) (by decide)) rfl (xPT_get (k := 0) (f := 1) hPT xob_10 (by decide)) (by have := (xtg_10_0 _ xob_10.1 xob_10.2).1; omega) (n := 4) rfl ?_
  refine xw_aload_n (n := 5) (show xlook 86 4 = some (4, .aload_n 1, 1, 0, 0, 0, 0) from xlk (by decide +kernel)) rfl rfl ?_
  obtain ⟨j1, hj1, rr1, G1, hm1, hG1, t⟩ := t
  obtain ⟨rfl, t⟩ := t
  refine xw_callv (dk := j1) (o := 105) (as := [.ref (o1)]) (show xlook 86 5 = some (5, .invokevirtual 44, 3, 72, 2, 0, 91) from xlk (by decide +kernel)) (by decide) hj1 ⟨Nat.le_of_ble_eq_true rfl, Nat.le_of_ble_eq_true rfl, Nat.le_of_ble_eq_true rfl⟩ ⟨(xtg_10_0 _ xob_10.1 xob_10.2).1, (xtg_10_0 _ xob_10.1 xob_10.2).2, by decide⟩ rfl hm1 (n := 8) rfl ?_
  show xW X d 86 8 [.ref (104), .ref (o1), .ref (o2), vi (x3), w4, w5, w6] [] G1 (xqi Q)
  refine xw_iconst (n := 9) (show xlook 86 8 = some (8, .iconst (-1), 1, 0, 0, 0, 0) from xlk (by decide +kernel)) rfl ?_
  refine xw_istore (n := 11) (show xlook 86 9 = some (9, .istore 4, 2, 0, 0, 0, 0) from xlk (by decide +kernel)) rfl (ls' := [.ref (104), .ref (o1), .ref (o2), vi (x3), vi ((-1)), w5, w6]) (Nat.le_of_ble_eq_true rfl) rfl ?_
  refine xw_iconst (n := 12) (show xlook 86 11 = some (11, .iconst 0, 1, 0, 0, 0, 0) from xlk (by decide +kernel)) rfl ?_
  refine xw_istore (n := 14) (show xlook 86 12 = some (12, .istore 5, 2, 0, 0, 0, 0) from xlk (by decide +kernel)) rfl (ls' := [.ref (104), .ref (o1), .ref (o2), vi (x3), vi ((-1)), vi (0), w6]) (Nat.le_of_ble_eq_true rfl) rfl ?_
  exact t hG1
theorem m86 {X : List Int32} {d : Nat} {F : XF} {Q : Int → XF → Prop} {o1 : Nat} {o2 : Nat} {x3 : Int} (hPT : xPT F) (h1 : xob 9 o1) (h2 : xob 6 o2) (t : ∃ (j1 : Nat), j1 < d ∧ xMV X j1 72 [.ref (105), .ref (o1)] (F) (fun (G1 : XF) => (xPT (G1) → xW X d 86 14 [.ref (104), .ref (o1), .ref (o2), vi (x3), vi ((-1)), vi (0), xU0] [] (G1) (xqi Q)))) : xMI X d 86 [.ref (104), .ref (o1), .ref (o2), vi (x3)] F Q := by
  show xW X d 86 0 [.ref (104), .ref (o1), .ref (o2), vi (x3), xU0, xU0, xU0] [] F (xqi Q)
  exact s86_0 hPT h1 h2 t

theorem s86_14 {X : List Int32} {d : Nat} {F : XF} {Q : Int → XF → Prop} {o1 : Nat} {o2 : Nat} {x3 : Int} {x4 : Int} {x5 : Int} {w6 : Value} (hPT : xPT F) (h1 : xob 9 o1) (h2 : xob 6 o2) (t : inR (x5) ∧ inR (x3) ∧ ((((x3) < (x5)) → (xPT (F) → Q (x4) (F))) ∧ (¬ ((x3) < (x5)) → (inR (x5) ∧ ((((60) < (x5)) → (xPT (F) → Q (x4) (F))) ∧ (¬ ((60) < (x5)) → ((0 ≤ (x5) ∧ (x5) < 61) ∧ (inR ((F) (125) (x5)) ∧ (((¬ ((F) (125) (x5)) = ((-2))) → (xPT (F) → xW X d 86 53 [.ref (104), .ref (o1), .ref (o2), vi (x3), vi (x4), vi (x5), w6] [] (F) (xqi Q))) ∧ (¬ (¬ ((F) (125) (x5)) = ((-2))) → (∃ (j1 : Nat), j1 < d ∧ xMI X j1 87 [.ref (104), .ref (o2), vi (x5)] (F) (fun (y1 : Int) (G1 : XF) => ((0 ≤ (x5) ∧ (x5) < 61) ∧ (xPT (xup (G1) (125) (x5) (y1)) → xW X d 86 53 [.ref (104), .ref (o1), .ref (o2), vi (x3), vi (x4), vi (x5), w6] [] (xup (G1) (125) (x5) (y1)) (xqi Q))))))))))))))) : xW X d 86 14 [.ref (104), .ref (o1), .ref (o2), vi (x3), vi (x4), vi (x5), w6] [] F (xqi Q) := by
  refine xw_iload (n := 16) (show xlook 86 14 = some (14, .iload 5, 2, 0, 0, 0, 0) from xlk (by decide +kernel)) rfl rfl ?_
  refine xw_iload_n (n := 17) (show xlook 86 16 = some (16, .iload_n 3, 1, 0, 0, 0, 0) from xlk (by decide +kernel)) rfl rfl ?_
  obtain ⟨q0, q1, t⟩ := t
  refine xw_icmp_gt (n := 20) (m := 109) (show xlook 86 17 = some (17, .if_icmp .gt 92, 3, 109, 0, 0, 0) from xlk (by decide +kernel)) rfl rfl q0 q1 ⟨fun c => ?_, fun c => ?_⟩
  · replace t := t.1 c
    refine xw_iload (n := 111) (show xlook 86 109 = some (109, .iload 4, 2, 0, 0, 0, 0) from xlk (by decide +kernel)) rfl rfl ?_
    exact xw_ireturn hPT (show xlook 86 111 = some (111, .ireturn, 1, 0, 0, 0, 0) from xlk (by decide +kernel)) rfl (t hPT)
  · replace t := t.2 c
    refine xw_iload (n := 22) (show xlook 86 20 = some (20, .iload 5, 2, 0, 0, 0, 0) from xlk (by decide +kernel)) rfl rfl ?_
    refine xw_bipush (n := 24) (show xlook 86 22 = some (22, .bipush 60, 2, 0, 0, 0, 0) from xlk (by decide +kernel)) rfl (by decide) ?_
    obtain ⟨q0, t⟩ := t
    refine xw_icmp_gt (n := 27) (m := 109) (show xlook 86 24 = some (24, .if_icmp .gt 85, 3, 109, 0, 0, 0) from xlk (by decide +kernel)) rfl rfl q0 ⟨by decide, by decide⟩ ⟨fun c => ?_, fun c => ?_⟩
    · replace t := t.1 c
      refine xw_iload (n := 111) (show xlook 86 109 = some (109, .iload 4, 2, 0, 0, 0, 0) from xlk (by decide +kernel)) rfl rfl ?_
      exact xw_ireturn hPT (show xlook 86 111 = some (111, .ireturn, 1, 0, 0, 0, 0) from xlk (by decide +kernel)) rfl (t hPT)
    · replace t := t.2 c
      refine xw_aload_n (n := 28) (show xlook 86 27 = some (27, .aload_n 0, 1, 0, 0, 0, 0) from xlk (by decide +kernel)) rfl rfl ?_
      refine xw_getr (q := 125) (show xlook 86 28 = some (28, .getfield 32, 3, 10, 5, 0, 150) from xlk (by decide +kernel)) (by decide) (xobf xob_10 (by decide) (by decide)) rfl (xPT_get (k := 5) (f := 21) hPT xob_10 (by decide)) (by have := (xtg_10_5 _ xob_10.1 xob_10.2).1.1; omega) (n := 31) rfl ?_
      refine xw_iload (n := 33) (show xlook 86 31 = some (31, .iload 5, 2, 0, 0, 0, 0) from xlk (by decide +kernel)) rfl rfl ?_
      obtain ⟨q1, t⟩ := t
      refine xw_iald (show xlook 86 33 = some (33, .iaload, 1, 0, 0, 0, 0) from xlk (by decide +kernel)) (xtg_10_5 _ xob_10.1 xob_10.2).1 (by rw [(xtg_10_5 _ xob_10.1 xob_10.2).2]; exact q1) (n := 34) rfl ?_
      refine xw_bipush (n := 36) (show xlook 86 34 = some (34, .bipush (-2), 2, 0, 0, 0, 0) from xlk (by decide +kernel)) rfl (by decide) ?_
      obtain ⟨q0, t⟩ := t
      refine xw_icmp_ne (n := 39) (m := 53) (show xlook 86 36 = some (36, .if_icmp .ne 17, 3, 53, 0, 0, 0) from xlk (by decide +kernel)) rfl rfl q0 ⟨by decide, by decide⟩ ⟨fun c => ?_, fun c => ?_⟩
      · replace t := t.1 c
        exact t hPT
      · replace t := t.2 c
        refine xw_aload_n (n := 40) (show xlook 86 39 = some (39, .aload_n 0, 1, 0, 0, 0, 0) from xlk (by decide +kernel)) rfl rfl ?_
        refine xw_getr (q := 125) (show xlook 86 40 = some (40, .getfield 32, 3, 10, 5, 0, 150) from xlk (by decide +kernel)) (by decide) (xobf xob_10 (by decide) (by decide)) rfl (xPT_get (k := 5) (f := 21) hPT xob_10 (by decide)) (by have := (xtg_10_5 _ xob_10.1 xob_10.2).1.1; omega) (n := 43) rfl ?_
        refine xw_iload (n := 45) (show xlook 86 43 = some (43, .iload 5, 2, 0, 0, 0, 0) from xlk (by decide +kernel)) rfl rfl ?_
        refine xw_aload_n (n := 46) (show xlook 86 45 = some (45, .aload_n 0, 1, 0, 0, 0, 0) from xlk (by decide +kernel)) rfl rfl ?_
        refine xw_aload_n (n := 47) (show xlook 86 46 = some (46, .aload_n 2, 1, 0, 0, 0, 0) from xlk (by decide +kernel)) rfl rfl ?_
        refine xw_iload (n := 49) (show xlook 86 47 = some (47, .iload 5, 2, 0, 0, 0, 0) from xlk (by decide +kernel)) rfl rfl ?_
        obtain ⟨j1, hj1, rr1, G1, hm1, hG1, t⟩ := t
        obtain ⟨y1, rfl, t⟩ := t
        refine xw_callv (dk := j1) (o := 104) (as := [.ref (o2), vi (x5)]) (show xlook 86 49 = some (49, .invokevirtual 72, 3, 87, 3, 0, 96) from xlk (by decide +kernel)) (by decide) hj1 ⟨Nat.le_of_ble_eq_true rfl, Nat.le_of_ble_eq_true rfl, Nat.le_of_ble_eq_true rfl⟩ ⟨xob_10.1, xob_10.2, by decide⟩ rfl hm1 (n := 52) rfl ?_
        show xW X d 86 52 [.ref (104), .ref (o1), .ref (o2), vi (x3), vi (x4), vi (x5), w6] [vi (y1), vi (x5), .ref (125)] G1 (xqi Q)
        obtain ⟨q1, t⟩ := t
        refine xw_iast (show xlook 86 52 = some (52, .iastore, 1, 0, 0, 0, 0) from xlk (by decide +kernel)) (xtg_10_5 _ xob_10.1 xob_10.2).1 (by rw [(xtg_10_5 _ xob_10.1 xob_10.2).2]; exact q1) (n := 53) rfl ?_
        exact t (xPT_arr hG1 (Or.inl (xtg_10_5 _ xob_10.1 xob_10.2).1.2))

theorem s86_53 {X : List Int32} {d : Nat} {F : XF} {Q : Int → XF → Prop} {o1 : Nat} {o2 : Nat} {x3 : Int} {x4 : Int} {x5 : Int} {w6 : Value} (hPT : xPT F) (h1 : xob 9 o1) (h2 : xob 6 o2) (t : (0 ≤ (x5) ∧ (x5) < 61) ∧ (inR ((F) (125) (x5)) ∧ (((((F) (125) (x5)) = ((-1))) → (xPT (F) → xW X d 86 14 [.ref (104), .ref (o1), .ref (o2), vi (x3), vi (x4), vi (x5 + 1), vi (0)] [] (F) (xqi Q))) ∧ (¬ (((F) (125) (x5)) = ((-1))) → (inR (x4) ∧ ((((x4) = ((-1))) → (xPT (F) → xW X d 86 14 [.ref (104), .ref (o1), .ref (o2), vi (x3), vi (x5), vi (x5 + 1), vi (1)] [] (F) (xqi Q))) ∧ (¬ ((x4) = ((-1))) → ((0 ≤ (x5) ∧ (x5) < 61) ∧ ((0 ≤ (x4) ∧ (x4) < 61) ∧ (inR ((F) (125) (x5)) ∧ inR ((F) (125) (x4)) ∧ (((((F) (125) (x4)) ≤ ((F) (125) (x5))) → (xPT (F) → xW X d 86 14 [.ref (104), .ref (o1), .ref (o2), vi (x3), vi (x4), vi (x5 + 1), vi (1)] [] (F) (xqi Q))) ∧ (¬ (((F) (125) (x4)) ≤ ((F) (125) (x5))) → (xPT (F) → xW X d 86 14 [.ref (104), .ref (o1), .ref (o2), vi (x3), vi (x5), vi (x5 + 1), vi (1)] [] (F) (xqi Q)))))))))))))) : xW X d 86 53 [.ref (104), .ref (o1), .ref (o2), vi (x3), vi (x4), vi (x5), w6] [] F (xqi Q) := by
  refine xw_aload_n (n := 54) (show xlook 86 53 = some (53, .aload_n 0, 1, 0, 0, 0, 0) from xlk (by decide +kernel)) rfl rfl ?_
  refine xw_getr (q := 125) (show xlook 86 54 = some (54, .getfield 32, 3, 10, 5, 0, 150) from xlk (by decide +kernel)) (by decide) (xobf xob_10 (by decide) (by decide)) rfl (xPT_get (k := 5) (f := 21) hPT xob_10 (by decide)) (by have := (xtg_10_5 _ xob_10.1 xob_10.2).1.1; omega) (n := 57) rfl ?_
  refine xw_iload (n := 59) (show xlook 86 57 = some (57, .iload 5, 2, 0, 0, 0, 0) from xlk (by decide +kernel)) rfl rfl ?_
  obtain ⟨q1, t⟩ := t
  refine xw_iald (show xlook 86 59 = some (59, .iaload, 1, 0, 0, 0, 0) from xlk (by decide +kernel)) (xtg_10_5 _ xob_10.1 xob_10.2).1 (by rw [(xtg_10_5 _ xob_10.1 xob_10.2).2]; exact q1) (n := 60) rfl ?_
  refine xw_iconst (n := 61) (show xlook 86 60 = some (60, .iconst (-1), 1, 0, 0, 0, 0) from xlk (by decide +kernel)) rfl ?_
  obtain ⟨q0, t⟩ := t
  refine xw_icmp_eq (n := 64) (m := 68) (show xlook 86 61 = some (61, .if_icmp .eq 7, 3, 68, 0, 0, 0) from xlk (by decide +kernel)) rfl rfl q0 ⟨by decide, by decide⟩ ⟨fun c => ?_, fun c => ?_⟩
  · replace t := t.1 c
    refine xw_iconst (n := 69) (show xlook 86 68 = some (68, .iconst 0, 1, 0, 0, 0, 0) from xlk (by decide +kernel)) rfl ?_
    refine xw_istore (n := 71) (show xlook 86 69 = some (69, .istore 6, 2, 0, 0, 0, 0) from xlk (by decide +kernel)) rfl (ls' := [.ref (104), .ref (o1), .ref (o2), vi (x3), vi (x4), vi (x5), vi (0)]) (Nat.le_of_ble_eq_true rfl) rfl ?_
    refine xw_iload (n := 73) (show xlook 86 71 = some (71, .iload 6, 2, 0, 0, 0, 0) from xlk (by decide +kernel)) rfl rfl ?_
    refine xw_if_eq (n := 76) (m := 103) (show xlook 86 73 = some (73, .ifCond .eq 30, 3, 103, 0, 0, 0) from xlk (by decide +kernel)) rfl rfl ⟨by decide, by decide⟩ ⟨fun _ => ?_, fun c => absurd c (by decide)⟩
    refine xw_iinc (n := 106) (show xlook 86 103 = some (103, .iinc 5 1, 3, 0, 0, 0, 0) from xlk (by decide +kernel)) rfl (ls' := [.ref (104), .ref (o1), .ref (o2), vi (x3), vi (x4), vi (x5 + 1), vi (0)]) rfl rfl ?_
    refine xw_goto (m := 14) (show xlook 86 106 = some (106, .goto (-92), 3, 14, 0, 0, 0) from xlk (by decide +kernel)) rfl ?_
    exact t hPT
  · replace t := t.2 c
    refine xw_iconst (n := 65) (show xlook 86 64 = some (64, .iconst 1, 1, 0, 0, 0, 0) from xlk (by decide +kernel)) rfl ?_
    refine xw_goto (m := 69) (show xlook 86 65 = some (65, .goto 4, 3, 69, 0, 0, 0) from xlk (by decide +kernel)) rfl ?_
    refine xw_istore (n := 71) (show xlook 86 69 = some (69, .istore 6, 2, 0, 0, 0, 0) from xlk (by decide +kernel)) rfl (ls' := [.ref (104), .ref (o1), .ref (o2), vi (x3), vi (x4), vi (x5), vi (1)]) (Nat.le_of_ble_eq_true rfl) rfl ?_
    refine xw_iload (n := 73) (show xlook 86 71 = some (71, .iload 6, 2, 0, 0, 0, 0) from xlk (by decide +kernel)) rfl rfl ?_
    refine xw_if_eq (n := 76) (m := 103) (show xlook 86 73 = some (73, .ifCond .eq 30, 3, 103, 0, 0, 0) from xlk (by decide +kernel)) rfl rfl ⟨by decide, by decide⟩ ⟨fun c => absurd c (by decide), fun _ => ?_⟩
    refine xw_iload (n := 78) (show xlook 86 76 = some (76, .iload 4, 2, 0, 0, 0, 0) from xlk (by decide +kernel)) rfl rfl ?_
    refine xw_iconst (n := 79) (show xlook 86 78 = some (78, .iconst (-1), 1, 0, 0, 0, 0) from xlk (by decide +kernel)) rfl ?_
    obtain ⟨q0, t⟩ := t
    refine xw_icmp_eq (n := 82) (m := 99) (show xlook 86 79 = some (79, .if_icmp .eq 20, 3, 99, 0, 0, 0) from xlk (by decide +kernel)) rfl rfl q0 ⟨by decide, by decide⟩ ⟨fun c => ?_, fun c => ?_⟩
    · replace t := t.1 c
      refine xw_iload (n := 101) (show xlook 86 99 = some (99, .iload 5, 2, 0, 0, 0, 0) from xlk (by decide +kernel)) rfl rfl ?_
      refine xw_istore (n := 103) (show xlook 86 101 = some (101, .istore 4, 2, 0, 0, 0, 0) from xlk (by decide +kernel)) rfl (ls' := [.ref (104), .ref (o1), .ref (o2), vi (x3), vi (x5), vi (x5), vi (1)]) (Nat.le_of_ble_eq_true rfl) rfl ?_
      refine xw_iinc (n := 106) (show xlook 86 103 = some (103, .iinc 5 1, 3, 0, 0, 0, 0) from xlk (by decide +kernel)) rfl (ls' := [.ref (104), .ref (o1), .ref (o2), vi (x3), vi (x5), vi (x5 + 1), vi (1)]) rfl rfl ?_
      refine xw_goto (m := 14) (show xlook 86 106 = some (106, .goto (-92), 3, 14, 0, 0, 0) from xlk (by decide +kernel)) rfl ?_
      exact t hPT
    · replace t := t.2 c
      refine xw_aload_n (n := 83) (show xlook 86 82 = some (82, .aload_n 0, 1, 0, 0, 0, 0) from xlk (by decide +kernel)) rfl rfl ?_
      refine xw_getr (q := 125) (show xlook 86 83 = some (83, .getfield 32, 3, 10, 5, 0, 150) from xlk (by decide +kernel)) (by decide) (xobf xob_10 (by decide) (by decide)) rfl (xPT_get (k := 5) (f := 21) hPT xob_10 (by decide)) (by have := (xtg_10_5 _ xob_10.1 xob_10.2).1.1; omega) (n := 86) rfl ?_
      refine xw_iload (n := 88) (show xlook 86 86 = some (86, .iload 5, 2, 0, 0, 0, 0) from xlk (by decide +kernel)) rfl rfl ?_
      obtain ⟨q1, t⟩ := t
      refine xw_iald (show xlook 86 88 = some (88, .iaload, 1, 0, 0, 0, 0) from xlk (by decide +kernel)) (xtg_10_5 _ xob_10.1 xob_10.2).1 (by rw [(xtg_10_5 _ xob_10.1 xob_10.2).2]; exact q1) (n := 89) rfl ?_
      refine xw_aload_n (n := 90) (show xlook 86 89 = some (89, .aload_n 0, 1, 0, 0, 0, 0) from xlk (by decide +kernel)) rfl rfl ?_
      refine xw_getr (q := 125) (show xlook 86 90 = some (90, .getfield 32, 3, 10, 5, 0, 150) from xlk (by decide +kernel)) (by decide) (xobf xob_10 (by decide) (by decide)) rfl (xPT_get (k := 5) (f := 21) hPT xob_10 (by decide)) (by have := (xtg_10_5 _ xob_10.1 xob_10.2).1.1; omega) (n := 93) rfl ?_
      refine xw_iload (n := 95) (show xlook 86 93 = some (93, .iload 4, 2, 0, 0, 0, 0) from xlk (by decide +kernel)) rfl rfl ?_
      obtain ⟨q1, t⟩ := t
      refine xw_iald (show xlook 86 95 = some (95, .iaload, 1, 0, 0, 0, 0) from xlk (by decide +kernel)) (xtg_10_5 _ xob_10.1 xob_10.2).1 (by rw [(xtg_10_5 _ xob_10.1 xob_10.2).2]; exact q1) (n := 96) rfl ?_
      obtain ⟨q0, q1, t⟩ := t
      refine xw_icmp_ge (n := 99) (m := 103) (show xlook 86 96 = some (96, .if_icmp .ge 7, 3, 103, 0, 0, 0) from xlk (by decide +kernel)) rfl rfl q0 q1 ⟨fun c => ?_, fun c => ?_⟩
      · replace t := t.1 c
        refine xw_iinc (n := 106) (show xlook 86 103 = some (103, .iinc 5 1, 3, 0, 0, 0, 0) from xlk (by decide +kernel)) rfl (ls' := [.ref (104), .ref (o1), .ref (o2), vi (x3), vi (x4), vi (x5 + 1), vi (1)]) rfl rfl ?_
        refine xw_goto (m := 14) (show xlook 86 106 = some (106, .goto (-92), 3, 14, 0, 0, 0) from xlk (by decide +kernel)) rfl ?_
        exact t hPT
      · replace t := t.2 c
        refine xw_iload (n := 101) (show xlook 86 99 = some (99, .iload 5, 2, 0, 0, 0, 0) from xlk (by decide +kernel)) rfl rfl ?_
        refine xw_istore (n := 103) (show xlook 86 101 = some (101, .istore 4, 2, 0, 0, 0, 0) from xlk (by decide +kernel)) rfl (ls' := [.ref (104), .ref (o1), .ref (o2), vi (x3), vi (x5), vi (x5), vi (1)]) (Nat.le_of_ble_eq_true rfl) rfl ?_
        refine xw_iinc (n := 106) (show xlook 86 103 = some (103, .iinc 5 1, 3, 0, 0, 0, 0) from xlk (by decide +kernel)) rfl (ls' := [.ref (104), .ref (o1), .ref (o2), vi (x3), vi (x5), vi (x5 + 1), vi (1)]) rfl rfl ?_
        refine xw_goto (m := 14) (show xlook 86 106 = some (106, .goto (-92), 3, 14, 0, 0, 0) from xlk (by decide +kernel)) rfl ?_
        exact t hPT

theorem s87_0 {X : List Int32} {d : Nat} {F : XF} {Q : Int → XF → Prop} {o1 : Nat} {x2 : Int} {w3 : Value} (hPT : xPT F) (h1 : xob 6 o1) (t : ∃ (j1 : Nat), j1 < d ∧ xMV X j1 48 [.ref (o1), .ref (105)] (xup (F) (105) 3 (x2)) (fun (G1 : XF) => (∃ (j2 : Nat), j2 < d ∧ xMI X j2 59 [.ref (o1)] (G1) (fun (y2 : Int) (G2 : XF) => (inR (y2) ∧ ((((y2) = (0)) → (xPT (G2) → xW X d 87 27 [.ref (104), .ref (o1), vi (x2), vi (0)] [] (G2) (xqi Q))) ∧ (¬ ((y2) = (0)) → (xPT (G2) → Q ((-1)) (G2))))))))) : xW X d 87 0 [.ref (104), .ref (o1), vi (x2), w3] [] F (xqi Q) := by
  refine xw_aload_n (n := 1) (show xlook 87 0 = some (0, .aload_n 0, 1, 0, 0, 0, 0) from xlk (by decide +kernel)) rfl rfl ?_
  refine xw_getr (q := 105) (show xlook 87 1 = some (1, .getfield 12, 3, 10, 0, 0, 145) from xlk (by decide +kernel)) (by decide) (xobf xob_10 (by decide) (by decide)) rfl (xPT_get (k := 0) (f := 1) hPT xob_10 (by decide)) (by have := (xtg_10_0 _ xob_10.1 xob_10.2).1; omega) (n := 4) rfl ?_
  refine xw_iload_n (n := 5) (show xlook 87 4 = some (4, .iload_n 2, 1, 0, 0, 0, 0) from xlk (by decide +kernel)) rfl rfl ?_
  refine xw_puti (show xlook 87 5 = some (5, .putfield 76, 3, 9, 3, 0, 155) from xlk (by decide +kernel)) (xobf (xtg_10_0 _ xob_10.1 xob_10.2) (by decide) (by decide)) rfl (n := 8) rfl ?_
  refine xw_aload_n (n := 9) (show xlook 87 8 = some (8, .aload_n 1, 1, 0, 0, 0, 0) from xlk (by decide +kernel)) rfl rfl ?_
  refine xw_aload_n (n := 10) (show xlook 87 9 = some (9, .aload_n 0, 1, 0, 0, 0, 0) from xlk (by decide +kernel)) rfl rfl ?_
  refine xw_getr (q := 105) (show xlook 87 10 = some (10, .getfield 12, 3, 10, 0, 0, 145) from xlk (by decide +kernel)) (by decide) (xobf xob_10 (by decide) (by decide)) rfl (xPT_get (k := 0) (f := 1) (xPT_fld (k := 3) hPT (xtg_10_0 _ xob_10.1 xob_10.2) (by decide) (by decide)) xob_10 (by decide)) (by have := (xtg_10_0 _ xob_10.1 xob_10.2).1; omega) (n := 13) rfl ?_
  obtain ⟨j1, hj1, rr1, G1, hm1, hG1, t⟩ := t
  obtain ⟨rfl, t⟩ := t
  refine xw_callv (dk := j1) (o := o1) (as := [.ref (105)]) (show xlook 87 13 = some (13, .invokevirtual 79, 3, 48, 2, 0, 97) from xlk (by decide +kernel)) (by decide) hj1 ⟨Nat.le_of_ble_eq_true rfl, Nat.le_of_ble_eq_true rfl, Nat.le_of_ble_eq_true rfl⟩ ⟨h1.1, h1.2, by decide⟩ rfl hm1 (n := 16) rfl ?_
  show xW X d 87 16 [.ref (104), .ref (o1), vi (x2), w3] [] G1 (xqi Q)
  refine xw_aload_n (n := 17) (show xlook 87 16 = some (16, .aload_n 1, 1, 0, 0, 0, 0) from xlk (by decide +kernel)) rfl rfl ?_
  obtain ⟨j2, hj2, rr2, G2, hm2, hG2, t⟩ := t
  obtain ⟨y2, rfl, t⟩ := t
  refine xw_callv (dk := j2) (o := o1) (as := []) (show xlook 87 17 = some (17, .invokevirtual 82, 3, 59, 1, 0, 98) from xlk (by decide +kernel)) (by decide) hj2 ⟨Nat.le_of_ble_eq_true rfl, Nat.le_of_ble_eq_true rfl, Nat.le_of_ble_eq_true rfl⟩ ⟨h1.1, h1.2, by decide⟩ rfl hm2 (n := 20) rfl ?_
  show xW X d 87 20 [.ref (104), .ref (o1), vi (x2), w3] [vi (y2)] G2 (xqi Q)
  obtain ⟨q0, t⟩ := t
  refine xw_if_eq (n := 23) (m := 25) (show xlook 87 20 = some (20, .ifCond .eq 5, 3, 25, 0, 0, 0) from xlk (by decide +kernel)) rfl rfl q0 ⟨fun c => ?_, fun c => ?_⟩
  · replace t := t.1 c
    refine xw_iconst (n := 26) (show xlook 87 25 = some (25, .iconst 0, 1, 0, 0, 0, 0) from xlk (by decide +kernel)) rfl ?_
    refine xw_istore_n (n := 27) (show xlook 87 26 = some (26, .istore_n 3, 1, 0, 0, 0, 0) from xlk (by decide +kernel)) rfl (ls' := [.ref (104), .ref (o1), vi (x2), vi (0)]) (Nat.le_of_ble_eq_true rfl) rfl ?_
    exact t hG2
  · replace t := t.2 c
    refine xw_iconst (n := 24) (show xlook 87 23 = some (23, .iconst (-1), 1, 0, 0, 0, 0) from xlk (by decide +kernel)) rfl ?_
    exact xw_ireturn hG2 (show xlook 87 24 = some (24, .ireturn, 1, 0, 0, 0, 0) from xlk (by decide +kernel)) rfl (t hG2)
theorem m87 {X : List Int32} {d : Nat} {F : XF} {Q : Int → XF → Prop} {o1 : Nat} {x2 : Int} (hPT : xPT F) (h1 : xob 6 o1) (t : ∃ (j1 : Nat), j1 < d ∧ xMV X j1 48 [.ref (o1), .ref (105)] (xup (F) (105) 3 (x2)) (fun (G1 : XF) => (∃ (j2 : Nat), j2 < d ∧ xMI X j2 59 [.ref (o1)] (G1) (fun (y2 : Int) (G2 : XF) => (inR (y2) ∧ ((((y2) = (0)) → (xPT (G2) → xW X d 87 27 [.ref (104), .ref (o1), vi (x2), vi (0)] [] (G2) (xqi Q))) ∧ (¬ ((y2) = (0)) → (xPT (G2) → Q ((-1)) (G2))))))))) : xMI X d 87 [.ref (104), .ref (o1), vi (x2)] F Q := by
  show xW X d 87 0 [.ref (104), .ref (o1), vi (x2), xU0] [] F (xqi Q)
  exact s87_0 hPT h1 t

theorem s87_27 {X : List Int32} {d : Nat} {F : XF} {Q : Int → XF → Prop} {o1 : Nat} {x2 : Int} {x3 : Int} (hPT : xPT F) (h1 : xob 6 o1) (t : inR (x3) ∧ ((((2000) ≤ (x3)) → (xPT (F) → xW X d 87 68 [.ref (104), .ref (o1), vi (x2), vi (x3)] [] (F) (xqi Q))) ∧ (¬ ((2000) ≤ (x3)) → (inR ((F) (o1) 3) ∧ inR ((F) (105) 6) ∧ (((((F) (105) 6) ≤ ((F) (o1) 3)) → (xPT (F) → xW X d 87 68 [.ref (104), .ref (o1), vi (x2), vi (x3)] [] (F) (xqi Q))) ∧ (¬ (((F) (105) 6) ≤ ((F) (o1) 3)) → (∃ (j1 : Nat), j1 < d ∧ xMI X j1 58 [.ref (o1), vi (2000)] (F) (fun (y1 : Int) (G1 : XF) => (inR (y1) ∧ (((¬ (y1) = (0)) → (xPT (G1) → xW X d 87 68 [.ref (104), .ref (o1), vi (x2), vi (x3)] [] (G1) (xqi Q))) ∧ (¬ (¬ (y1) = (0)) → (∃ (j2 : Nat), j2 < d ∧ xMV X j2 53 [.ref (o1)] (G1) (fun (G2 : XF) => (xPT (G2) → xW X d 87 27 [.ref (104), .ref (o1), vi (x2), vi (x3 + 1)] [] (G2) (xqi Q))))))))))))))) : xW X d 87 27 [.ref (104), .ref (o1), vi (x2), vi (x3)] [] F (xqi Q) := by
  refine xw_iload_n (n := 28) (show xlook 87 27 = some (27, .iload_n 3, 1, 0, 0, 0, 0) from xlk (by decide +kernel)) rfl rfl ?_
  refine xw_sipush (n := 31) (show xlook 87 28 = some (28, .sipush 2000, 3, 0, 0, 0, 0) from xlk (by decide +kernel)) rfl (by decide) ?_
  obtain ⟨q0, t⟩ := t
  refine xw_icmp_ge (n := 34) (m := 68) (show xlook 87 31 = some (31, .if_icmp .ge 37, 3, 68, 0, 0, 0) from xlk (by decide +kernel)) rfl rfl q0 ⟨by decide, by decide⟩ ⟨fun c => ?_, fun c => ?_⟩
  · replace t := t.1 c
    exact t hPT
  · replace t := t.2 c
    refine xw_aload_n (n := 35) (show xlook 87 34 = some (34, .aload_n 1, 1, 0, 0, 0, 0) from xlk (by decide +kernel)) rfl rfl ?_
    refine xw_geti (show xlook 87 35 = some (35, .getfield 86, 3, 6, 3, 0, 156) from xlk (by decide +kernel)) (by decide) (xobf h1 (by decide) (by decide)) rfl (n := 38) rfl ?_
    refine xw_aload_n (n := 39) (show xlook 87 38 = some (38, .aload_n 0, 1, 0, 0, 0, 0) from xlk (by decide +kernel)) rfl rfl ?_
    refine xw_getr (q := 105) (show xlook 87 39 = some (39, .getfield 12, 3, 10, 0, 0, 145) from xlk (by decide +kernel)) (by decide) (xobf xob_10 (by decide) (by decide)) rfl (xPT_get (k := 0) (f := 1) hPT xob_10 (by decide)) (by have := (xtg_10_0 _ xob_10.1 xob_10.2).1; omega) (n := 42) rfl ?_
    refine xw_geti (show xlook 87 42 = some (42, .getfield 65, 3, 9, 6, 0, 154) from xlk (by decide +kernel)) (by decide) (xobf (xtg_10_0 _ xob_10.1 xob_10.2) (by decide) (by decide)) rfl (n := 45) rfl ?_
    obtain ⟨q0, q1, t⟩ := t
    refine xw_icmp_ge (n := 48) (m := 68) (show xlook 87 45 = some (45, .if_icmp .ge 23, 3, 68, 0, 0, 0) from xlk (by decide +kernel)) rfl rfl q0 q1 ⟨fun c => ?_, fun c => ?_⟩
    · replace t := t.1 c
      exact t hPT
    · replace t := t.2 c
      refine xw_aload_n (n := 49) (show xlook 87 48 = some (48, .aload_n 1, 1, 0, 0, 0, 0) from xlk (by decide +kernel)) rfl rfl ?_
      refine xw_sipush (n := 52) (show xlook 87 49 = some (49, .sipush 2000, 3, 0, 0, 0, 0) from xlk (by decide +kernel)) rfl (by decide) ?_
      obtain ⟨j1, hj1, rr1, G1, hm1, hG1, t⟩ := t
      obtain ⟨y1, rfl, t⟩ := t
      refine xw_callv (dk := j1) (o := o1) (as := [vi (2000)]) (show xlook 87 52 = some (52, .invokevirtual 89, 3, 58, 2, 0, 99) from xlk (by decide +kernel)) (by decide) hj1 ⟨Nat.le_of_ble_eq_true rfl, Nat.le_of_ble_eq_true rfl, Nat.le_of_ble_eq_true rfl⟩ ⟨h1.1, h1.2, by decide⟩ rfl hm1 (n := 55) rfl ?_
      show xW X d 87 55 [.ref (104), .ref (o1), vi (x2), vi (x3)] [vi (y1)] G1 (xqi Q)
      obtain ⟨q0, t⟩ := t
      refine xw_if_ne (n := 58) (m := 68) (show xlook 87 55 = some (55, .ifCond .ne 13, 3, 68, 0, 0, 0) from xlk (by decide +kernel)) rfl rfl q0 ⟨fun c => ?_, fun c => ?_⟩
      · replace t := t.1 c
        exact t hG1
      · replace t := t.2 c
        refine xw_aload_n (n := 59) (show xlook 87 58 = some (58, .aload_n 1, 1, 0, 0, 0, 0) from xlk (by decide +kernel)) rfl rfl ?_
        obtain ⟨j2, hj2, rr2, G2, hm2, hG2, t⟩ := t
        obtain ⟨rfl, t⟩ := t
        refine xw_callv (dk := j2) (o := o1) (as := []) (show xlook 87 59 = some (59, .invokevirtual 93, 3, 53, 1, 0, 100) from xlk (by decide +kernel)) (by decide) hj2 ⟨Nat.le_of_ble_eq_true rfl, Nat.le_of_ble_eq_true rfl, Nat.le_of_ble_eq_true rfl⟩ ⟨h1.1, h1.2, by decide⟩ rfl hm2 (n := 62) rfl ?_
        show xW X d 87 62 [.ref (104), .ref (o1), vi (x2), vi (x3)] [] G2 (xqi Q)
        refine xw_iinc (n := 65) (show xlook 87 62 = some (62, .iinc 3 1, 3, 0, 0, 0, 0) from xlk (by decide +kernel)) rfl (ls' := [.ref (104), .ref (o1), vi (x2), vi (x3 + 1)]) rfl rfl ?_
        refine xw_goto (m := 27) (show xlook 87 65 = some (65, .goto (-38), 3, 27, 0, 0, 0) from xlk (by decide +kernel)) rfl ?_
        exact t hG2

theorem s87_68 {X : List Int32} {d : Nat} {F : XF} {Q : Int → XF → Prop} {o1 : Nat} {x2 : Int} {x3 : Int} (hPT : xPT F) (h1 : xob 6 o1) (t : inR ((F) (o1) 3) ∧ inR ((F) (105) 6) ∧ (((((F) (o1) 3) < ((F) (105) 6)) → (xPT (F) → Q ((-1)) (F))) ∧ (¬ (((F) (o1) 3) < ((F) (105) 6)) → (∃ (j1 : Nat), j1 < d ∧ xMI X j1 52 [.ref (o1)] (F) (fun (y1 : Int) (G1 : XF) => (xPT (G1) → Q (y1) (G1))))))) : xW X d 87 68 [.ref (104), .ref (o1), vi (x2), vi (x3)] [] F (xqi Q) := by
  refine xw_aload_n (n := 69) (show xlook 87 68 = some (68, .aload_n 1, 1, 0, 0, 0, 0) from xlk (by decide +kernel)) rfl rfl ?_
  refine xw_geti (show xlook 87 69 = some (69, .getfield 86, 3, 6, 3, 0, 156) from xlk (by decide +kernel)) (by decide) (xobf h1 (by decide) (by decide)) rfl (n := 72) rfl ?_
  refine xw_aload_n (n := 73) (show xlook 87 72 = some (72, .aload_n 0, 1, 0, 0, 0, 0) from xlk (by decide +kernel)) rfl rfl ?_
  refine xw_getr (q := 105) (show xlook 87 73 = some (73, .getfield 12, 3, 10, 0, 0, 145) from xlk (by decide +kernel)) (by decide) (xobf xob_10 (by decide) (by decide)) rfl (xPT_get (k := 0) (f := 1) hPT xob_10 (by decide)) (by have := (xtg_10_0 _ xob_10.1 xob_10.2).1; omega) (n := 76) rfl ?_
  refine xw_geti (show xlook 87 76 = some (76, .getfield 65, 3, 9, 6, 0, 154) from xlk (by decide +kernel)) (by decide) (xobf (xtg_10_0 _ xob_10.1 xob_10.2) (by decide) (by decide)) rfl (n := 79) rfl ?_
  obtain ⟨q0, q1, t⟩ := t
  refine xw_icmp_lt (n := 82) (m := 89) (show xlook 87 79 = some (79, .if_icmp .lt 10, 3, 89, 0, 0, 0) from xlk (by decide +kernel)) rfl rfl q0 q1 ⟨fun c => ?_, fun c => ?_⟩
  · replace t := t.1 c
    refine xw_iconst (n := 90) (show xlook 87 89 = some (89, .iconst (-1), 1, 0, 0, 0, 0) from xlk (by decide +kernel)) rfl ?_
    exact xw_ireturn hPT (show xlook 87 90 = some (90, .ireturn, 1, 0, 0, 0, 0) from xlk (by decide +kernel)) rfl (t hPT)
  · replace t := t.2 c
    refine xw_aload_n (n := 83) (show xlook 87 82 = some (82, .aload_n 1, 1, 0, 0, 0, 0) from xlk (by decide +kernel)) rfl rfl ?_
    obtain ⟨j1, hj1, rr1, G1, hm1, hG1, t⟩ := t
    obtain ⟨y1, rfl, t⟩ := t
    refine xw_callv (dk := j1) (o := o1) (as := []) (show xlook 87 83 = some (83, .invokevirtual 96, 3, 52, 1, 0, 101) from xlk (by decide +kernel)) (by decide) hj1 ⟨Nat.le_of_ble_eq_true rfl, Nat.le_of_ble_eq_true rfl, Nat.le_of_ble_eq_true rfl⟩ ⟨h1.1, h1.2, by decide⟩ rfl hm1 (n := 86) rfl ?_
    show xW X d 87 86 [.ref (104), .ref (o1), vi (x2), vi (x3)] [vi (y1)] G1 (xqi Q)
    refine xw_goto (m := 90) (show xlook 87 86 = some (86, .goto 4, 3, 90, 0, 0, 0) from xlk (by decide +kernel)) rfl ?_
    exact xw_ireturn hG1 (show xlook 87 90 = some (90, .ireturn, 1, 0, 0, 0, 0) from xlk (by decide +kernel)) rfl (t hG1)

theorem s88_0 {X : List Int32} {d : Nat} {F : XF} {Q : Int → XF → Prop} {o1 : Nat} {o2 : Nat} {x3 : Int} {x4 : Int} {x5 : Int} (hPT : xPT F) (h1 : xob 9 o1) (h2 : xob 6 o2) (t : ∃ (j1 : Nat), j1 < d ∧ xMV X j1 72 [.ref (105), .ref (o1)] (F) (fun (G1 : XF) => (∃ (j2 : Nat), j2 < d ∧ xMV X j2 74 [.ref (105), vi (x3), vi (x4), vi (x5)] (G1) (fun (G2 : XF) => (∃ (j3 : Nat), j3 < d ∧ xMI X j3 57 [.ref (o2), .ref (105), vi (2000)] (G2) (fun (y3 : Int) (G3 : XF) => (xPT (G3) → Q (y3) (G3)))))))) : xW X d 88 0 [.ref (104), .ref (o1), .ref (o2), vi (x3), vi (x4), vi (x5)] [] F (xqi Q) := by
  refine xw_aload_n (n := 1) (show xlook 88 0 = some (0, .aload_n 0, 1, 0, 0, 0, 0) from xlk (by decide +kernel)) rfl rfl ?_
  refine xw_getr (q := 105) (show xlook 88 1 = some (1, .getfield 12, 3, 10, 0, 0, 145) from xlk (by decide +kernel)) (by decide) (xobf xob_10 (by decide) (by decide)) rfl (xPT_get (k := 0) (f := 1) hPT xob_10 (by decide)) (by have := (xtg_10_0 _ xob_10.1 xob_10.2).1; omega) (n := 4) rfl ?_
  refine xw_aload_n (n := 5) (show xlook 88 4 = some (4, .aload_n 1, 1, 0, 0, 0, 0) from xlk (by decide +kernel)) rfl rfl ?_
  obtain ⟨j1, hj1, rr1, G1, hm1, hG1, t⟩ := t
  obtain ⟨rfl, t⟩ := t
  refine xw_callv (dk := j1) (o := 105) (as := [.ref (o1)]) (show xlook 88 5 = some (5, .invokevirtual 44, 3, 72, 2, 0, 91) from xlk (by decide +kernel)) (by decide) hj1 ⟨Nat.le_of_ble_eq_true rfl, Nat.le_of_ble_eq_true rfl, Nat.le_of_ble_eq_true rfl⟩ ⟨(xtg_10_0 _ xob_10.1 xob_10.2).1, (xtg_10_0 _ xob_10.1 xob_10.2).2, by decide⟩ rfl hm1 (n := 8) rfl ?_
  show xW X d 88 8 [.ref (104), .ref (o1), .ref (o2), vi (x3), vi (x4), vi (x5)] [] G1 (xqi Q)
  refine xw_aload_n (n := 9) (show xlook 88 8 = some (8, .aload_n 0, 1, 0, 0, 0, 0) from xlk (by decide +kernel)) rfl rfl ?_
  refine xw_getr (q := 105) (show xlook 88 9 = some (9, .getfield 12, 3, 10, 0, 0, 145) from xlk (by decide +kernel)) (by decide) (xobf xob_10 (by decide) (by decide)) rfl (xPT_get (k := 0) (f := 1) hG1 xob_10 (by decide)) (by have := (xtg_10_0 _ xob_10.1 xob_10.2).1; omega) (n := 12) rfl ?_
  refine xw_iload_n (n := 13) (show xlook 88 12 = some (12, .iload_n 3, 1, 0, 0, 0, 0) from xlk (by decide +kernel)) rfl rfl ?_
  refine xw_iload (n := 15) (show xlook 88 13 = some (13, .iload 4, 2, 0, 0, 0, 0) from xlk (by decide +kernel)) rfl rfl ?_
  refine xw_iload (n := 17) (show xlook 88 15 = some (15, .iload 5, 2, 0, 0, 0, 0) from xlk (by decide +kernel)) rfl rfl ?_
  obtain ⟨j2, hj2, rr2, G2, hm2, hG2, t⟩ := t
  obtain ⟨rfl, t⟩ := t
  refine xw_callv (dk := j2) (o := 105) (as := [vi (x3), vi (x4), vi (x5)]) (show xlook 88 17 = some (17, .invokevirtual 99, 3, 74, 4, 0, 102) from xlk (by decide +kernel)) (by decide) hj2 ⟨Nat.le_of_ble_eq_true rfl, Nat.le_of_ble_eq_true rfl, Nat.le_of_ble_eq_true rfl⟩ ⟨(xtg_10_0 _ xob_10.1 xob_10.2).1, (xtg_10_0 _ xob_10.1 xob_10.2).2, by decide⟩ rfl hm2 (n := 20) rfl ?_
  show xW X d 88 20 [.ref (104), .ref (o1), .ref (o2), vi (x3), vi (x4), vi (x5)] [] G2 (xqi Q)
  refine xw_aload_n (n := 21) (show xlook 88 20 = some (20, .aload_n 2, 1, 0, 0, 0, 0) from xlk (by decide +kernel)) rfl rfl ?_
  refine xw_aload_n (n := 22) (show xlook 88 21 = some (21, .aload_n 0, 1, 0, 0, 0, 0) from xlk (by decide +kernel)) rfl rfl ?_
  refine xw_getr (q := 105) (show xlook 88 22 = some (22, .getfield 12, 3, 10, 0, 0, 145) from xlk (by decide +kernel)) (by decide) (xobf xob_10 (by decide) (by decide)) rfl (xPT_get (k := 0) (f := 1) hG2 xob_10 (by decide)) (by have := (xtg_10_0 _ xob_10.1 xob_10.2).1; omega) (n := 25) rfl ?_
  refine xw_sipush (n := 28) (show xlook 88 25 = some (25, .sipush 2000, 3, 0, 0, 0, 0) from xlk (by decide +kernel)) rfl (by decide) ?_
  obtain ⟨j3, hj3, rr3, G3, hm3, hG3, t⟩ := t
  obtain ⟨y3, rfl, t⟩ := t
  refine xw_callv (dk := j3) (o := o2) (as := [.ref (105), vi (2000)]) (show xlook 88 28 = some (28, .invokevirtual 55, 3, 57, 3, 0, 93) from xlk (by decide +kernel)) (by decide) hj3 ⟨Nat.le_of_ble_eq_true rfl, Nat.le_of_ble_eq_true rfl, Nat.le_of_ble_eq_true rfl⟩ ⟨h2.1, h2.2, by decide⟩ rfl hm3 (n := 31) rfl ?_
  show xW X d 88 31 [.ref (104), .ref (o1), .ref (o2), vi (x3), vi (x4), vi (x5)] [vi (y3)] G3 (xqi Q)
  exact xw_ireturn hG3 (show xlook 88 31 = some (31, .ireturn, 1, 0, 0, 0, 0) from xlk (by decide +kernel)) rfl (t hG3)
theorem m88 {X : List Int32} {d : Nat} {F : XF} {Q : Int → XF → Prop} {o1 : Nat} {o2 : Nat} {x3 : Int} {x4 : Int} {x5 : Int} (hPT : xPT F) (h1 : xob 9 o1) (h2 : xob 6 o2) (t : ∃ (j1 : Nat), j1 < d ∧ xMV X j1 72 [.ref (105), .ref (o1)] (F) (fun (G1 : XF) => (∃ (j2 : Nat), j2 < d ∧ xMV X j2 74 [.ref (105), vi (x3), vi (x4), vi (x5)] (G1) (fun (G2 : XF) => (∃ (j3 : Nat), j3 < d ∧ xMI X j3 57 [.ref (o2), .ref (105), vi (2000)] (G2) (fun (y3 : Int) (G3 : XF) => (xPT (G3) → Q (y3) (G3)))))))) : xMI X d 88 [.ref (104), .ref (o1), .ref (o2), vi (x3), vi (x4), vi (x5)] F Q := by
  show xW X d 88 0 [.ref (104), .ref (o1), .ref (o2), vi (x3), vi (x4), vi (x5)] [] F (xqi Q)
  exact s88_0 hPT h1 h2 t

theorem s89_0 {X : List Int32} {d : Nat} {F : XF} {Q : Int → XF → Prop} {o1 : Nat} {o2 : Nat} {x3 : Int} {w4 : Value} (hPT : xPT F) (h1 : xob 9 o1) (h2 : xob 6 o2) (t : ∃ (j1 : Nat), j1 < d ∧ xMV X j1 72 [.ref (105), .ref (o1)] (F) (fun (G1 : XF) => (xPT (G1) → xW X d 89 11 [.ref (104), .ref (o1), .ref (o2), vi (x3), vi (0)] [] (G1) (xqi Q)))) : xW X d 89 0 [.ref (104), .ref (o1), .ref (o2), vi (x3), w4] [] F (xqi Q) := by
  refine xw_aload_n (n := 1) (show xlook 89 0 = some (0, .aload_n 0, 1, 0, 0, 0, 0) from xlk (by decide +kernel)) rfl rfl ?_
  refine xw_getr (q := 105) (show xlook 89 1 = some (1, .getfield 12, 3, 10, 0, 0, 145) from xlk (by decide +kernel)) (by decide) (xobf xob_10 (by decide) (by decide)) rfl (xPT_get (k := 0) (f := 1) hPT xob_10 (by decide)) (by have := (xtg_10_0 _ xob_10.1 xob_10.2).1; omega) (n := 4) rfl ?_
  refine xw_aload_n (n := 5) (show xlook 89 4 = some (4, .aload_n 1, 1, 0, 0, 0, 0) from xlk (by decide +kernel)) rfl rfl ?_
  obtain ⟨j1, hj1, rr1, G1, hm1, hG1, t⟩ := t
  obtain ⟨rfl, t⟩ := t
  refine xw_callv (dk := j1) (o := 105) (as := [.ref (o1)]) (show xlook 89 5 = some (5, .invokevirtual 44, 3, 72, 2, 0, 91) from xlk (by decide +kernel)) (by decide) hj1 ⟨Nat.le_of_ble_eq_true rfl, Nat.le_of_ble_eq_true rfl, Nat.le_of_ble_eq_true rfl⟩ ⟨(xtg_10_0 _ xob_10.1 xob_10.2).1, (xtg_10_0 _ xob_10.1 xob_10.2).2, by decide⟩ rfl hm1 (n := 8) rfl ?_
  show xW X d 89 8 [.ref (104), .ref (o1), .ref (o2), vi (x3), w4] [] G1 (xqi Q)
  refine xw_iconst (n := 9) (show xlook 89 8 = some (8, .iconst 0, 1, 0, 0, 0, 0) from xlk (by decide +kernel)) rfl ?_
  refine xw_istore (n := 11) (show xlook 89 9 = some (9, .istore 4, 2, 0, 0, 0, 0) from xlk (by decide +kernel)) rfl (ls' := [.ref (104), .ref (o1), .ref (o2), vi (x3), vi (0)]) (Nat.le_of_ble_eq_true rfl) rfl ?_
  exact t hG1
theorem m89 {X : List Int32} {d : Nat} {F : XF} {Q : Int → XF → Prop} {o1 : Nat} {o2 : Nat} {x3 : Int} (hPT : xPT F) (h1 : xob 9 o1) (h2 : xob 6 o2) (t : ∃ (j1 : Nat), j1 < d ∧ xMV X j1 72 [.ref (105), .ref (o1)] (F) (fun (G1 : XF) => (xPT (G1) → xW X d 89 11 [.ref (104), .ref (o1), .ref (o2), vi (x3), vi (0)] [] (G1) (xqi Q)))) : xMI X d 89 [.ref (104), .ref (o1), .ref (o2), vi (x3)] F Q := by
  show xW X d 89 0 [.ref (104), .ref (o1), .ref (o2), vi (x3), xU0] [] F (xqi Q)
  exact s89_0 hPT h1 h2 t

theorem s89_11 {X : List Int32} {d : Nat} {F : XF} {Q : Int → XF → Prop} {o1 : Nat} {o2 : Nat} {x3 : Int} {x4 : Int} (hPT : xPT F) (h1 : xob 9 o1) (h2 : xob 6 o2) (t : inR (x4) ∧ inR (x3) ∧ ((((x3) < (x4)) → (xPT (F) → Q ((-1)) (F))) ∧ (¬ ((x3) < (x4)) → (inR (x4) ∧ ((((60) < (x4)) → (xPT (F) → Q ((-1)) (F))) ∧ (¬ ((60) < (x4)) → ((0 ≤ (x4) ∧ (x4) < 61) ∧ (inR ((F) (126) (x4)) ∧ (((¬ ((F) (126) (x4)) = ((-2))) → (xPT (F) → xW X d 89 58 [.ref (104), .ref (o1), .ref (o2), vi (x3), vi (x4)] [] (F) (xqi Q))) ∧ (¬ (¬ ((F) (126) (x4)) = ((-2))) → (∃ (j1 : Nat), j1 < d ∧ xMI X j1 90 [.ref (104), .ref (o2), vi (x4)] (F) (fun (y1 : Int) (G1 : XF) => (inR (y1) ∧ ((((y1) = (0)) → ((0 ≤ (x4) ∧ (x4) < 61) ∧ (xPT (xup (G1) (126) (x4) (0)) → xW X d 89 58 [.ref (104), .ref (o1), .ref (o2), vi (x3), vi (x4)] [] (xup (G1) (126) (x4) (0)) (xqi Q)))) ∧ (¬ ((y1) = (0)) → ((0 ≤ (x4) ∧ (x4) < 61) ∧ (xPT (xup (G1) (126) (x4) (1)) → xW X d 89 58 [.ref (104), .ref (o1), .ref (o2), vi (x3), vi (x4)] [] (xup (G1) (126) (x4) (1)) (xqi Q)))))))))))))))))) : xW X d 89 11 [.ref (104), .ref (o1), .ref (o2), vi (x3), vi (x4)] [] F (xqi Q) := by
  refine xw_iload (n := 13) (show xlook 89 11 = some (11, .iload 4, 2, 0, 0, 0, 0) from xlk (by decide +kernel)) rfl rfl ?_
  refine xw_iload_n (n := 14) (show xlook 89 13 = some (13, .iload_n 3, 1, 0, 0, 0, 0) from xlk (by decide +kernel)) rfl rfl ?_
  obtain ⟨q0, q1, t⟩ := t
  refine xw_icmp_gt (n := 17) (m := 78) (show xlook 89 14 = some (14, .if_icmp .gt 64, 3, 78, 0, 0, 0) from xlk (by decide +kernel)) rfl rfl q0 q1 ⟨fun c => ?_, fun c => ?_⟩
  · replace t := t.1 c
    refine xw_iconst (n := 79) (show xlook 89 78 = some (78, .iconst (-1), 1, 0, 0, 0, 0) from xlk (by decide +kernel)) rfl ?_
    exact xw_ireturn hPT (show xlook 89 79 = some (79, .ireturn, 1, 0, 0, 0, 0) from xlk (by decide +kernel)) rfl (t hPT)
  · replace t := t.2 c
    refine xw_iload (n := 19) (show xlook 89 17 = some (17, .iload 4, 2, 0, 0, 0, 0) from xlk (by decide +kernel)) rfl rfl ?_
    refine xw_bipush (n := 21) (show xlook 89 19 = some (19, .bipush 60, 2, 0, 0, 0, 0) from xlk (by decide +kernel)) rfl (by decide) ?_
    obtain ⟨q0, t⟩ := t
    refine xw_icmp_gt (n := 24) (m := 78) (show xlook 89 21 = some (21, .if_icmp .gt 57, 3, 78, 0, 0, 0) from xlk (by decide +kernel)) rfl rfl q0 ⟨by decide, by decide⟩ ⟨fun c => ?_, fun c => ?_⟩
    · replace t := t.1 c
      refine xw_iconst (n := 79) (show xlook 89 78 = some (78, .iconst (-1), 1, 0, 0, 0, 0) from xlk (by decide +kernel)) rfl ?_
      exact xw_ireturn hPT (show xlook 89 79 = some (79, .ireturn, 1, 0, 0, 0, 0) from xlk (by decide +kernel)) rfl (t hPT)
    · replace t := t.2 c
      refine xw_aload_n (n := 25) (show xlook 89 24 = some (24, .aload_n 0, 1, 0, 0, 0, 0) from xlk (by decide +kernel)) rfl rfl ?_
      refine xw_getr (q := 126) (show xlook 89 25 = some (25, .getfield 35, 3, 10, 6, 0, 151) from xlk (by decide +kernel)) (by decide) (xobf xob_10 (by decide) (by decide)) rfl (xPT_get (k := 6) (f := 22) hPT xob_10 (by decide)) (by have := (xtg_10_6 _ xob_10.1 xob_10.2).1.1; omega) (n := 28) rfl ?_
      refine xw_iload (n := 30) (show xlook 89 28 = some (28, .iload 4, 2, 0, 0, 0, 0) from xlk (by decide +kernel)) rfl rfl ?_
      obtain ⟨q1, t⟩ := t
      refine xw_iald (show xlook 89 30 = some (30, .iaload, 1, 0, 0, 0, 0) from xlk (by decide +kernel)) (xtg_10_6 _ xob_10.1 xob_10.2).1 (by rw [(xtg_10_6 _ xob_10.1 xob_10.2).2]; exact q1) (n := 31) rfl ?_
      refine xw_bipush (n := 33) (show xlook 89 31 = some (31, .bipush (-2), 2, 0, 0, 0, 0) from xlk (by decide +kernel)) rfl (by decide) ?_
      obtain ⟨q0, t⟩ := t
      refine xw_icmp_ne (n := 36) (m := 58) (show xlook 89 33 = some (33, .if_icmp .ne 25, 3, 58, 0, 0, 0) from xlk (by decide +kernel)) rfl rfl q0 ⟨by decide, by decide⟩ ⟨fun c => ?_, fun c => ?_⟩
      · replace t := t.1 c
        exact t hPT
      · replace t := t.2 c
        refine xw_aload_n (n := 37) (show xlook 89 36 = some (36, .aload_n 0, 1, 0, 0, 0, 0) from xlk (by decide +kernel)) rfl rfl ?_
        refine xw_getr (q := 126) (show xlook 89 37 = some (37, .getfield 35, 3, 10, 6, 0, 151) from xlk (by decide +kernel)) (by decide) (xobf xob_10 (by decide) (by decide)) rfl (xPT_get (k := 6) (f := 22) hPT xob_10 (by decide)) (by have := (xtg_10_6 _ xob_10.1 xob_10.2).1.1; omega) (n := 40) rfl ?_
        refine xw_iload (n := 42) (show xlook 89 40 = some (40, .iload 4, 2, 0, 0, 0, 0) from xlk (by decide +kernel)) rfl rfl ?_
        refine xw_aload_n (n := 43) (show xlook 89 42 = some (42, .aload_n 0, 1, 0, 0, 0, 0) from xlk (by decide +kernel)) rfl rfl ?_
        refine xw_aload_n (n := 44) (show xlook 89 43 = some (43, .aload_n 2, 1, 0, 0, 0, 0) from xlk (by decide +kernel)) rfl rfl ?_
        refine xw_iload (n := 46) (show xlook 89 44 = some (44, .iload 4, 2, 0, 0, 0, 0) from xlk (by decide +kernel)) rfl rfl ?_
        obtain ⟨j1, hj1, rr1, G1, hm1, hG1, t⟩ := t
        obtain ⟨y1, rfl, t⟩ := t
        refine xw_callv (dk := j1) (o := 104) (as := [.ref (o2), vi (x4)]) (show xlook 89 46 = some (46, .invokevirtual 102, 3, 90, 3, 0, 103) from xlk (by decide +kernel)) (by decide) hj1 ⟨Nat.le_of_ble_eq_true rfl, Nat.le_of_ble_eq_true rfl, Nat.le_of_ble_eq_true rfl⟩ ⟨xob_10.1, xob_10.2, by decide⟩ rfl hm1 (n := 49) rfl ?_
        show xW X d 89 49 [.ref (104), .ref (o1), .ref (o2), vi (x3), vi (x4)] [vi (y1), vi (x4), .ref (126)] G1 (xqi Q)
        obtain ⟨q0, t⟩ := t
        refine xw_if_eq (n := 52) (m := 56) (show xlook 89 49 = some (49, .ifCond .eq 7, 3, 56, 0, 0, 0) from xlk (by decide +kernel)) rfl rfl q0 ⟨fun c => ?_, fun c => ?_⟩
        · replace t := t.1 c
          refine xw_iconst (n := 57) (show xlook 89 56 = some (56, .iconst 0, 1, 0, 0, 0, 0) from xlk (by decide +kernel)) rfl ?_
          obtain ⟨q1, t⟩ := t
          refine xw_iast (show xlook 89 57 = some (57, .iastore, 1, 0, 0, 0, 0) from xlk (by decide +kernel)) (xtg_10_6 _ xob_10.1 xob_10.2).1 (by rw [(xtg_10_6 _ xob_10.1 xob_10.2).2]; exact q1) (n := 58) rfl ?_
          exact t (xPT_arr hG1 (Or.inl (xtg_10_6 _ xob_10.1 xob_10.2).1.2))
        · replace t := t.2 c
          refine xw_iconst (n := 53) (show xlook 89 52 = some (52, .iconst 1, 1, 0, 0, 0, 0) from xlk (by decide +kernel)) rfl ?_
          refine xw_goto (m := 57) (show xlook 89 53 = some (53, .goto 4, 3, 57, 0, 0, 0) from xlk (by decide +kernel)) rfl ?_
          obtain ⟨q1, t⟩ := t
          refine xw_iast (show xlook 89 57 = some (57, .iastore, 1, 0, 0, 0, 0) from xlk (by decide +kernel)) (xtg_10_6 _ xob_10.1 xob_10.2).1 (by rw [(xtg_10_6 _ xob_10.1 xob_10.2).2]; exact q1) (n := 58) rfl ?_
          exact t (xPT_arr hG1 (Or.inl (xtg_10_6 _ xob_10.1 xob_10.2).1.2))

theorem s89_58 {X : List Int32} {d : Nat} {F : XF} {Q : Int → XF → Prop} {o1 : Nat} {o2 : Nat} {x3 : Int} {x4 : Int} (hPT : xPT F) (h1 : xob 9 o1) (h2 : xob 6 o2) (t : (0 ≤ (x4) ∧ (x4) < 61) ∧ (inR ((F) (126) (x4)) ∧ (((¬ ((F) (126) (x4)) = (1)) → (xPT (F) → xW X d 89 11 [.ref (104), .ref (o1), .ref (o2), vi (x3), vi (x4 + 1)] [] (F) (xqi Q))) ∧ (¬ (¬ ((F) (126) (x4)) = (1)) → (xPT (F) → Q (x4) (F)))))) : xW X d 89 58 [.ref (104), .ref (o1), .ref (o2), vi (x3), vi (x4)] [] F (xqi Q) := by
  refine xw_aload_n (n := 59) (show xlook 89 58 = some (58, .aload_n 0, 1, 0, 0, 0, 0) from xlk (by decide +kernel)) rfl rfl ?_
  refine xw_getr (q := 126) (show xlook 89 59 = some (59, .getfield 35, 3, 10, 6, 0, 151) from xlk (by decide +kernel)) (by decide) (xobf xob_10 (by decide) (by decide)) rfl (xPT_get (k := 6) (f := 22) hPT xob_10 (by decide)) (by have := (xtg_10_6 _ xob_10.1 xob_10.2).1.1; omega) (n := 62) rfl ?_
  refine xw_iload (n := 64) (show xlook 89 62 = some (62, .iload 4, 2, 0, 0, 0, 0) from xlk (by decide +kernel)) rfl rfl ?_
  obtain ⟨q1, t⟩ := t
  refine xw_iald (show xlook 89 64 = some (64, .iaload, 1, 0, 0, 0, 0) from xlk (by decide +kernel)) (xtg_10_6 _ xob_10.1 xob_10.2).1 (by rw [(xtg_10_6 _ xob_10.1 xob_10.2).2]; exact q1) (n := 65) rfl ?_
  refine xw_iconst (n := 66) (show xlook 89 65 = some (65, .iconst 1, 1, 0, 0, 0, 0) from xlk (by decide +kernel)) rfl ?_
  obtain ⟨q0, t⟩ := t
  refine xw_icmp_ne (n := 69) (m := 72) (show xlook 89 66 = some (66, .if_icmp .ne 6, 3, 72, 0, 0, 0) from xlk (by decide +kernel)) rfl rfl q0 ⟨by decide, by decide⟩ ⟨fun c => ?_, fun c => ?_⟩
  · replace t := t.1 c
    refine xw_iinc (n := 75) (show xlook 89 72 = some (72, .iinc 4 1, 3, 0, 0, 0, 0) from xlk (by decide +kernel)) rfl (ls' := [.ref (104), .ref (o1), .ref (o2), vi (x3), vi (x4 + 1)]) rfl rfl ?_
    refine xw_goto (m := 11) (show xlook 89 75 = some (75, .goto (-64), 3, 11, 0, 0, 0) from xlk (by decide +kernel)) rfl ?_
    exact t hPT
  · replace t := t.2 c
    refine xw_iload (n := 71) (show xlook 89 69 = some (69, .iload 4, 2, 0, 0, 0, 0) from xlk (by decide +kernel)) rfl rfl ?_
    exact xw_ireturn hPT (show xlook 89 71 = some (71, .ireturn, 1, 0, 0, 0, 0) from xlk (by decide +kernel)) rfl (t hPT)

theorem s90_0 {X : List Int32} {d : Nat} {F : XF} {Q : Int → XF → Prop} {o1 : Nat} {x2 : Int} {w3 : Value} (hPT : xPT F) (h1 : xob 6 o1) (t : ∃ (j1 : Nat), j1 < d ∧ xMV X j1 48 [.ref (o1), .ref (105)] (xup (F) (105) 3 (x2)) (fun (G1 : XF) => (xPT (G1) → xW X d 90 18 [.ref (104), .ref (o1), vi (x2), vi (0)] [] (G1) (xqi Q)))) : xW X d 90 0 [.ref (104), .ref (o1), vi (x2), w3] [] F (xqi Q) := by
  refine xw_aload_n (n := 1) (show xlook 90 0 = some (0, .aload_n 0, 1, 0, 0, 0, 0) from xlk (by decide +kernel)) rfl rfl ?_
  refine xw_getr (q := 105) (show xlook 90 1 = some (1, .getfield 12, 3, 10, 0, 0, 145) from xlk (by decide +kernel)) (by decide) (xobf xob_10 (by decide) (by decide)) rfl (xPT_get (k := 0) (f := 1) hPT xob_10 (by decide)) (by have := (xtg_10_0 _ xob_10.1 xob_10.2).1; omega) (n := 4) rfl ?_
  refine xw_iload_n (n := 5) (show xlook 90 4 = some (4, .iload_n 2, 1, 0, 0, 0, 0) from xlk (by decide +kernel)) rfl rfl ?_
  refine xw_puti (show xlook 90 5 = some (5, .putfield 76, 3, 9, 3, 0, 155) from xlk (by decide +kernel)) (xobf (xtg_10_0 _ xob_10.1 xob_10.2) (by decide) (by decide)) rfl (n := 8) rfl ?_
  refine xw_aload_n (n := 9) (show xlook 90 8 = some (8, .aload_n 1, 1, 0, 0, 0, 0) from xlk (by decide +kernel)) rfl rfl ?_
  refine xw_aload_n (n := 10) (show xlook 90 9 = some (9, .aload_n 0, 1, 0, 0, 0, 0) from xlk (by decide +kernel)) rfl rfl ?_
  refine xw_getr (q := 105) (show xlook 90 10 = some (10, .getfield 12, 3, 10, 0, 0, 145) from xlk (by decide +kernel)) (by decide) (xobf xob_10 (by decide) (by decide)) rfl (xPT_get (k := 0) (f := 1) (xPT_fld (k := 3) hPT (xtg_10_0 _ xob_10.1 xob_10.2) (by decide) (by decide)) xob_10 (by decide)) (by have := (xtg_10_0 _ xob_10.1 xob_10.2).1; omega) (n := 13) rfl ?_
  obtain ⟨j1, hj1, rr1, G1, hm1, hG1, t⟩ := t
  obtain ⟨rfl, t⟩ := t
  refine xw_callv (dk := j1) (o := o1) (as := [.ref (105)]) (show xlook 90 13 = some (13, .invokevirtual 79, 3, 48, 2, 0, 97) from xlk (by decide +kernel)) (by decide) hj1 ⟨Nat.le_of_ble_eq_true rfl, Nat.le_of_ble_eq_true rfl, Nat.le_of_ble_eq_true rfl⟩ ⟨h1.1, h1.2, by decide⟩ rfl hm1 (n := 16) rfl ?_
  show xW X d 90 16 [.ref (104), .ref (o1), vi (x2), w3] [] G1 (xqi Q)
  refine xw_iconst (n := 17) (show xlook 90 16 = some (16, .iconst 0, 1, 0, 0, 0, 0) from xlk (by decide +kernel)) rfl ?_
  refine xw_istore_n (n := 18) (show xlook 90 17 = some (17, .istore_n 3, 1, 0, 0, 0, 0) from xlk (by decide +kernel)) rfl (ls' := [.ref (104), .ref (o1), vi (x2), vi (0)]) (Nat.le_of_ble_eq_true rfl) rfl ?_
  exact t hG1
theorem m90 {X : List Int32} {d : Nat} {F : XF} {Q : Int → XF → Prop} {o1 : Nat} {x2 : Int} (hPT : xPT F) (h1 : xob 6 o1) (t : ∃ (j1 : Nat), j1 < d ∧ xMV X j1 48 [.ref (o1), .ref (105)] (xup (F) (105) 3 (x2)) (fun (G1 : XF) => (xPT (G1) → xW X d 90 18 [.ref (104), .ref (o1), vi (x2), vi (0)] [] (G1) (xqi Q)))) : xMI X d 90 [.ref (104), .ref (o1), vi (x2)] F Q := by
  show xW X d 90 0 [.ref (104), .ref (o1), vi (x2), xU0] [] F (xqi Q)
  exact s90_0 hPT h1 t

theorem s90_18 {X : List Int32} {d : Nat} {F : XF} {Q : Int → XF → Prop} {o1 : Nat} {x2 : Int} {x3 : Int} (hPT : xPT F) (h1 : xob 6 o1) (t : inR (x3) ∧ ((((2000) ≤ (x3)) → (xPT (F) → xW X d 90 68 [.ref (104), .ref (o1), vi (x2), vi (x3)] [] (F) (xqi Q))) ∧ (¬ ((2000) ≤ (x3)) → (inR ((F) (o1) 3) ∧ inR ((F) (105) 6) ∧ (((((F) (105) 6) ≤ ((F) (o1) 3)) → (xPT (F) → xW X d 90 68 [.ref (104), .ref (o1), vi (x2), vi (x3)] [] (F) (xqi Q))) ∧ (¬ (((F) (105) 6) ≤ ((F) (o1) 3)) → (∃ (j1 : Nat), j1 < d ∧ xMI X j1 58 [.ref (o1), vi (2000)] (F) (fun (y1 : Int) (G1 : XF) => (inR (y1) ∧ (((¬ (y1) = (0)) → (xPT (G1) → xW X d 90 68 [.ref (104), .ref (o1), vi (x2), vi (x3)] [] (G1) (xqi Q))) ∧ (¬ (¬ (y1) = (0)) → (∃ (j2 : Nat), j2 < d ∧ xMV X j2 54 [.ref (o1)] (G1) (fun (G2 : XF) => (inR ((G2) (o1) 5) ∧ (((((G2) (o1) 5) = (0)) → (xPT (G2) → xW X d 90 18 [.ref (104), .ref (o1), vi (x2), vi (x3 + 1)] [] (G2) (xqi Q))) ∧ (¬ (((G2) (o1) 5) = (0)) → (xPT (G2) → Q (0) (G2)))))))))))))))))) : xW X d 90 18 [.ref (104), .ref (o1), vi (x2), vi (x3)] [] F (xqi Q) := by
  refine xw_iload_n (n := 19) (show xlook 90 18 = some (18, .iload_n 3, 1, 0, 0, 0, 0) from xlk (by decide +kernel)) rfl rfl ?_
  refine xw_sipush (n := 22) (show xlook 90 19 = some (19, .sipush 2000, 3, 0, 0, 0, 0) from xlk (by decide +kernel)) rfl (by decide) ?_
  obtain ⟨q0, t⟩ := t
  refine xw_icmp_ge (n := 25) (m := 68) (show xlook 90 22 = some (22, .if_icmp .ge 46, 3, 68, 0, 0, 0) from xlk (by decide +kernel)) rfl rfl q0 ⟨by decide, by decide⟩ ⟨fun c => ?_, fun c => ?_⟩
  · replace t := t.1 c
    exact t hPT
  · replace t := t.2 c
    refine xw_aload_n (n := 26) (show xlook 90 25 = some (25, .aload_n 1, 1, 0, 0, 0, 0) from xlk (by decide +kernel)) rfl rfl ?_
    refine xw_geti (show xlook 90 26 = some (26, .getfield 86, 3, 6, 3, 0, 156) from xlk (by decide +kernel)) (by decide) (xobf h1 (by decide) (by decide)) rfl (n := 29) rfl ?_
    refine xw_aload_n (n := 30) (show xlook 90 29 = some (29, .aload_n 0, 1, 0, 0, 0, 0) from xlk (by decide +kernel)) rfl rfl ?_
    refine xw_getr (q := 105) (show xlook 90 30 = some (30, .getfield 12, 3, 10, 0, 0, 145) from xlk (by decide +kernel)) (by decide) (xobf xob_10 (by decide) (by decide)) rfl (xPT_get (k := 0) (f := 1) hPT xob_10 (by decide)) (by have := (xtg_10_0 _ xob_10.1 xob_10.2).1; omega) (n := 33) rfl ?_
    refine xw_geti (show xlook 90 33 = some (33, .getfield 65, 3, 9, 6, 0, 154) from xlk (by decide +kernel)) (by decide) (xobf (xtg_10_0 _ xob_10.1 xob_10.2) (by decide) (by decide)) rfl (n := 36) rfl ?_
    obtain ⟨q0, q1, t⟩ := t
    refine xw_icmp_ge (n := 39) (m := 68) (show xlook 90 36 = some (36, .if_icmp .ge 32, 3, 68, 0, 0, 0) from xlk (by decide +kernel)) rfl rfl q0 q1 ⟨fun c => ?_, fun c => ?_⟩
    · replace t := t.1 c
      exact t hPT
    · replace t := t.2 c
      refine xw_aload_n (n := 40) (show xlook 90 39 = some (39, .aload_n 1, 1, 0, 0, 0, 0) from xlk (by decide +kernel)) rfl rfl ?_
      refine xw_sipush (n := 43) (show xlook 90 40 = some (40, .sipush 2000, 3, 0, 0, 0, 0) from xlk (by decide +kernel)) rfl (by decide) ?_
      obtain ⟨j1, hj1, rr1, G1, hm1, hG1, t⟩ := t
      obtain ⟨y1, rfl, t⟩ := t
      refine xw_callv (dk := j1) (o := o1) (as := [vi (2000)]) (show xlook 90 43 = some (43, .invokevirtual 89, 3, 58, 2, 0, 99) from xlk (by decide +kernel)) (by decide) hj1 ⟨Nat.le_of_ble_eq_true rfl, Nat.le_of_ble_eq_true rfl, Nat.le_of_ble_eq_true rfl⟩ ⟨h1.1, h1.2, by decide⟩ rfl hm1 (n := 46) rfl ?_
      show xW X d 90 46 [.ref (104), .ref (o1), vi (x2), vi (x3)] [vi (y1)] G1 (xqi Q)
      obtain ⟨q0, t⟩ := t
      refine xw_if_ne (n := 49) (m := 68) (show xlook 90 46 = some (46, .ifCond .ne 22, 3, 68, 0, 0, 0) from xlk (by decide +kernel)) rfl rfl q0 ⟨fun c => ?_, fun c => ?_⟩
      · replace t := t.1 c
        exact t hG1
      · replace t := t.2 c
        refine xw_aload_n (n := 50) (show xlook 90 49 = some (49, .aload_n 1, 1, 0, 0, 0, 0) from xlk (by decide +kernel)) rfl rfl ?_
        obtain ⟨j2, hj2, rr2, G2, hm2, hG2, t⟩ := t
        obtain ⟨rfl, t⟩ := t
        refine xw_callv (dk := j2) (o := o1) (as := []) (show xlook 90 50 = some (50, .invokevirtual 106, 3, 54, 1, 0, 104) from xlk (by decide +kernel)) (by decide) hj2 ⟨Nat.le_of_ble_eq_true rfl, Nat.le_of_ble_eq_true rfl, Nat.le_of_ble_eq_true rfl⟩ ⟨h1.1, h1.2, by decide⟩ rfl hm2 (n := 53) rfl ?_
        show xW X d 90 53 [.ref (104), .ref (o1), vi (x2), vi (x3)] [] G2 (xqi Q)
        refine xw_aload_n (n := 54) (show xlook 90 53 = some (53, .aload_n 1, 1, 0, 0, 0, 0) from xlk (by decide +kernel)) rfl rfl ?_
        refine xw_geti (show xlook 90 54 = some (54, .getfield 109, 3, 6, 5, 0, 157) from xlk (by decide +kernel)) (by decide) (xobf h1 (by decide) (by decide)) rfl (n := 57) rfl ?_
        obtain ⟨q0, t⟩ := t
        refine xw_if_eq (n := 60) (m := 62) (show xlook 90 57 = some (57, .ifCond .eq 5, 3, 62, 0, 0, 0) from xlk (by decide +kernel)) rfl rfl q0 ⟨fun c => ?_, fun c => ?_⟩
        · replace t := t.1 c
          refine xw_iinc (n := 65) (show xlook 90 62 = some (62, .iinc 3 1, 3, 0, 0, 0, 0) from xlk (by decide +kernel)) rfl (ls' := [.ref (104), .ref (o1), vi (x2), vi (x3 + 1)]) rfl rfl ?_
          refine xw_goto (m := 18) (show xlook 90 65 = some (65, .goto (-47), 3, 18, 0, 0, 0) from xlk (by decide +kernel)) rfl ?_
          exact t hG2
        · replace t := t.2 c
          refine xw_iconst (n := 61) (show xlook 90 60 = some (60, .iconst 0, 1, 0, 0, 0, 0) from xlk (by decide +kernel)) rfl ?_
          exact xw_zreturn hG2 (show xlook 90 61 = some (61, .ireturn, 1, 0, 0, 0, 0) from xlk (by decide +kernel)) rfl (by decide) (t hG2)

theorem s90_68 {X : List Int32} {d : Nat} {F : XF} {Q : Int → XF → Prop} {o1 : Nat} {x2 : Int} {x3 : Int} (hPT : xPT F) (h1 : xob 6 o1) (t : inR ((F) (o1) 3) ∧ inR ((F) (105) 6) ∧ (((((F) (o1) 3) < ((F) (105) 6)) → (xPT (F) → Q (0) (F))) ∧ (¬ (((F) (o1) 3) < ((F) (105) 6)) → (xPT (F) → Q (1) (F))))) : xW X d 90 68 [.ref (104), .ref (o1), vi (x2), vi (x3)] [] F (xqi Q) := by
  refine xw_aload_n (n := 69) (show xlook 90 68 = some (68, .aload_n 1, 1, 0, 0, 0, 0) from xlk (by decide +kernel)) rfl rfl ?_
  refine xw_geti (show xlook 90 69 = some (69, .getfield 86, 3, 6, 3, 0, 156) from xlk (by decide +kernel)) (by decide) (xobf h1 (by decide) (by decide)) rfl (n := 72) rfl ?_
  refine xw_aload_n (n := 73) (show xlook 90 72 = some (72, .aload_n 0, 1, 0, 0, 0, 0) from xlk (by decide +kernel)) rfl rfl ?_
  refine xw_getr (q := 105) (show xlook 90 73 = some (73, .getfield 12, 3, 10, 0, 0, 145) from xlk (by decide +kernel)) (by decide) (xobf xob_10 (by decide) (by decide)) rfl (xPT_get (k := 0) (f := 1) hPT xob_10 (by decide)) (by have := (xtg_10_0 _ xob_10.1 xob_10.2).1; omega) (n := 76) rfl ?_
  refine xw_geti (show xlook 90 76 = some (76, .getfield 65, 3, 9, 6, 0, 154) from xlk (by decide +kernel)) (by decide) (xobf (xtg_10_0 _ xob_10.1 xob_10.2) (by decide) (by decide)) rfl (n := 79) rfl ?_
  obtain ⟨q0, q1, t⟩ := t
  refine xw_icmp_lt (n := 82) (m := 86) (show xlook 90 79 = some (79, .if_icmp .lt 7, 3, 86, 0, 0, 0) from xlk (by decide +kernel)) rfl rfl q0 q1 ⟨fun c => ?_, fun c => ?_⟩
  · replace t := t.1 c
    refine xw_iconst (n := 87) (show xlook 90 86 = some (86, .iconst 0, 1, 0, 0, 0, 0) from xlk (by decide +kernel)) rfl ?_
    exact xw_zreturn hPT (show xlook 90 87 = some (87, .ireturn, 1, 0, 0, 0, 0) from xlk (by decide +kernel)) rfl (by decide) (t hPT)
  · replace t := t.2 c
    refine xw_iconst (n := 83) (show xlook 90 82 = some (82, .iconst 1, 1, 0, 0, 0, 0) from xlk (by decide +kernel)) rfl ?_
    refine xw_goto (m := 87) (show xlook 90 83 = some (83, .goto 4, 3, 87, 0, 0, 0) from xlk (by decide +kernel)) rfl ?_
    exact xw_zreturn hPT (show xlook 90 87 = some (87, .ireturn, 1, 0, 0, 0, 0) from xlk (by decide +kernel)) rfl (by decide) (t hPT)

theorem s91_0 {X : List Int32} {d : Nat} {F : XF} {Q : Int → XF → Prop} {o1 : Nat} {o2 : Nat} {x3 : Int} {w4 : Value} (hPT : xPT F) (h1 : xob 9 o1) (h2 : xob 6 o2) (t : ∃ (j1 : Nat), j1 < d ∧ xMV X j1 72 [.ref (105), .ref (o1)] (F) (fun (G1 : XF) => (xPT (G1) → xW X d 91 11 [.ref (104), .ref (o1), .ref (o2), vi (x3), vi (1)] [] (G1) (xqi Q)))) : xW X d 91 0 [.ref (104), .ref (o1), .ref (o2), vi (x3), w4] [] F (xqi Q) := by
  refine xw_aload_n (n := 1) (show xlook 91 0 = some (0, .aload_n 0, 1, 0, 0, 0, 0) from xlk (by decide +kernel)) rfl rfl ?_
  refine xw_getr (q := 105) (show xlook 91 1 = some (1, .getfield 12, 3, 10, 0, 0, 145) from xlk (by decide +kernel)) (by decide) (xobf xob_10 (by decide) (by decide)) rfl (xPT_get (k := 0) (f := 1) hPT xob_10 (by decide)) (by have := (xtg_10_0 _ xob_10.1 xob_10.2).1; omega) (n := 4) rfl ?_
  refine xw_aload_n (n := 5) (show xlook 91 4 = some (4, .aload_n 1, 1, 0, 0, 0, 0) from xlk (by decide +kernel)) rfl rfl ?_
  obtain ⟨j1, hj1, rr1, G1, hm1, hG1, t⟩ := t
  obtain ⟨rfl, t⟩ := t
  refine xw_callv (dk := j1) (o := 105) (as := [.ref (o1)]) (show xlook 91 5 = some (5, .invokevirtual 44, 3, 72, 2, 0, 91) from xlk (by decide +kernel)) (by decide) hj1 ⟨Nat.le_of_ble_eq_true rfl, Nat.le_of_ble_eq_true rfl, Nat.le_of_ble_eq_true rfl⟩ ⟨(xtg_10_0 _ xob_10.1 xob_10.2).1, (xtg_10_0 _ xob_10.1 xob_10.2).2, by decide⟩ rfl hm1 (n := 8) rfl ?_
  show xW X d 91 8 [.ref (104), .ref (o1), .ref (o2), vi (x3), w4] [] G1 (xqi Q)
  refine xw_iconst (n := 9) (show xlook 91 8 = some (8, .iconst 1, 1, 0, 0, 0, 0) from xlk (by decide +kernel)) rfl ?_
  refine xw_istore (n := 11) (show xlook 91 9 = some (9, .istore 4, 2, 0, 0, 0, 0) from xlk (by decide +kernel)) rfl (ls' := [.ref (104), .ref (o1), .ref (o2), vi (x3), vi (1)]) (Nat.le_of_ble_eq_true rfl) rfl ?_
  exact t hG1
theorem m91 {X : List Int32} {d : Nat} {F : XF} {Q : Int → XF → Prop} {o1 : Nat} {o2 : Nat} {x3 : Int} (hPT : xPT F) (h1 : xob 9 o1) (h2 : xob 6 o2) (t : ∃ (j1 : Nat), j1 < d ∧ xMV X j1 72 [.ref (105), .ref (o1)] (F) (fun (G1 : XF) => (xPT (G1) → xW X d 91 11 [.ref (104), .ref (o1), .ref (o2), vi (x3), vi (1)] [] (G1) (xqi Q)))) : xMI X d 91 [.ref (104), .ref (o1), .ref (o2), vi (x3)] F Q := by
  show xW X d 91 0 [.ref (104), .ref (o1), .ref (o2), vi (x3), xU0] [] F (xqi Q)
  exact s91_0 hPT h1 h2 t

theorem s91_11 {X : List Int32} {d : Nat} {F : XF} {Q : Int → XF → Prop} {o1 : Nat} {o2 : Nat} {x3 : Int} {x4 : Int} (hPT : xPT F) (h1 : xob 9 o1) (h2 : xob 6 o2) (t : inR (x4) ∧ ((((50) < (x4)) → (xPT (F) → Q ((-1)) (F))) ∧ (¬ ((50) < (x4)) → ((0 ≤ (x4) ∧ (x4) < 51) ∧ (inR ((F) (127) (x4)) ∧ (((¬ ((F) (127) (x4)) = ((-2))) → (xPT (F) → xW X d 91 57 [.ref (104), .ref (o1), .ref (o2), vi (x3), vi (x4)] [] (F) (xqi Q))) ∧ (¬ (¬ ((F) (127) (x4)) = ((-2))) → (∃ (j1 : Nat), j1 < d ∧ xMI X j1 57 [.ref (o2), .ref (105), vi (2000)] (xup (F) (105) 1 (x4)) (fun (y1 : Int) (G1 : XF) => ((0 ≤ (x4) ∧ (x4) < 51) ∧ (xPT (xup (G1) (127) (x4) (y1)) → xW X d 91 57 [.ref (104), .ref (o1), .ref (o2), vi (x3), vi (x4)] [] (xup (G1) (127) (x4) (y1)) (xqi Q)))))))))))) : xW X d 91 11 [.ref (104), .ref (o1), .ref (o2), vi (x3), vi (x4)] [] F (xqi Q) := by
  refine xw_iload (n := 13) (show xlook 91 11 = some (11, .iload 4, 2, 0, 0, 0, 0) from xlk (by decide +kernel)) rfl rfl ?_
  refine xw_bipush (n := 15) (show xlook 91 13 = some (13, .bipush 50, 2, 0, 0, 0, 0) from xlk (by decide +kernel)) rfl (by decide) ?_
  obtain ⟨q0, t⟩ := t
  refine xw_icmp_gt (n := 18) (m := 88) (show xlook 91 15 = some (15, .if_icmp .gt 73, 3, 88, 0, 0, 0) from xlk (by decide +kernel)) rfl rfl q0 ⟨by decide, by decide⟩ ⟨fun c => ?_, fun c => ?_⟩
  · replace t := t.1 c
    refine xw_iconst (n := 89) (show xlook 91 88 = some (88, .iconst (-1), 1, 0, 0, 0, 0) from xlk (by decide +kernel)) rfl ?_
    exact xw_ireturn hPT (show xlook 91 89 = some (89, .ireturn, 1, 0, 0, 0, 0) from xlk (by decide +kernel)) rfl (t hPT)
  · replace t := t.2 c
    refine xw_aload_n (n := 19) (show xlook 91 18 = some (18, .aload_n 0, 1, 0, 0, 0, 0) from xlk (by decide +kernel)) rfl rfl ?_
    refine xw_getr (q := 127) (show xlook 91 19 = some (19, .getfield 38, 3, 10, 7, 0, 152) from xlk (by decide +kernel)) (by decide) (xobf xob_10 (by decide) (by decide)) rfl (xPT_get (k := 7) (f := 23) hPT xob_10 (by decide)) (by have := (xtg_10_7 _ xob_10.1 xob_10.2).1.1; omega) (n := 22) rfl ?_
    refine xw_iload (n := 24) (show xlook 91 22 = some (22, .iload 4, 2, 0, 0, 0, 0) from xlk (by decide +kernel)) rfl rfl ?_
    obtain ⟨q1, t⟩ := t
    refine xw_iald (show xlook 91 24 = some (24, .iaload, 1, 0, 0, 0, 0) from xlk (by decide +kernel)) (xtg_10_7 _ xob_10.1 xob_10.2).1 (by rw [(xtg_10_7 _ xob_10.1 xob_10.2).2]; exact q1) (n := 25) rfl ?_
    refine xw_bipush (n := 27) (show xlook 91 25 = some (25, .bipush (-2), 2, 0, 0, 0, 0) from xlk (by decide +kernel)) rfl (by decide) ?_
    obtain ⟨q0, t⟩ := t
    refine xw_icmp_ne (n := 30) (m := 57) (show xlook 91 27 = some (27, .if_icmp .ne 30, 3, 57, 0, 0, 0) from xlk (by decide +kernel)) rfl rfl q0 ⟨by decide, by decide⟩ ⟨fun c => ?_, fun c => ?_⟩
    · replace t := t.1 c
      exact t hPT
    · replace t := t.2 c
      refine xw_aload_n (n := 31) (show xlook 91 30 = some (30, .aload_n 0, 1, 0, 0, 0, 0) from xlk (by decide +kernel)) rfl rfl ?_
      refine xw_getr (q := 105) (show xlook 91 31 = some (31, .getfield 12, 3, 10, 0, 0, 145) from xlk (by decide +kernel)) (by decide) (xobf xob_10 (by decide) (by decide)) rfl (xPT_get (k := 0) (f := 1) hPT xob_10 (by decide)) (by have := (xtg_10_0 _ xob_10.1 xob_10.2).1; omega) (n := 34) rfl ?_
      refine xw_iload (n := 36) (show xlook 91 34 = some (34, .iload 4, 2, 0, 0, 0, 0) from xlk (by decide +kernel)) rfl rfl ?_
      refine xw_puti (show xlook 91 36 = some (36, .putfield 113, 3, 9, 1, 0, 158) from xlk (by decide +kernel)) (xobf (xtg_10_0 _ xob_10.1 xob_10.2) (by decide) (by decide)) rfl (n := 39) rfl ?_
      refine xw_aload_n (n := 40) (show xlook 91 39 = some (39, .aload_n 0, 1, 0, 0, 0, 0) from xlk (by decide +kernel)) rfl rfl ?_
      refine xw_getr (q := 127) (show xlook 91 40 = some (40, .getfield 38, 3, 10, 7, 0, 152) from xlk (by decide +kernel)) (by decide) (xobf xob_10 (by decide) (by decide)) rfl (xPT_get (k := 7) (f := 23) (xPT_fld (k := 1) hPT (xtg_10_0 _ xob_10.1 xob_10.2) (by decide) (by decide)) xob_10 (by decide)) (by have := (xtg_10_7 _ xob_10.1 xob_10.2).1.1; omega) (n := 43) rfl ?_
      refine xw_iload (n := 45) (show xlook 91 43 = some (43, .iload 4, 2, 0, 0, 0, 0) from xlk (by decide +kernel)) rfl rfl ?_
      refine xw_aload_n (n := 46) (show xlook 91 45 = some (45, .aload_n 2, 1, 0, 0, 0, 0) from xlk (by decide +kernel)) rfl rfl ?_
      refine xw_aload_n (n := 47) (show xlook 91 46 = some (46, .aload_n 0, 1, 0, 0, 0, 0) from xlk (by decide +kernel)) rfl rfl ?_
      refine xw_getr (q := 105) (show xlook 91 47 = some (47, .getfield 12, 3, 10, 0, 0, 145) from xlk (by decide +kernel)) (by decide) (xobf xob_10 (by decide) (by decide)) rfl (xPT_get (k := 0) (f := 1) (xPT_fld (k := 1) hPT (xtg_10_0 _ xob_10.1 xob_10.2) (by decide) (by decide)) xob_10 (by decide)) (by have := (xtg_10_0 _ xob_10.1 xob_10.2).1; omega) (n := 50) rfl ?_
      refine xw_sipush (n := 53) (show xlook 91 50 = some (50, .sipush 2000, 3, 0, 0, 0, 0) from xlk (by decide +kernel)) rfl (by decide) ?_
      obtain ⟨j1, hj1, rr1, G1, hm1, hG1, t⟩ := t
      obtain ⟨y1, rfl, t⟩ := t
      refine xw_callv (dk := j1) (o := o2) (as := [.ref (105), vi (2000)]) (show xlook 91 53 = some (53, .invokevirtual 55, 3, 57, 3, 0, 93) from xlk (by decide +kernel)) (by decide) hj1 ⟨Nat.le_of_ble_eq_true rfl, Nat.le_of_ble_eq_true rfl, Nat.le_of_ble_eq_true rfl⟩ ⟨h2.1, h2.2, by decide⟩ rfl hm1 (n := 56) rfl ?_
      show xW X d 91 56 [.ref (104), .ref (o1), .ref (o2), vi (x3), vi (x4)] [vi (y1), vi (x4), .ref (127)] G1 (xqi Q)
      obtain ⟨q1, t⟩ := t
      refine xw_iast (show xlook 91 56 = some (56, .iastore, 1, 0, 0, 0, 0) from xlk (by decide +kernel)) (xtg_10_7 _ xob_10.1 xob_10.2).1 (by rw [(xtg_10_7 _ xob_10.1 xob_10.2).2]; exact q1) (n := 57) rfl ?_
      exact t (xPT_arr hG1 (Or.inl (xtg_10_7 _ xob_10.1 xob_10.2).1.2))

theorem s91_57 {X : List Int32} {d : Nat} {F : XF} {Q : Int → XF → Prop} {o1 : Nat} {o2 : Nat} {x3 : Int} {x4 : Int} (hPT : xPT F) (h1 : xob 9 o1) (h2 : xob 6 o2) (t : (0 ≤ (x4) ∧ (x4) < 51) ∧ (inR ((F) (127) (x4)) ∧ (((((F) (127) (x4)) = ((-1))) → (xPT (F) → xW X d 91 11 [.ref (104), .ref (o1), .ref (o2), vi (x3), vi (x4 + 1)] [] (F) (xqi Q))) ∧ (¬ (((F) (127) (x4)) = ((-1))) → ((0 ≤ (x4) ∧ (x4) < 51) ∧ (inR ((F) (127) (x4)) ∧ inR (x3) ∧ ((((x3) < ((F) (127) (x4))) → (xPT (F) → xW X d 91 11 [.ref (104), .ref (o1), .ref (o2), vi (x3), vi (x4 + 1)] [] (F) (xqi Q))) ∧ (¬ ((x3) < ((F) (127) (x4))) → (xPT (F) → Q (x4) (F)))))))))) : xW X d 91 57 [.ref (104), .ref (o1), .ref (o2), vi (x3), vi (x4)] [] F (xqi Q) := by
  refine xw_aload_n (n := 58) (show xlook 91 57 = some (57, .aload_n 0, 1, 0, 0, 0, 0) from xlk (by decide +kernel)) rfl rfl ?_
  refine xw_getr (q := 127) (show xlook 91 58 = some (58, .getfield 38, 3, 10, 7, 0, 152) from xlk (by decide +kernel)) (by decide) (xobf xob_10 (by decide) (by decide)) rfl (xPT_get (k := 7) (f := 23) hPT xob_10 (by decide)) (by have := (xtg_10_7 _ xob_10.1 xob_10.2).1.1; omega) (n := 61) rfl ?_
  refine xw_iload (n := 63) (show xlook 91 61 = some (61, .iload 4, 2, 0, 0, 0, 0) from xlk (by decide +kernel)) rfl rfl ?_
  obtain ⟨q1, t⟩ := t
  refine xw_iald (show xlook 91 63 = some (63, .iaload, 1, 0, 0, 0, 0) from xlk (by decide +kernel)) (xtg_10_7 _ xob_10.1 xob_10.2).1 (by rw [(xtg_10_7 _ xob_10.1 xob_10.2).2]; exact q1) (n := 64) rfl ?_
  refine xw_iconst (n := 65) (show xlook 91 64 = some (64, .iconst (-1), 1, 0, 0, 0, 0) from xlk (by decide +kernel)) rfl ?_
  obtain ⟨q0, t⟩ := t
  refine xw_icmp_eq (n := 68) (m := 82) (show xlook 91 65 = some (65, .if_icmp .eq 17, 3, 82, 0, 0, 0) from xlk (by decide +kernel)) rfl rfl q0 ⟨by decide, by decide⟩ ⟨fun c => ?_, fun c => ?_⟩
  · replace t := t.1 c
    refine xw_iinc (n := 85) (show xlook 91 82 = some (82, .iinc 4 1, 3, 0, 0, 0, 0) from xlk (by decide +kernel)) rfl (ls' := [.ref (104), .ref (o1), .ref (o2), vi (x3), vi (x4 + 1)]) rfl rfl ?_
    refine xw_goto (m := 11) (show xlook 91 85 = some (85, .goto (-74), 3, 11, 0, 0, 0) from xlk (by decide +kernel)) rfl ?_
    exact t hPT
  · replace t := t.2 c
    refine xw_aload_n (n := 69) (show xlook 91 68 = some (68, .aload_n 0, 1, 0, 0, 0, 0) from xlk (by decide +kernel)) rfl rfl ?_
    refine xw_getr (q := 127) (show xlook 91 69 = some (69, .getfield 38, 3, 10, 7, 0, 152) from xlk (by decide +kernel)) (by decide) (xobf xob_10 (by decide) (by decide)) rfl (xPT_get (k := 7) (f := 23) hPT xob_10 (by decide)) (by have := (xtg_10_7 _ xob_10.1 xob_10.2).1.1; omega) (n := 72) rfl ?_
    refine xw_iload (n := 74) (show xlook 91 72 = some (72, .iload 4, 2, 0, 0, 0, 0) from xlk (by decide +kernel)) rfl rfl ?_
    obtain ⟨q1, t⟩ := t
    refine xw_iald (show xlook 91 74 = some (74, .iaload, 1, 0, 0, 0, 0) from xlk (by decide +kernel)) (xtg_10_7 _ xob_10.1 xob_10.2).1 (by rw [(xtg_10_7 _ xob_10.1 xob_10.2).2]; exact q1) (n := 75) rfl ?_
    refine xw_iload_n (n := 76) (show xlook 91 75 = some (75, .iload_n 3, 1, 0, 0, 0, 0) from xlk (by decide +kernel)) rfl rfl ?_
    obtain ⟨q0, q1, t⟩ := t
    refine xw_icmp_gt (n := 79) (m := 82) (show xlook 91 76 = some (76, .if_icmp .gt 6, 3, 82, 0, 0, 0) from xlk (by decide +kernel)) rfl rfl q0 q1 ⟨fun c => ?_, fun c => ?_⟩
    · replace t := t.1 c
      refine xw_iinc (n := 85) (show xlook 91 82 = some (82, .iinc 4 1, 3, 0, 0, 0, 0) from xlk (by decide +kernel)) rfl (ls' := [.ref (104), .ref (o1), .ref (o2), vi (x3), vi (x4 + 1)]) rfl rfl ?_
      refine xw_goto (m := 11) (show xlook 91 85 = some (85, .goto (-74), 3, 11, 0, 0, 0) from xlk (by decide +kernel)) rfl ?_
      exact t hPT
    · replace t := t.2 c
      refine xw_iload (n := 81) (show xlook 91 79 = some (79, .iload 4, 2, 0, 0, 0, 0) from xlk (by decide +kernel)) rfl rfl ?_
      exact xw_ireturn hPT (show xlook 91 81 = some (81, .ireturn, 1, 0, 0, 0, 0) from xlk (by decide +kernel)) rfl (t hPT)

theorem s93_0 {X : List Int32} {d : Nat} {F : XF} {Q : Int → XF → Prop} {x1 : Int} {x2 : Int} {x3 : Int} {x4 : Int} {x5 : Int} (hPT : xPT F)  (t : inR (((F) (18) 0) + (20)) ∧ ((((((F) (18) 0) + (20)) ≤ (600)) → (∃ (j1 : Nat), j1 < d ∧ xMV X j1 28 [.ref (18), vi (x1)] (F) (fun (G1 : XF) => (∃ (j2 : Nat), j2 < d ∧ xMV X j2 28 [.ref (18), vi (x2)] (G1) (fun (G2 : XF) => (∃ (j3 : Nat), j3 < d ∧ xMV X j3 28 [.ref (18), vi (x3)] (G2) (fun (G3 : XF) => (∃ (j4 : Nat), j4 < d ∧ xMV X j4 28 [.ref (18), vi (x4)] (G3) (fun (G4 : XF) => (∃ (j5 : Nat), j5 < d ∧ xMV X j5 28 [.ref (18), vi (x5)] (G4) (fun (G5 : XF) => (xPT (G5) → Q ((G5) (18) 0) (G5))))))))))))) ∧ (¬ ((((F) (18) 0) + (20)) ≤ (600)) → (xPT (F) → Q ((-4)) (F))))) : xW X d 93 0 [.ref (0), vi (x1), vi (x2), vi (x3), vi (x4), vi (x5)] [] F (xqi Q) := by
  refine xw_aload_n (n := 1) (show xlook 93 0 = some (0, .aload_n 0, 1, 0, 0, 0, 0) from xlk (by decide +kernel)) rfl rfl ?_
  refine xw_getr (q := 18) (show xlook 93 1 = some (1, .getfield 19, 3, 11, 1, 0, 160) from xlk (by decide +kernel)) (by decide) (xobf xob_11 (by decide) (by decide)) rfl (xPT_get (k := 1) (f := 18) hPT xob_11 (by decide)) (by have := (xtg_11_1 _ xob_11.1 xob_11.2).1; omega) (n := 4) rfl ?_
  refine xw_geti (show xlook 93 4 = some (4, .getfield 67, 3, 5, 0, 0, 167) from xlk (by decide +kernel)) (by decide) (xobf (xtg_11_1 _ xob_11.1 xob_11.2) (by decide) (by decide)) rfl (n := 7) rfl ?_
  refine xw_bipush (n := 9) (show xlook 93 7 = some (7, .bipush 20, 2, 0, 0, 0, 0) from xlk (by decide +kernel)) rfl (by decide) ?_
  refine xw_iadd (n := 10) (show xlook 93 9 = some (9, .iadd, 1, 0, 0, 0, 0) from xlk (by decide +kernel)) rfl ?_
  refine xw_sipush (n := 13) (show xlook 93 10 = some (10, .sipush 600, 3, 0, 0, 0, 0) from xlk (by decide +kernel)) rfl (by decide) ?_
  obtain ⟨q0, t⟩ := t
  refine xw_icmp_le (n := 16) (m := 19) (show xlook 93 13 = some (13, .if_icmp .le 6, 3, 19, 0, 0, 0) from xlk (by decide +kernel)) rfl rfl q0 ⟨by decide, by decide⟩ ⟨fun c => ?_, fun c => ?_⟩
  · replace t := t.1 c
    refine xw_aload_n (n := 20) (show xlook 93 19 = some (19, .aload_n 0, 1, 0, 0, 0, 0) from xlk (by decide +kernel)) rfl rfl ?_
    refine xw_getr (q := 18) (show xlook 93 20 = some (20, .getfield 19, 3, 11, 1, 0, 160) from xlk (by decide +kernel)) (by decide) (xobf xob_11 (by decide) (by decide)) rfl (xPT_get (k := 1) (f := 18) hPT xob_11 (by decide)) (by have := (xtg_11_1 _ xob_11.1 xob_11.2).1; omega) (n := 23) rfl ?_
    refine xw_iload_n (n := 24) (show xlook 93 23 = some (23, .iload_n 1, 1, 0, 0, 0, 0) from xlk (by decide +kernel)) rfl rfl ?_
    obtain ⟨j1, hj1, rr1, G1, hm1, hG1, t⟩ := t
    obtain ⟨rfl, t⟩ := t
    refine xw_callv (dk := j1) (o := 18) (as := [vi (x1)]) (show xlook 93 24 = some (24, .invokevirtual 71, 3, 28, 2, 0, 114) from xlk (by decide +kernel)) (by decide) hj1 ⟨Nat.le_of_ble_eq_true rfl, Nat.le_of_ble_eq_true rfl, Nat.le_of_ble_eq_true rfl⟩ ⟨(xtg_11_1 _ xob_11.1 xob_11.2).1, (xtg_11_1 _ xob_11.1 xob_11.2).2, by decide⟩ rfl hm1 (n := 27) rfl ?_
    show xW X d 93 27 [.ref (0), vi (x1), vi (x2), vi (x3), vi (x4), vi (x5)] [] G1 (xqi Q)
    refine xw_aload_n (n := 28) (show xlook 93 27 = some (27, .aload_n 0, 1, 0, 0, 0, 0) from xlk (by decide +kernel)) rfl rfl ?_
    refine xw_getr (q := 18) (show xlook 93 28 = some (28, .getfield 19, 3, 11, 1, 0, 160) from xlk (by decide +kernel)) (by decide) (xobf xob_11 (by decide) (by decide)) rfl (xPT_get (k := 1) (f := 18) hG1 xob_11 (by decide)) (by have := (xtg_11_1 _ xob_11.1 xob_11.2).1; omega) (n := 31) rfl ?_
    refine xw_iload_n (n := 32) (show xlook 93 31 = some (31, .iload_n 2, 1, 0, 0, 0, 0) from xlk (by decide +kernel)) rfl rfl ?_
    obtain ⟨j2, hj2, rr2, G2, hm2, hG2, t⟩ := t
    obtain ⟨rfl, t⟩ := t
    refine xw_callv (dk := j2) (o := 18) (as := [vi (x2)]) (show xlook 93 32 = some (32, .invokevirtual 71, 3, 28, 2, 0, 114) from xlk (by decide +kernel)) (by decide) hj2 ⟨Nat.le_of_ble_eq_true rfl, Nat.le_of_ble_eq_true rfl, Nat.le_of_ble_eq_true rfl⟩ ⟨(xtg_11_1 _ xob_11.1 xob_11.2).1, (xtg_11_1 _ xob_11.1 xob_11.2).2, by decide⟩ rfl hm2 (n := 35) rfl ?_
    show xW X d 93 35 [.ref (0), vi (x1), vi (x2), vi (x3), vi (x4), vi (x5)] [] G2 (xqi Q)
    refine xw_aload_n (n := 36) (show xlook 93 35 = some (35, .aload_n 0, 1, 0, 0, 0, 0) from xlk (by decide +kernel)) rfl rfl ?_
    refine xw_getr (q := 18) (show xlook 93 36 = some (36, .getfield 19, 3, 11, 1, 0, 160) from xlk (by decide +kernel)) (by decide) (xobf xob_11 (by decide) (by decide)) rfl (xPT_get (k := 1) (f := 18) hG2 xob_11 (by decide)) (by have := (xtg_11_1 _ xob_11.1 xob_11.2).1; omega) (n := 39) rfl ?_
    refine xw_iload_n (n := 40) (show xlook 93 39 = some (39, .iload_n 3, 1, 0, 0, 0, 0) from xlk (by decide +kernel)) rfl rfl ?_
    obtain ⟨j3, hj3, rr3, G3, hm3, hG3, t⟩ := t
    obtain ⟨rfl, t⟩ := t
    refine xw_callv (dk := j3) (o := 18) (as := [vi (x3)]) (show xlook 93 40 = some (40, .invokevirtual 71, 3, 28, 2, 0, 114) from xlk (by decide +kernel)) (by decide) hj3 ⟨Nat.le_of_ble_eq_true rfl, Nat.le_of_ble_eq_true rfl, Nat.le_of_ble_eq_true rfl⟩ ⟨(xtg_11_1 _ xob_11.1 xob_11.2).1, (xtg_11_1 _ xob_11.1 xob_11.2).2, by decide⟩ rfl hm3 (n := 43) rfl ?_
    show xW X d 93 43 [.ref (0), vi (x1), vi (x2), vi (x3), vi (x4), vi (x5)] [] G3 (xqi Q)
    refine xw_aload_n (n := 44) (show xlook 93 43 = some (43, .aload_n 0, 1, 0, 0, 0, 0) from xlk (by decide +kernel)) rfl rfl ?_
    refine xw_getr (q := 18) (show xlook 93 44 = some (44, .getfield 19, 3, 11, 1, 0, 160) from xlk (by decide +kernel)) (by decide) (xobf xob_11 (by decide) (by decide)) rfl (xPT_get (k := 1) (f := 18) hG3 xob_11 (by decide)) (by have := (xtg_11_1 _ xob_11.1 xob_11.2).1; omega) (n := 47) rfl ?_
    refine xw_iload (n := 49) (show xlook 93 47 = some (47, .iload 4, 2, 0, 0, 0, 0) from xlk (by decide +kernel)) rfl rfl ?_
    obtain ⟨j4, hj4, rr4, G4, hm4, hG4, t⟩ := t
    obtain ⟨rfl, t⟩ := t
    refine xw_callv (dk := j4) (o := 18) (as := [vi (x4)]) (show xlook 93 49 = some (49, .invokevirtual 71, 3, 28, 2, 0, 114) from xlk (by decide +kernel)) (by decide) hj4 ⟨Nat.le_of_ble_eq_true rfl, Nat.le_of_ble_eq_true rfl, Nat.le_of_ble_eq_true rfl⟩ ⟨(xtg_11_1 _ xob_11.1 xob_11.2).1, (xtg_11_1 _ xob_11.1 xob_11.2).2, by decide⟩ rfl hm4 (n := 52) rfl ?_
    show xW X d 93 52 [.ref (0), vi (x1), vi (x2), vi (x3), vi (x4), vi (x5)] [] G4 (xqi Q)
    refine xw_aload_n (n := 53) (show xlook 93 52 = some (52, .aload_n 0, 1, 0, 0, 0, 0) from xlk (by decide +kernel)) rfl rfl ?_
    refine xw_getr (q := 18) (show xlook 93 53 = some (53, .getfield 19, 3, 11, 1, 0, 160) from xlk (by decide +kernel)) (by decide) (xobf xob_11 (by decide) (by decide)) rfl (xPT_get (k := 1) (f := 18) hG4 xob_11 (by decide)) (by have := (xtg_11_1 _ xob_11.1 xob_11.2).1; omega) (n := 56) rfl ?_
    refine xw_iload (n := 58) (show xlook 93 56 = some (56, .iload 5, 2, 0, 0, 0, 0) from xlk (by decide +kernel)) rfl rfl ?_
    obtain ⟨j5, hj5, rr5, G5, hm5, hG5, t⟩ := t
    obtain ⟨rfl, t⟩ := t
    refine xw_callv (dk := j5) (o := 18) (as := [vi (x5)]) (show xlook 93 58 = some (58, .invokevirtual 71, 3, 28, 2, 0, 114) from xlk (by decide +kernel)) (by decide) hj5 ⟨Nat.le_of_ble_eq_true rfl, Nat.le_of_ble_eq_true rfl, Nat.le_of_ble_eq_true rfl⟩ ⟨(xtg_11_1 _ xob_11.1 xob_11.2).1, (xtg_11_1 _ xob_11.1 xob_11.2).2, by decide⟩ rfl hm5 (n := 61) rfl ?_
    show xW X d 93 61 [.ref (0), vi (x1), vi (x2), vi (x3), vi (x4), vi (x5)] [] G5 (xqi Q)
    refine xw_aload_n (n := 62) (show xlook 93 61 = some (61, .aload_n 0, 1, 0, 0, 0, 0) from xlk (by decide +kernel)) rfl rfl ?_
    refine xw_getr (q := 18) (show xlook 93 62 = some (62, .getfield 19, 3, 11, 1, 0, 160) from xlk (by decide +kernel)) (by decide) (xobf xob_11 (by decide) (by decide)) rfl (xPT_get (k := 1) (f := 18) hG5 xob_11 (by decide)) (by have := (xtg_11_1 _ xob_11.1 xob_11.2).1; omega) (n := 65) rfl ?_
    refine xw_geti (show xlook 93 65 = some (65, .getfield 67, 3, 5, 0, 0, 167) from xlk (by decide +kernel)) (by decide) (xobf (xtg_11_1 _ xob_11.1 xob_11.2) (by decide) (by decide)) rfl (n := 68) rfl ?_
    exact xw_ireturn hG5 (show xlook 93 68 = some (68, .ireturn, 1, 0, 0, 0, 0) from xlk (by decide +kernel)) rfl (t hG5)
  · replace t := t.2 c
    refine xw_bipush (n := 18) (show xlook 93 16 = some (16, .bipush (-4), 2, 0, 0, 0, 0) from xlk (by decide +kernel)) rfl (by decide) ?_
    exact xw_ireturn hPT (show xlook 93 18 = some (18, .ireturn, 1, 0, 0, 0, 0) from xlk (by decide +kernel)) rfl (t hPT)
theorem m93 {X : List Int32} {d : Nat} {F : XF} {Q : Int → XF → Prop} {x1 : Int} {x2 : Int} {x3 : Int} {x4 : Int} {x5 : Int} (hPT : xPT F)  (t : inR (((F) (18) 0) + (20)) ∧ ((((((F) (18) 0) + (20)) ≤ (600)) → (∃ (j1 : Nat), j1 < d ∧ xMV X j1 28 [.ref (18), vi (x1)] (F) (fun (G1 : XF) => (∃ (j2 : Nat), j2 < d ∧ xMV X j2 28 [.ref (18), vi (x2)] (G1) (fun (G2 : XF) => (∃ (j3 : Nat), j3 < d ∧ xMV X j3 28 [.ref (18), vi (x3)] (G2) (fun (G3 : XF) => (∃ (j4 : Nat), j4 < d ∧ xMV X j4 28 [.ref (18), vi (x4)] (G3) (fun (G4 : XF) => (∃ (j5 : Nat), j5 < d ∧ xMV X j5 28 [.ref (18), vi (x5)] (G4) (fun (G5 : XF) => (xPT (G5) → Q ((G5) (18) 0) (G5))))))))))))) ∧ (¬ ((((F) (18) 0) + (20)) ≤ (600)) → (xPT (F) → Q ((-4)) (F))))) : xMI X d 93 [.ref (0), vi (x1), vi (x2), vi (x3), vi (x4), vi (x5)] F Q := by
  show xW X d 93 0 [.ref (0), vi (x1), vi (x2), vi (x3), vi (x4), vi (x5)] [] F (xqi Q)
  exact s93_0 hPT  t

theorem s94_0 {X : List Int32} {d : Nat} {F : XF} {Q : Int → XF → Prop} {x1 : Int} (hPT : xPT F)  (t : inR (x1) ∧ ((((x1) < (0)) → (xPT (F) → Q ((-3)) (F))) ∧ (¬ ((x1) < (0)) → (inR (x1) ∧ inR ((F) (18) 0) ∧ ((((x1) ≤ ((F) (18) 0)) → (∃ (j1 : Nat), j1 < d ∧ xMV X j1 29 [.ref (18), vi (x1)] (F) (fun (G1 : XF) => (inR ((G1) (18) 1) ∧ (((((G1) (18) 1) = (0)) → (∃ t2 : Nat, (G1) (0) 0 = (t2 : Int) ∧ xob 9 t2 ∧ (∃ (j3 : Nat), j3 < d ∧ xMR X j3 30 [.ref (18), .ref (t2)] (G1) (fun (y3 : Nat) (G3 : XF) => (∃ (j4 : Nat), j4 < d ∧ xMV X j4 1 [.ref (37)] (xup (G3) (0) 0 (y3)) (fun (G4 : XF) => (∃ (j5 : Nat), j5 < d ∧ xMV X j5 96 [.ref (0)] (G4) (fun (G5 : XF) => (xPT (G5) → Q ((G5) (18) 3) (G5)))))))))) ∧ (¬ (((G1) (18) 1) = (0)) → (xPT (G1) → Q (((-30)) - ((G1) (18) 1)) (G1)))))))) ∧ (¬ ((x1) ≤ ((F) (18) 0)) → (xPT (F) → Q ((-3)) (F)))))))) : xW X d 94 0 [.ref (0), vi (x1)] [] F (xqi Q) := by
  refine xw_iload_n (n := 1) (show xlook 94 0 = some (0, .iload_n 1, 1, 0, 0, 0, 0) from xlk (by decide +kernel)) rfl rfl ?_
  obtain ⟨q0, t⟩ := t
  refine xw_if_lt (n := 4) (m := 15) (show xlook 94 1 = some (1, .ifCond .lt 14, 3, 15, 0, 0, 0) from xlk (by decide +kernel)) rfl rfl q0 ⟨fun c => ?_, fun c => ?_⟩
  · replace t := t.1 c
    refine xw_bipush (n := 17) (show xlook 94 15 = some (15, .bipush (-3), 2, 0, 0, 0, 0) from xlk (by decide +kernel)) rfl (by decide) ?_
    exact xw_ireturn hPT (show xlook 94 17 = some (17, .ireturn, 1, 0, 0, 0, 0) from xlk (by decide +kernel)) rfl (t hPT)
  · replace t := t.2 c
    refine xw_iload_n (n := 5) (show xlook 94 4 = some (4, .iload_n 1, 1, 0, 0, 0, 0) from xlk (by decide +kernel)) rfl rfl ?_
    refine xw_aload_n (n := 6) (show xlook 94 5 = some (5, .aload_n 0, 1, 0, 0, 0, 0) from xlk (by decide +kernel)) rfl rfl ?_
    refine xw_getr (q := 18) (show xlook 94 6 = some (6, .getfield 19, 3, 11, 1, 0, 160) from xlk (by decide +kernel)) (by decide) (xobf xob_11 (by decide) (by decide)) rfl (xPT_get (k := 1) (f := 18) hPT xob_11 (by decide)) (by have := (xtg_11_1 _ xob_11.1 xob_11.2).1; omega) (n := 9) rfl ?_
    refine xw_geti (show xlook 94 9 = some (9, .getfield 67, 3, 5, 0, 0, 167) from xlk (by decide +kernel)) (by decide) (xobf (xtg_11_1 _ xob_11.1 xob_11.2) (by decide) (by decide)) rfl (n := 12) rfl ?_
    obtain ⟨q0, q1, t⟩ := t
    refine xw_icmp_le (n := 15) (m := 18) (show xlook 94 12 = some (12, .if_icmp .le 6, 3, 18, 0, 0, 0) from xlk (by decide +kernel)) rfl rfl q0 q1 ⟨fun c => ?_, fun c => ?_⟩
    · replace t := t.1 c
      refine xw_aload_n (n := 19) (show xlook 94 18 = some (18, .aload_n 0, 1, 0, 0, 0, 0) from xlk (by decide +kernel)) rfl rfl ?_
      refine xw_getr (q := 18) (show xlook 94 19 = some (19, .getfield 19, 3, 11, 1, 0, 160) from xlk (by decide +kernel)) (by decide) (xobf xob_11 (by decide) (by decide)) rfl (xPT_get (k := 1) (f := 18) hPT xob_11 (by decide)) (by have := (xtg_11_1 _ xob_11.1 xob_11.2).1; omega) (n := 22) rfl ?_
      refine xw_iload_n (n := 23) (show xlook 94 22 = some (22, .iload_n 1, 1, 0, 0, 0, 0) from xlk (by decide +kernel)) rfl rfl ?_
      obtain ⟨j1, hj1, rr1, G1, hm1, hG1, t⟩ := t
      obtain ⟨rfl, t⟩ := t
      refine xw_callv (dk := j1) (o := 18) (as := [vi (x1)]) (show xlook 94 23 = some (23, .invokevirtual 75, 3, 29, 2, 0, 115) from xlk (by decide +kernel)) (by decide) hj1 ⟨Nat.le_of_ble_eq_true rfl, Nat.le_of_ble_eq_true rfl, Nat.le_of_ble_eq_true rfl⟩ ⟨(xtg_11_1 _ xob_11.1 xob_11.2).1, (xtg_11_1 _ xob_11.1 xob_11.2).2, by decide⟩ rfl hm1 (n := 26) rfl ?_
      show xW X d 94 26 [.ref (0), vi (x1)] [] G1 (xqi Q)
      refine xw_aload_n (n := 27) (show xlook 94 26 = some (26, .aload_n 0, 1, 0, 0, 0, 0) from xlk (by decide +kernel)) rfl rfl ?_
      refine xw_getr (q := 18) (show xlook 94 27 = some (27, .getfield 19, 3, 11, 1, 0, 160) from xlk (by decide +kernel)) (by decide) (xobf xob_11 (by decide) (by decide)) rfl (xPT_get (k := 1) (f := 18) hG1 xob_11 (by decide)) (by have := (xtg_11_1 _ xob_11.1 xob_11.2).1; omega) (n := 30) rfl ?_
      refine xw_geti (show xlook 94 30 = some (30, .getfield 78, 3, 5, 1, 0, 168) from xlk (by decide +kernel)) (by decide) (xobf (xtg_11_1 _ xob_11.1 xob_11.2) (by decide) (by decide)) rfl (n := 33) rfl ?_
      obtain ⟨q0, t⟩ := t
      refine xw_if_eq (n := 36) (m := 47) (show xlook 94 33 = some (33, .ifCond .eq 14, 3, 47, 0, 0, 0) from xlk (by decide +kernel)) rfl rfl q0 ⟨fun c => ?_, fun c => ?_⟩
      · replace t := t.1 c
        refine xw_aload_n (n := 48) (show xlook 94 47 = some (47, .aload_n 0, 1, 0, 0, 0, 0) from xlk (by decide +kernel)) rfl rfl ?_
        refine xw_aload_n (n := 49) (show xlook 94 48 = some (48, .aload_n 0, 1, 0, 0, 0, 0) from xlk (by decide +kernel)) rfl rfl ?_
        refine xw_getr (q := 18) (show xlook 94 49 = some (49, .getfield 19, 3, 11, 1, 0, 160) from xlk (by decide +kernel)) (by decide) (xobf xob_11 (by decide) (by decide)) rfl (xPT_get (k := 1) (f := 18) hG1 xob_11 (by decide)) (by have := (xtg_11_1 _ xob_11.1 xob_11.2).1; omega) (n := 52) rfl ?_
        refine xw_aload_n (n := 53) (show xlook 94 52 = some (52, .aload_n 0, 1, 0, 0, 0, 0) from xlk (by decide +kernel)) rfl rfl ?_
        obtain ⟨t2, q1, ht2, t⟩ := t
        refine xw_getr (q := t2) (show xlook 94 53 = some (53, .getfield 10, 3, 11, 0, 0, 159) from xlk (by decide +kernel)) (by decide) (xobf xob_11 (by decide) (by decide)) rfl q1 (by have := ht2.1; omega) (n := 56) rfl ?_
        obtain ⟨j3, hj3, rr3, G3, hm3, hG3, t⟩ := t
        obtain ⟨y3, rfl, hy3, t⟩ := t
        refine xw_callv (dk := j3) (o := 18) (as := [.ref (t2)]) (show xlook 94 56 = some (56, .invokevirtual 81, 3, 30, 2, 0, 116) from xlk (by decide +kernel)) (by decide) hj3 ⟨Nat.le_of_ble_eq_true rfl, Nat.le_of_ble_eq_true rfl, Nat.le_of_ble_eq_true rfl⟩ ⟨(xtg_11_1 _ xob_11.1 xob_11.2).1, (xtg_11_1 _ xob_11.1 xob_11.2).2, by decide⟩ rfl hm3 (n := 59) rfl ?_
        show xW X d 94 59 [.ref (0), vi (x1)] [.ref (y3), .ref (0)] G3 (xqi Q)
        refine xw_putr (q := y3) (show xlook 94 59 = some (59, .putfield 10, 3, 11, 0, 0, 159) from xlk (by decide +kernel)) (xobf xob_11 (by decide) (by decide)) rfl (by have := hy3.1; omega) (n := 62) rfl ?_
        refine xw_aload_n (n := 63) (show xlook 94 62 = some (62, .aload_n 0, 1, 0, 0, 0, 0) from xlk (by decide +kernel)) rfl rfl ?_
        refine xw_getr (q := 37) (show xlook 94 63 = some (63, .getfield 26, 3, 11, 2, 0, 161) from xlk (by decide +kernel)) (by decide) (xobf xob_11 (by decide) (by decide)) rfl (xPT_get (k := 2) (f := 37) (xPT_fld (k := 0) hG3 xob_11 (by decide) (by decide)) xob_11 (by decide)) (by have := (xtg_11_2 _ xob_11.1 xob_11.2).1; omega) (n := 66) rfl ?_
        obtain ⟨j4, hj4, rr4, G4, hm4, hG4, t⟩ := t
        obtain ⟨rfl, t⟩ := t
        refine xw_callv (dk := j4) (o := 37) (as := []) (show xlook 94 66 = some (66, .invokevirtual 85, 3, 1, 1, 0, 117) from xlk (by decide +kernel)) (by decide) hj4 ⟨Nat.le_of_ble_eq_true rfl, Nat.le_of_ble_eq_true rfl, Nat.le_of_ble_eq_true rfl⟩ ⟨(xtg_11_2 _ xob_11.1 xob_11.2).1, (xtg_11_2 _ xob_11.1 xob_11.2).2, by decide⟩ rfl hm4 (n := 69) rfl ?_
        show xW X d 94 69 [.ref (0), vi (x1)] [] G4 (xqi Q)
        refine xw_aload_n (n := 70) (show xlook 94 69 = some (69, .aload_n 0, 1, 0, 0, 0, 0) from xlk (by decide +kernel)) rfl rfl ?_
        obtain ⟨j5, hj5, rr5, G5, hm5, hG5, t⟩ := t
        obtain ⟨rfl, t⟩ := t
        refine xw_callv (dk := j5) (o := 0) (as := []) (show xlook 94 70 = some (70, .invokevirtual 88, 3, 96, 1, 0, 118) from xlk (by decide +kernel)) (by decide) hj5 ⟨Nat.le_of_ble_eq_true rfl, Nat.le_of_ble_eq_true rfl, Nat.le_of_ble_eq_true rfl⟩ ⟨xob_11.1, xob_11.2, by decide⟩ rfl hm5 (n := 73) rfl ?_
        show xW X d 94 73 [.ref (0), vi (x1)] [] G5 (xqi Q)
        refine xw_aload_n (n := 74) (show xlook 94 73 = some (73, .aload_n 0, 1, 0, 0, 0, 0) from xlk (by decide +kernel)) rfl rfl ?_
        refine xw_getr (q := 18) (show xlook 94 74 = some (74, .getfield 19, 3, 11, 1, 0, 160) from xlk (by decide +kernel)) (by decide) (xobf xob_11 (by decide) (by decide)) rfl (xPT_get (k := 1) (f := 18) hG5 xob_11 (by decide)) (by have := (xtg_11_1 _ xob_11.1 xob_11.2).1; omega) (n := 77) rfl ?_
        refine xw_geti (show xlook 94 77 = some (77, .getfield 91, 3, 5, 3, 0, 169) from xlk (by decide +kernel)) (by decide) (xobf (xtg_11_1 _ xob_11.1 xob_11.2) (by decide) (by decide)) rfl (n := 80) rfl ?_
        exact xw_ireturn hG5 (show xlook 94 80 = some (80, .ireturn, 1, 0, 0, 0, 0) from xlk (by decide +kernel)) rfl (t hG5)
      · replace t := t.2 c
        refine xw_bipush (n := 38) (show xlook 94 36 = some (36, .bipush (-30), 2, 0, 0, 0, 0) from xlk (by decide +kernel)) rfl (by decide) ?_
        refine xw_aload_n (n := 39) (show xlook 94 38 = some (38, .aload_n 0, 1, 0, 0, 0, 0) from xlk (by decide +kernel)) rfl rfl ?_
        refine xw_getr (q := 18) (show xlook 94 39 = some (39, .getfield 19, 3, 11, 1, 0, 160) from xlk (by decide +kernel)) (by decide) (xobf xob_11 (by decide) (by decide)) rfl (xPT_get (k := 1) (f := 18) hG1 xob_11 (by decide)) (by have := (xtg_11_1 _ xob_11.1 xob_11.2).1; omega) (n := 42) rfl ?_
        refine xw_geti (show xlook 94 42 = some (42, .getfield 78, 3, 5, 1, 0, 168) from xlk (by decide +kernel)) (by decide) (xobf (xtg_11_1 _ xob_11.1 xob_11.2) (by decide) (by decide)) rfl (n := 45) rfl ?_
        refine xw_isub (n := 46) (show xlook 94 45 = some (45, .isub, 1, 0, 0, 0, 0) from xlk (by decide +kernel)) rfl ?_
        exact xw_ireturn hG1 (show xlook 94 46 = some (46, .ireturn, 1, 0, 0, 0, 0) from xlk (by decide +kernel)) rfl (t hG1)
    · replace t := t.2 c
      refine xw_bipush (n := 17) (show xlook 94 15 = some (15, .bipush (-3), 2, 0, 0, 0, 0) from xlk (by decide +kernel)) rfl (by decide) ?_
      exact xw_ireturn hPT (show xlook 94 17 = some (17, .ireturn, 1, 0, 0, 0, 0) from xlk (by decide +kernel)) rfl (t hPT)
theorem m94 {X : List Int32} {d : Nat} {F : XF} {Q : Int → XF → Prop} {x1 : Int} (hPT : xPT F)  (t : inR (x1) ∧ ((((x1) < (0)) → (xPT (F) → Q ((-3)) (F))) ∧ (¬ ((x1) < (0)) → (inR (x1) ∧ inR ((F) (18) 0) ∧ ((((x1) ≤ ((F) (18) 0)) → (∃ (j1 : Nat), j1 < d ∧ xMV X j1 29 [.ref (18), vi (x1)] (F) (fun (G1 : XF) => (inR ((G1) (18) 1) ∧ (((((G1) (18) 1) = (0)) → (∃ t2 : Nat, (G1) (0) 0 = (t2 : Int) ∧ xob 9 t2 ∧ (∃ (j3 : Nat), j3 < d ∧ xMR X j3 30 [.ref (18), .ref (t2)] (G1) (fun (y3 : Nat) (G3 : XF) => (∃ (j4 : Nat), j4 < d ∧ xMV X j4 1 [.ref (37)] (xup (G3) (0) 0 (y3)) (fun (G4 : XF) => (∃ (j5 : Nat), j5 < d ∧ xMV X j5 96 [.ref (0)] (G4) (fun (G5 : XF) => (xPT (G5) → Q ((G5) (18) 3) (G5)))))))))) ∧ (¬ (((G1) (18) 1) = (0)) → (xPT (G1) → Q (((-30)) - ((G1) (18) 1)) (G1)))))))) ∧ (¬ ((x1) ≤ ((F) (18) 0)) → (xPT (F) → Q ((-3)) (F)))))))) : xMI X d 94 [.ref (0), vi (x1)] F Q := by
  show xW X d 94 0 [.ref (0), vi (x1)] [] F (xqi Q)
  exact s94_0 hPT  t

theorem s95_0 {X : List Int32} {d : Nat} {F : XF} {Q : Int → XF → Prop} {x1 : Int} (hPT : xPT F)  (t : inR (x1) ∧ (((¬ (x1) = (0)) → (inR (x1) ∧ (((¬ (x1) = (1)) → (xPT (F) → Q ((-1)) (F))) ∧ (¬ (¬ (x1) = (1)) → (xPT (F) → Q ((F) (18) 2) (F)))))) ∧ (¬ (¬ (x1) = (0)) → (xPT (F) → Q ((F) (18) 1) (F))))) : xW X d 95 0 [.ref (0), vi (x1)] [] F (xqi Q) := by
  refine xw_iload_n (n := 1) (show xlook 95 0 = some (0, .iload_n 1, 1, 0, 0, 0, 0) from xlk (by decide +kernel)) rfl rfl ?_
  obtain ⟨q0, t⟩ := t
  refine xw_if_ne (n := 4) (m := 12) (show xlook 95 1 = some (1, .ifCond .ne 11, 3, 12, 0, 0, 0) from xlk (by decide +kernel)) rfl rfl q0 ⟨fun c => ?_, fun c => ?_⟩
  · replace t := t.1 c
    refine xw_iload_n (n := 13) (show xlook 95 12 = some (12, .iload_n 1, 1, 0, 0, 0, 0) from xlk (by decide +kernel)) rfl rfl ?_
    refine xw_iconst (n := 14) (show xlook 95 13 = some (13, .iconst 1, 1, 0, 0, 0, 0) from xlk (by decide +kernel)) rfl ?_
    obtain ⟨q0, t⟩ := t
    refine xw_icmp_ne (n := 17) (m := 27) (show xlook 95 14 = some (14, .if_icmp .ne 13, 3, 27, 0, 0, 0) from xlk (by decide +kernel)) rfl rfl q0 ⟨by decide, by decide⟩ ⟨fun c => ?_, fun c => ?_⟩
    · replace t := t.1 c
      refine xw_iconst (n := 28) (show xlook 95 27 = some (27, .iconst (-1), 1, 0, 0, 0, 0) from xlk (by decide +kernel)) rfl ?_
      exact xw_ireturn hPT (show xlook 95 28 = some (28, .ireturn, 1, 0, 0, 0, 0) from xlk (by decide +kernel)) rfl (t hPT)
    · replace t := t.2 c
      refine xw_aload_n (n := 18) (show xlook 95 17 = some (17, .aload_n 0, 1, 0, 0, 0, 0) from xlk (by decide +kernel)) rfl rfl ?_
      refine xw_getr (q := 18) (show xlook 95 18 = some (18, .getfield 19, 3, 11, 1, 0, 160) from xlk (by decide +kernel)) (by decide) (xobf xob_11 (by decide) (by decide)) rfl (xPT_get (k := 1) (f := 18) hPT xob_11 (by decide)) (by have := (xtg_11_1 _ xob_11.1 xob_11.2).1; omega) (n := 21) rfl ?_
      refine xw_geti (show xlook 95 21 = some (21, .getfield 94, 3, 5, 2, 0, 170) from xlk (by decide +kernel)) (by decide) (xobf (xtg_11_1 _ xob_11.1 xob_11.2) (by decide) (by decide)) rfl (n := 24) rfl ?_
      refine xw_goto (m := 28) (show xlook 95 24 = some (24, .goto 4, 3, 28, 0, 0, 0) from xlk (by decide +kernel)) rfl ?_
      exact xw_ireturn hPT (show xlook 95 28 = some (28, .ireturn, 1, 0, 0, 0, 0) from xlk (by decide +kernel)) rfl (t hPT)
  · replace t := t.2 c
    refine xw_aload_n (n := 5) (show xlook 95 4 = some (4, .aload_n 0, 1, 0, 0, 0, 0) from xlk (by decide +kernel)) rfl rfl ?_
    refine xw_getr (q := 18) (show xlook 95 5 = some (5, .getfield 19, 3, 11, 1, 0, 160) from xlk (by decide +kernel)) (by decide) (xobf xob_11 (by decide) (by decide)) rfl (xPT_get (k := 1) (f := 18) hPT xob_11 (by decide)) (by have := (xtg_11_1 _ xob_11.1 xob_11.2).1; omega) (n := 8) rfl ?_
    refine xw_geti (show xlook 95 8 = some (8, .getfield 78, 3, 5, 1, 0, 168) from xlk (by decide +kernel)) (by decide) (xobf (xtg_11_1 _ xob_11.1 xob_11.2) (by decide) (by decide)) rfl (n := 11) rfl ?_
    exact xw_ireturn hPT (show xlook 95 11 = some (11, .ireturn, 1, 0, 0, 0, 0) from xlk (by decide +kernel)) rfl (t hPT)
theorem m95 {X : List Int32} {d : Nat} {F : XF} {Q : Int → XF → Prop} {x1 : Int} (hPT : xPT F)  (t : inR (x1) ∧ (((¬ (x1) = (0)) → (inR (x1) ∧ (((¬ (x1) = (1)) → (xPT (F) → Q ((-1)) (F))) ∧ (¬ (¬ (x1) = (1)) → (xPT (F) → Q ((F) (18) 2) (F)))))) ∧ (¬ (¬ (x1) = (0)) → (xPT (F) → Q ((F) (18) 1) (F))))) : xMI X d 95 [.ref (0), vi (x1)] F Q := by
  show xW X d 95 0 [.ref (0), vi (x1)] [] F (xqi Q)
  exact s95_0 hPT  t

theorem s96_0 {X : List Int32} {d : Nat} {F : XF} {Q : XF → Prop}  (hPT : xPT F)  (t : ∃ t1 : Nat, (F) (0) 0 = (t1 : Int) ∧ xob 9 t1 ∧ (∃ (j2 : Nat), j2 < d ∧ xMV X j2 48 [.ref (42), .ref (t1)] (F) (fun (G2 : XF) => (∃ (j3 : Nat), j3 < d ∧ xMV X j3 19 [.ref (98)] (G2) (fun (G3 : XF) => (∃ (j4 : Nat), j4 < d ∧ xMV X j4 81 [.ref (104)] (G3) (fun (G4 : XF) => (xPT (G4) → Q (G4))))))))) : xW X d 96 0 [.ref (0)] [] F (xqv Q) := by
  refine xw_aload_n (n := 1) (show xlook 96 0 = some (0, .aload_n 0, 1, 0, 0, 0, 0) from xlk (by decide +kernel)) rfl rfl ?_
  refine xw_getr (q := 42) (show xlook 96 1 = some (1, .getfield 35, 3, 11, 3, 0, 162) from xlk (by decide +kernel)) (by decide) (xobf xob_11 (by decide) (by decide)) rfl (xPT_get (k := 3) (f := 42) hPT xob_11 (by decide)) (by have := (xtg_11_3 _ xob_11.1 xob_11.2).1; omega) (n := 4) rfl ?_
  refine xw_aload_n (n := 5) (show xlook 96 4 = some (4, .aload_n 0, 1, 0, 0, 0, 0) from xlk (by decide +kernel)) rfl rfl ?_
  obtain ⟨t1, q1, ht1, t⟩ := t
  refine xw_getr (q := t1) (show xlook 96 5 = some (5, .getfield 10, 3, 11, 0, 0, 159) from xlk (by decide +kernel)) (by decide) (xobf xob_11 (by decide) (by decide)) rfl q1 (by have := ht1.1; omega) (n := 8) rfl ?_
  obtain ⟨j2, hj2, rr2, G2, hm2, hG2, t⟩ := t
  obtain ⟨rfl, t⟩ := t
  refine xw_callv (dk := j2) (o := 42) (as := [.ref (t1)]) (show xlook 96 8 = some (8, .invokevirtual 63, 3, 48, 2, 0, 113) from xlk (by decide +kernel)) (by decide) hj2 ⟨Nat.le_of_ble_eq_true rfl, Nat.le_of_ble_eq_true rfl, Nat.le_of_ble_eq_true rfl⟩ ⟨(xtg_11_3 _ xob_11.1 xob_11.2).1, (xtg_11_3 _ xob_11.1 xob_11.2).2, by decide⟩ rfl hm2 (n := 11) rfl ?_
  show xW X d 96 11 [.ref (0)] [] G2 (xqv Q)
  refine xw_aload_n (n := 12) (show xlook 96 11 = some (11, .aload_n 0, 1, 0, 0, 0, 0) from xlk (by decide +kernel)) rfl rfl ?_
  refine xw_getr (q := 98) (show xlook 96 12 = some (12, .getfield 45, 3, 11, 5, 0, 164) from xlk (by decide +kernel)) (by decide) (xobf xob_11 (by decide) (by decide)) rfl (xPT_get (k := 5) (f := 98) hG2 xob_11 (by decide)) (by have := (xtg_11_5 _ xob_11.1 xob_11.2).1; omega) (n := 15) rfl ?_
  obtain ⟨j3, hj3, rr3, G3, hm3, hG3, t⟩ := t
  obtain ⟨rfl, t⟩ := t
  refine xw_callv (dk := j3) (o := 98) (as := []) (show xlook 96 15 = some (15, .invokevirtual 97, 3, 19, 1, 0, 119) from xlk (by decide +kernel)) (by decide) hj3 ⟨Nat.le_of_ble_eq_true rfl, Nat.le_of_ble_eq_true rfl, Nat.le_of_ble_eq_true rfl⟩ ⟨(xtg_11_5 _ xob_11.1 xob_11.2).1, (xtg_11_5 _ xob_11.1 xob_11.2).2, by decide⟩ rfl hm3 (n := 18) rfl ?_
  show xW X d 96 18 [.ref (0)] [] G3 (xqv Q)
  refine xw_aload_n (n := 19) (show xlook 96 18 = some (18, .aload_n 0, 1, 0, 0, 0, 0) from xlk (by decide +kernel)) rfl rfl ?_
  refine xw_getr (q := 104) (show xlook 96 19 = some (19, .getfield 52, 3, 11, 6, 0, 165) from xlk (by decide +kernel)) (by decide) (xobf xob_11 (by decide) (by decide)) rfl (xPT_get (k := 6) (f := 104) hG3 xob_11 (by decide)) (by have := (xtg_11_6 _ xob_11.1 xob_11.2).1; omega) (n := 22) rfl ?_
  obtain ⟨j4, hj4, rr4, G4, hm4, hG4, t⟩ := t
  obtain ⟨rfl, t⟩ := t
  refine xw_callv (dk := j4) (o := 104) (as := []) (show xlook 96 22 = some (22, .invokevirtual 98, 3, 81, 1, 0, 120) from xlk (by decide +kernel)) (by decide) hj4 ⟨Nat.le_of_ble_eq_true rfl, Nat.le_of_ble_eq_true rfl, Nat.le_of_ble_eq_true rfl⟩ ⟨(xtg_11_6 _ xob_11.1 xob_11.2).1, (xtg_11_6 _ xob_11.1 xob_11.2).2, by decide⟩ rfl hm4 (n := 25) rfl ?_
  show xW X d 96 25 [.ref (0)] [] G4 (xqv Q)
  exact xw_return hG4 (show xlook 96 25 = some (25, .return_, 1, 0, 0, 0, 0) from xlk (by decide +kernel)) rfl (t hG4)
theorem m96 {X : List Int32} {d : Nat} {F : XF} {Q : XF → Prop}  (hPT : xPT F)  (t : ∃ t1 : Nat, (F) (0) 0 = (t1 : Int) ∧ xob 9 t1 ∧ (∃ (j2 : Nat), j2 < d ∧ xMV X j2 48 [.ref (42), .ref (t1)] (F) (fun (G2 : XF) => (∃ (j3 : Nat), j3 < d ∧ xMV X j3 19 [.ref (98)] (G2) (fun (G3 : XF) => (∃ (j4 : Nat), j4 < d ∧ xMV X j4 81 [.ref (104)] (G3) (fun (G4 : XF) => (xPT (G4) → Q (G4))))))))) : xMV X d 96 [.ref (0)] F Q := by
  show xW X d 96 0 [.ref (0)] [] F (xqv Q)
  exact s96_0 hPT  t

