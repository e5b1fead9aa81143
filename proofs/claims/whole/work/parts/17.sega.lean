set_option maxHeartbeats 4000000
set_option maxRecDepth 100000
theorem s1_0 {X : List Int32} {d : Nat} {F : XF} {Q : XF → Prop}  (hPT : xPT F)  (t : xPT (xup (F) (37) 0 (0)) → Q (xup (F) (37) 0 (0))) : xW X d 1 0 [.ref (37)] [] F (xqv Q) := by
  refine xw_aload_n (n := 1) (show xlook 1 0 = some (0, .aload_n 0, 1, 0, 0, 0, 0) from xlk (by decide +kernel)) rfl rfl ?_
  refine xw_iconst (n := 2) (show xlook 1 1 = some (1, .iconst 0, 1, 0, 0, 0, 0) from xlk (by decide +kernel)) rfl ?_
  refine xw_puti (show xlook 1 2 = some (2, .putfield 24, 3, 0, 0, 0, 4) from xlk (by decide +kernel)) (xobf xob_0 (by decide) (by decide)) rfl (n := 5) rfl ?_
  exact xw_return (xPT_fld (k := 0) hPT xob_0 (by decide) (by decide)) (show xlook 1 5 = some (5, .return_, 1, 0, 0, 0, 0) from xlk (by decide +kernel)) rfl (t (xPT_fld (k := 0) hPT xob_0 (by decide) (by decide)))
theorem m1 {X : List Int32} {d : Nat} {F : XF} {Q : XF → Prop}  (hPT : xPT F)  (t : xPT (xup (F) (37) 0 (0)) → Q (xup (F) (37) 0 (0))) : xMV X d 1 [.ref (37)] F Q := by
  show xW X d 1 0 [.ref (37)] [] F (xqv Q)
  exact s1_0 hPT  t

theorem s2_0 {X : List Int32} {d : Nat} {F : XF} {Q : XF → Prop} {x1 : Int} {x2 : Int} {x3 : Int} {x4 : Int} (hPT : xPT F)  (t : inR ((F) (37) 0) ∧ (((((F) (37) 0) < (10)) → (xPT (F) → xW X d 2 13 [.ref (37), vi (x1), vi (x2), vi (x3), vi (x4)] [] (F) (xqv Q))) ∧ (¬ (((F) (37) 0) < (10)) → (∃ (j1 : Nat), j1 < d ∧ xMV X j1 3 [.ref (37)] (F) (fun (G1 : XF) => (xPT (G1) → xW X d 2 13 [.ref (37), vi (x1), vi (x2), vi (x3), vi (x4)] [] (G1) (xqv Q))))))) : xW X d 2 0 [.ref (37), vi (x1), vi (x2), vi (x3), vi (x4)] [] F (xqv Q) := by
  refine xw_aload_n (n := 1) (show xlook 2 0 = some (0, .aload_n 0, 1, 0, 0, 0, 0) from xlk (by decide +kernel)) rfl rfl ?_
  refine xw_geti (show xlook 2 1 = some (1, .getfield 24, 3, 0, 0, 0, 4) from xlk (by decide +kernel)) (by decide) (xobf xob_0 (by decide) (by decide)) rfl (n := 4) rfl ?_
  refine xw_bipush (n := 6) (show xlook 2 4 = some (4, .bipush 10, 2, 0, 0, 0, 0) from xlk (by decide +kernel)) rfl (by decide) ?_
  obtain ⟨q0, t⟩ := t
  refine xw_icmp_lt (n := 9) (m := 13) (show xlook 2 6 = some (6, .if_icmp .lt 7, 3, 13, 0, 0, 0) from xlk (by decide +kernel)) rfl rfl q0 ⟨by decide, by decide⟩ ⟨fun c => ?_, fun c => ?_⟩
  · replace t := t.1 c
    exact t hPT
  · replace t := t.2 c
    refine xw_aload_n (n := 10) (show xlook 2 9 = some (9, .aload_n 0, 1, 0, 0, 0, 0) from xlk (by decide +kernel)) rfl rfl ?_
    obtain ⟨j1, hj1, rr1, G1, hm1, hG1, t⟩ := t
    obtain ⟨rfl, t⟩ := t
    refine xw_callv (dk := j1) (o := 37) (as := []) (show xlook 2 10 = some (10, .invokevirtual 28, 3, 3, 1, 0, 1) from xlk (by decide +kernel)) (by decide) hj1 ⟨Nat.le_of_ble_eq_true rfl, Nat.le_of_ble_eq_true rfl, Nat.le_of_ble_eq_true rfl⟩ ⟨xob_0.1, xob_0.2, by decide⟩ rfl hm1 (n := 13) rfl ?_
    show xW X d 2 13 [.ref (37), vi (x1), vi (x2), vi (x3), vi (x4)] [] G1 (xqv Q)
    exact t hG1
theorem m2 {X : List Int32} {d : Nat} {F : XF} {Q : XF → Prop} {x1 : Int} {x2 : Int} {x3 : Int} {x4 : Int} (hPT : xPT F)  (t : inR ((F) (37) 0) ∧ (((((F) (37) 0) < (10)) → (xPT (F) → xW X d 2 13 [.ref (37), vi (x1), vi (x2), vi (x3), vi (x4)] [] (F) (xqv Q))) ∧ (¬ (((F) (37) 0) < (10)) → (∃ (j1 : Nat), j1 < d ∧ xMV X j1 3 [.ref (37)] (F) (fun (G1 : XF) => (xPT (G1) → xW X d 2 13 [.ref (37), vi (x1), vi (x2), vi (x3), vi (x4)] [] (G1) (xqv Q))))))) : xMV X d 2 [.ref (37), vi (x1), vi (x2), vi (x3), vi (x4)] F Q := by
  show xW X d 2 0 [.ref (37), vi (x1), vi (x2), vi (x3), vi (x4)] [] F (xqv Q)
  exact s2_0 hPT  t

theorem s2_13 {X : List Int32} {d : Nat} {F : XF} {Q : XF → Prop} {x1 : Int} {x2 : Int} {x3 : Int} {x4 : Int} (hPT : xPT F)  (t : (0 ≤ ((F) (37) 0) ∧ ((F) (37) 0) < 10) ∧ ((0 ≤ ((F) (37) 0) ∧ ((F) (37) 0) < 10) ∧ ((0 ≤ ((F) (37) 0) ∧ ((F) (37) 0) < 10) ∧ ((0 ≤ ((F) (37) 0) ∧ ((F) (37) 0) < 10) ∧ (xPT (xup (xup (xup (xup (xup (F) (38) ((F) (37) 0) (x1)) (39) ((F) (37) 0) (x2)) (40) ((F) (37) 0) (x3)) (41) ((F) (37) 0) (x4)) (37) 0 (((F) (37) 0) + (1))) → Q (xup (xup (xup (xup (xup (F) (38) ((F) (37) 0) (x1)) (39) ((F) (37) 0) (x2)) (40) ((F) (37) 0) (x3)) (41) ((F) (37) 0) (x4)) (37) 0 (((F) (37) 0) + (1)))))))) : xW X d 2 13 [.ref (37), vi (x1), vi (x2), vi (x3), vi (x4)] [] F (xqv Q) := by
  refine xw_aload_n (n := 14) (show xlook 2 13 = some (13, .aload_n 0, 1, 0, 0, 0, 0) from xlk (by decide +kernel)) rfl rfl ?_
  refine xw_getr (q := 38) (show xlook 2 14 = some (14, .getfield 9, 3, 0, 1, 0, 0) from xlk (by decide +kernel)) (by decide) (xobf xob_0 (by decide) (by decide)) rfl (xPT_get (k := 1) (f := 1) hPT xob_0 (by decide)) (by have := (xtg_0_1 _ xob_0.1 xob_0.2).1.1; omega) (n := 17) rfl ?_
  refine xw_aload_n (n := 18) (show xlook 2 17 = some (17, .aload_n 0, 1, 0, 0, 0, 0) from xlk (by decide +kernel)) rfl rfl ?_
  refine xw_geti (show xlook 2 18 = some (18, .getfield 24, 3, 0, 0, 0, 4) from xlk (by decide +kernel)) (by decide) (xobf xob_0 (by decide) (by decide)) rfl (n := 21) rfl ?_
  refine xw_iload_n (n := 22) (show xlook 2 21 = some (21, .iload_n 1, 1, 0, 0, 0, 0) from xlk (by decide +kernel)) rfl rfl ?_
  obtain ⟨q1, t⟩ := t
  refine xw_iast (show xlook 2 22 = some (22, .iastore, 1, 0, 0, 0, 0) from xlk (by decide +kernel)) (xtg_0_1 _ xob_0.1 xob_0.2).1 (by rw [(xtg_0_1 _ xob_0.1 xob_0.2).2]; exact q1) (n := 23) rfl ?_
  refine xw_aload_n (n := 24) (show xlook 2 23 = some (23, .aload_n 0, 1, 0, 0, 0, 0) from xlk (by decide +kernel)) rfl rfl ?_
  refine xw_getr (q := 39) (show xlook 2 24 = some (24, .getfield 15, 3, 0, 2, 0, 1) from xlk (by decide +kernel)) (by decide) (xobf xob_0 (by decide) (by decide)) rfl (xPT_get (k := 2) (f := 2) (xPT_arr hPT (Or.inl (xtg_0_1 _ xob_0.1 xob_0.2).1.2)) xob_0 (by decide)) (by have := (xtg_0_2 _ xob_0.1 xob_0.2).1.1; omega) (n := 27) rfl ?_
  refine xw_aload_n (n := 28) (show xlook 2 27 = some (27, .aload_n 0, 1, 0, 0, 0, 0) from xlk (by decide +kernel)) rfl rfl ?_
  refine xw_geti2 (u := (F) (37) 0) (show xlook 2 28 = some (28, .getfield 24, 3, 0, 0, 0, 4) from xlk (by decide +kernel)) (by decide) (xobf xob_0 (by decide) (by decide)) rfl (xup_o (by decide)) (n := 31) rfl ?_
  refine xw_iload_n (n := 32) (show xlook 2 31 = some (31, .iload_n 2, 1, 0, 0, 0, 0) from xlk (by decide +kernel)) rfl rfl ?_
  obtain ⟨q1, t⟩ := t
  refine xw_iast (show xlook 2 32 = some (32, .iastore, 1, 0, 0, 0, 0) from xlk (by decide +kernel)) (xtg_0_2 _ xob_0.1 xob_0.2).1 (by rw [(xtg_0_2 _ xob_0.1 xob_0.2).2]; exact q1) (n := 33) rfl ?_
  refine xw_aload_n (n := 34) (show xlook 2 33 = some (33, .aload_n 0, 1, 0, 0, 0, 0) from xlk (by decide +kernel)) rfl rfl ?_
  refine xw_getr (q := 40) (show xlook 2 34 = some (34, .getfield 18, 3, 0, 3, 0, 2) from xlk (by decide +kernel)) (by decide) (xobf xob_0 (by decide) (by decide)) rfl (xPT_get (k := 3) (f := 3) (xPT_arr (xPT_arr hPT (Or.inl (xtg_0_1 _ xob_0.1 xob_0.2).1.2)) (Or.inl (xtg_0_2 _ xob_0.1 xob_0.2).1.2)) xob_0 (by decide)) (by have := (xtg_0_3 _ xob_0.1 xob_0.2).1.1; omega) (n := 37) rfl ?_
  refine xw_aload_n (n := 38) (show xlook 2 37 = some (37, .aload_n 0, 1, 0, 0, 0, 0) from xlk (by decide +kernel)) rfl rfl ?_
  refine xw_geti2 (u := (F) (37) 0) (show xlook 2 38 = some (38, .getfield 24, 3, 0, 0, 0, 4) from xlk (by decide +kernel)) (by decide) (xobf xob_0 (by decide) (by decide)) rfl ((xup_o (by decide)).trans (xup_o (by decide))) (n := 41) rfl ?_
  refine xw_iload_n (n := 42) (show xlook 2 41 = some (41, .iload_n 3, 1, 0, 0, 0, 0) from xlk (by decide +kernel)) rfl rfl ?_
  obtain ⟨q1, t⟩ := t
  refine xw_iast (show xlook 2 42 = some (42, .iastore, 1, 0, 0, 0, 0) from xlk (by decide +kernel)) (xtg_0_3 _ xob_0.1 xob_0.2).1 (by rw [(xtg_0_3 _ xob_0.1 xob_0.2).2]; exact q1) (n := 43) rfl ?_
  refine xw_aload_n (n := 44) (show xlook 2 43 = some (43, .aload_n 0, 1, 0, 0, 0, 0) from xlk (by decide +kernel)) rfl rfl ?_
  refine xw_getr (q := 41) (show xlook 2 44 = some (44, .getfield 21, 3, 0, 4, 0, 3) from xlk (by decide +kernel)) (by decide) (xobf xob_0 (by decide) (by decide)) rfl (xPT_get (k := 4) (f := 4) (xPT_arr (xPT_arr (xPT_arr hPT (Or.inl (xtg_0_1 _ xob_0.1 xob_0.2).1.2)) (Or.inl (xtg_0_2 _ xob_0.1 xob_0.2).1.2)) (Or.inl (xtg_0_3 _ xob_0.1 xob_0.2).1.2)) xob_0 (by decide)) (by have := (xtg_0_4 _ xob_0.1 xob_0.2).1.1; omega) (n := 47) rfl ?_
  refine xw_aload_n (n := 48) (show xlook 2 47 = some (47, .aload_n 0, 1, 0, 0, 0, 0) from xlk (by decide +kernel)) rfl rfl ?_
  refine xw_geti2 (u := (F) (37) 0) (show xlook 2 48 = some (48, .getfield 24, 3, 0, 0, 0, 4) from xlk (by decide +kernel)) (by decide) (xobf xob_0 (by decide) (by decide)) rfl ((xup_o (by decide)).trans ((xup_o (by decide)).trans (xup_o (by decide)))) (n := 51) rfl ?_
  refine xw_iload (n := 53) (show xlook 2 51 = some (51, .iload 4, 2, 0, 0, 0, 0) from xlk (by decide +kernel)) rfl rfl ?_
  obtain ⟨q1, t⟩ := t
  refine xw_iast (show xlook 2 53 = some (53, .iastore, 1, 0, 0, 0, 0) from xlk (by decide +kernel)) (xtg_0_4 _ xob_0.1 xob_0.2).1 (by rw [(xtg_0_4 _ xob_0.1 xob_0.2).2]; exact q1) (n := 54) rfl ?_
  refine xw_aload_n (n := 55) (show xlook 2 54 = some (54, .aload_n 0, 1, 0, 0, 0, 0) from xlk (by decide +kernel)) rfl rfl ?_
  refine xw_dupr (n := 56) (show xlook 2 55 = some (55, .dup, 1, 0, 0, 0, 0) from xlk (by decide +kernel)) rfl ?_
  refine xw_geti2 (u := (F) (37) 0) (show xlook 2 56 = some (56, .getfield 24, 3, 0, 0, 0, 4) from xlk (by decide +kernel)) (by decide) (xobf xob_0 (by decide) (by decide)) rfl ((xup_o (by decide)).trans ((xup_o (by decide)).trans ((xup_o (by decide)).trans (xup_o (by decide))))) (n := 59) rfl ?_
  refine xw_iconst (n := 60) (show xlook 2 59 = some (59, .iconst 1, 1, 0, 0, 0, 0) from xlk (by decide +kernel)) rfl ?_
  refine xw_iadd (n := 61) (show xlook 2 60 = some (60, .iadd, 1, 0, 0, 0, 0) from xlk (by decide +kernel)) rfl ?_
  refine xw_puti (show xlook 2 61 = some (61, .putfield 24, 3, 0, 0, 0, 4) from xlk (by decide +kernel)) (xobf xob_0 (by decide) (by decide)) rfl (n := 64) rfl ?_
  exact xw_return (xPT_fld (k := 0) (xPT_arr (xPT_arr (xPT_arr (xPT_arr hPT (Or.inl (xtg_0_1 _ xob_0.1 xob_0.2).1.2)) (Or.inl (xtg_0_2 _ xob_0.1 xob_0.2).1.2)) (Or.inl (xtg_0_3 _ xob_0.1 xob_0.2).1.2)) (Or.inl (xtg_0_4 _ xob_0.1 xob_0.2).1.2)) xob_0 (by decide) (by decide)) (show xlook 2 64 = some (64, .return_, 1, 0, 0, 0, 0) from xlk (by decide +kernel)) rfl (t (xPT_fld (k := 0) (xPT_arr (xPT_arr (xPT_arr (xPT_arr hPT (Or.inl (xtg_0_1 _ xob_0.1 xob_0.2).1.2)) (Or.inl (xtg_0_2 _ xob_0.1 xob_0.2).1.2)) (Or.inl (xtg_0_3 _ xob_0.1 xob_0.2).1.2)) (Or.inl (xtg_0_4 _ xob_0.1 xob_0.2).1.2)) xob_0 (by decide) (by decide)))

theorem s3_0 {X : List Int32} {d : Nat} {F : XF} {Q : XF → Prop} {w1 : Value} (hPT : xPT F)  (t : xPT (F) → xW X d 3 2 [.ref (37), vi (1)] [] (F) (xqv Q)) : xW X d 3 0 [.ref (37), w1] [] F (xqv Q) := by
  refine xw_iconst (n := 1) (show xlook 3 0 = some (0, .iconst 1, 1, 0, 0, 0, 0) from xlk (by decide +kernel)) rfl ?_
  refine xw_istore_n (n := 2) (show xlook 3 1 = some (1, .istore_n 1, 1, 0, 0, 0, 0) from xlk (by decide +kernel)) rfl (ls' := [.ref (37), vi (1)]) (Nat.le_of_ble_eq_true rfl) rfl ?_
  exact t hPT
theorem m3 {X : List Int32} {d : Nat} {F : XF} {Q : XF → Prop}  (hPT : xPT F)  (t : xPT (F) → xW X d 3 2 [.ref (37), vi (1)] [] (F) (xqv Q)) : xMV X d 3 [.ref (37)] F Q := by
  show xW X d 3 0 [.ref (37), xU0] [] F (xqv Q)
  exact s3_0 hPT  t

theorem s3_2 {X : List Int32} {d : Nat} {F : XF} {Q : XF → Prop} {x1 : Int} (hPT : xPT F)  (t : inR (x1) ∧ ((((10) ≤ (x1)) → (xPT (xup (F) (37) 0 (9)) → Q (xup (F) (37) 0 (9)))) ∧ (¬ ((10) ≤ (x1)) → ((0 ≤ (x1) ∧ (x1) < 10) ∧ ((0 ≤ ((x1) - (1)) ∧ ((x1) - (1)) < 10) ∧ ((0 ≤ (x1) ∧ (x1) < 10) ∧ ((0 ≤ ((x1) - (1)) ∧ ((x1) - (1)) < 10) ∧ ((0 ≤ (x1) ∧ (x1) < 10) ∧ ((0 ≤ ((x1) - (1)) ∧ ((x1) - (1)) < 10) ∧ ((0 ≤ (x1) ∧ (x1) < 10) ∧ ((0 ≤ ((x1) - (1)) ∧ ((x1) - (1)) < 10) ∧ (xPT (xup (xup (xup (xup (F) (38) ((x1) - (1)) ((F) (38) (x1))) (39) ((x1) - (1)) ((F) (39) (x1))) (40) ((x1) - (1)) ((F) (40) (x1))) (41) ((x1) - (1)) ((F) (41) (x1))) → xW X d 3 2 [.ref (37), vi (x1 + 1)] [] (xup (xup (xup (xup (F) (38) ((x1) - (1)) ((F) (38) (x1))) (39) ((x1) - (1)) ((F) (39) (x1))) (40) ((x1) - (1)) ((F) (40) (x1))) (41) ((x1) - (1)) ((F) (41) (x1))) (xqv Q))))))))))))) : xW X d 3 2 [.ref (37), vi (x1)] [] F (xqv Q) := by
  refine xw_iload_n (n := 3) (show xlook 3 2 = some (2, .iload_n 1, 1, 0, 0, 0, 0) from xlk (by decide +kernel)) rfl rfl ?_
  refine xw_bipush (n := 5) (show xlook 3 3 = some (3, .bipush 10, 2, 0, 0, 0, 0) from xlk (by decide +kernel)) rfl (by decide) ?_
  obtain ⟨q0, t⟩ := t
  refine xw_icmp_ge (n := 8) (m := 70) (show xlook 3 5 = some (5, .if_icmp .ge 65, 3, 70, 0, 0, 0) from xlk (by decide +kernel)) rfl rfl q0 ⟨by decide, by decide⟩ ⟨fun c => ?_, fun c => ?_⟩
  · replace t := t.1 c
    refine xw_aload_n (n := 71) (show xlook 3 70 = some (70, .aload_n 0, 1, 0, 0, 0, 0) from xlk (by decide +kernel)) rfl rfl ?_
    refine xw_bipush (n := 73) (show xlook 3 71 = some (71, .bipush 9, 2, 0, 0, 0, 0) from xlk (by decide +kernel)) rfl (by decide) ?_
    refine xw_puti (show xlook 3 73 = some (73, .putfield 24, 3, 0, 0, 0, 4) from xlk (by decide +kernel)) (xobf xob_0 (by decide) (by decide)) rfl (n := 76) rfl ?_
    exact xw_return (xPT_fld (k := 0) hPT xob_0 (by decide) (by decide)) (show xlook 3 76 = some (76, .return_, 1, 0, 0, 0, 0) from xlk (by decide +kernel)) rfl (t (xPT_fld (k := 0) hPT xob_0 (by decide) (by decide)))
  · replace t := t.2 c
    refine xw_aload_n (n := 9) (show xlook 3 8 = some (8, .aload_n 0, 1, 0, 0, 0, 0) from xlk (by decide +kernel)) rfl rfl ?_
    refine xw_getr (q := 38) (show xlook 3 9 = some (9, .getfield 9, 3, 0, 1, 0, 0) from xlk (by decide +kernel)) (by decide) (xobf xob_0 (by decide) (by decide)) rfl (xPT_get (k := 1) (f := 1) hPT xob_0 (by decide)) (by have := (xtg_0_1 _ xob_0.1 xob_0.2).1.1; omega) (n := 12) rfl ?_
    refine xw_iload_n (n := 13) (show xlook 3 12 = some (12, .iload_n 1, 1, 0, 0, 0, 0) from xlk (by decide +kernel)) rfl rfl ?_
    refine xw_iconst (n := 14) (show xlook 3 13 = some (13, .iconst 1, 1, 0, 0, 0, 0) from xlk (by decide +kernel)) rfl ?_
    refine xw_isub (n := 15) (show xlook 3 14 = some (14, .isub, 1, 0, 0, 0, 0) from xlk (by decide +kernel)) rfl ?_
    refine xw_aload_n (n := 16) (show xlook 3 15 = some (15, .aload_n 0, 1, 0, 0, 0, 0) from xlk (by decide +kernel)) rfl rfl ?_
    refine xw_getr (q := 38) (show xlook 3 16 = some (16, .getfield 9, 3, 0, 1, 0, 0) from xlk (by decide +kernel)) (by decide) (xobf xob_0 (by decide) (by decide)) rfl (xPT_get (k := 1) (f := 1) hPT xob_0 (by decide)) (by have := (xtg_0_1 _ xob_0.1 xob_0.2).1.1; omega) (n := 19) rfl ?_
    refine xw_iload_n (n := 20) (show xlook 3 19 = some (19, .iload_n 1, 1, 0, 0, 0, 0) from xlk (by decide +kernel)) rfl rfl ?_
    obtain ⟨q1, t⟩ := t
    refine xw_iald (show xlook 3 20 = some (20, .iaload, 1, 0, 0, 0, 0) from xlk (by decide +kernel)) (xtg_0_1 _ xob_0.1 xob_0.2).1 (by rw [(xtg_0_1 _ xob_0.1 xob_0.2).2]; exact q1) (n := 21) rfl ?_
    obtain ⟨q1, t⟩ := t
    refine xw_iast (show xlook 3 21 = some (21, .iastore, 1, 0, 0, 0, 0) from xlk (by decide +kernel)) (xtg_0_1 _ xob_0.1 xob_0.2).1 (by rw [(xtg_0_1 _ xob_0.1 xob_0.2).2]; exact q1) (n := 22) rfl ?_
    refine xw_aload_n (n := 23) (show xlook 3 22 = some (22, .aload_n 0, 1, 0, 0, 0, 0) from xlk (by decide +kernel)) rfl rfl ?_
    refine xw_getr (q := 39) (show xlook 3 23 = some (23, .getfield 15, 3, 0, 2, 0, 1) from xlk (by decide +kernel)) (by decide) (xobf xob_0 (by decide) (by decide)) rfl (xPT_get (k := 2) (f := 2) (xPT_arr hPT (Or.inl (xtg_0_1 _ xob_0.1 xob_0.2).1.2)) xob_0 (by decide)) (by have := (xtg_0_2 _ xob_0.1 xob_0.2).1.1; omega) (n := 26) rfl ?_
    refine xw_iload_n (n := 27) (show xlook 3 26 = some (26, .iload_n 1, 1, 0, 0, 0, 0) from xlk (by decide +kernel)) rfl rfl ?_
    refine xw_iconst (n := 28) (show xlook 3 27 = some (27, .iconst 1, 1, 0, 0, 0, 0) from xlk (by decide +kernel)) rfl ?_
    refine xw_isub (n := 29) (show xlook 3 28 = some (28, .isub, 1, 0, 0, 0, 0) from xlk (by decide +kernel)) rfl ?_
    refine xw_aload_n (n := 30) (show xlook 3 29 = some (29, .aload_n 0, 1, 0, 0, 0, 0) from xlk (by decide +kernel)) rfl rfl ?_
    refine xw_getr (q := 39) (show xlook 3 30 = some (30, .getfield 15, 3, 0, 2, 0, 1) from xlk (by decide +kernel)) (by decide) (xobf xob_0 (by decide) (by decide)) rfl (xPT_get (k := 2) (f := 2) (xPT_arr hPT (Or.inl (xtg_0_1 _ xob_0.1 xob_0.2).1.2)) xob_0 (by decide)) (by have := (xtg_0_2 _ xob_0.1 xob_0.2).1.1; omega) (n := 33) rfl ?_
    refine xw_iload_n (n := 34) (show xlook 3 33 = some (33, .iload_n 1, 1, 0, 0, 0, 0) from xlk (by decide +kernel)) rfl rfl ?_
    obtain ⟨q1, t⟩ := t
    refine xw_iald2 (u := (F) (39) (x1)) (show xlook 3 34 = some (34, .iaload, 1, 0, 0, 0, 0) from xlk (by decide +kernel)) (xtg_0_2 _ xob_0.1 xob_0.2).1 (by rw [(xtg_0_2 _ xob_0.1 xob_0.2).2]; exact q1) (xup_o (by decide)) (n := 35) rfl ?_
    obtain ⟨q1, t⟩ := t
    refine xw_iast (show xlook 3 35 = some (35, .iastore, 1, 0, 0, 0, 0) from xlk (by decide +kernel)) (xtg_0_2 _ xob_0.1 xob_0.2).1 (by rw [(xtg_0_2 _ xob_0.1 xob_0.2).2]; exact q1) (n := 36) rfl ?_
    refine xw_aload_n (n := 37) (show xlook 3 36 = some (36, .aload_n 0, 1, 0, 0, 0, 0) from xlk (by decide +kernel)) rfl rfl ?_
    refine xw_getr (q := 40) (show xlook 3 37 = some (37, .getfield 18, 3, 0, 3, 0, 2) from xlk (by decide +kernel)) (by decide) (xobf xob_0 (by decide) (by decide)) rfl (xPT_get (k := 3) (f := 3) (xPT_arr (xPT_arr hPT (Or.inl (xtg_0_1 _ xob_0.1 xob_0.2).1.2)) (Or.inl (xtg_0_2 _ xob_0.1 xob_0.2).1.2)) xob_0 (by decide)) (by have := (xtg_0_3 _ xob_0.1 xob_0.2).1.1; omega) (n := 40) rfl ?_
    refine xw_iload_n (n := 41) (show xlook 3 40 = some (40, .iload_n 1, 1, 0, 0, 0, 0) from xlk (by decide +kernel)) rfl rfl ?_
    refine xw_iconst (n := 42) (show xlook 3 41 = some (41, .iconst 1, 1, 0, 0, 0, 0) from xlk (by decide +kernel)) rfl ?_
    refine xw_isub (n := 43) (show xlook 3 42 = some (42, .isub, 1, 0, 0, 0, 0) from xlk (by decide +kernel)) rfl ?_
    refine xw_aload_n (n := 44) (show xlook 3 43 = some (43, .aload_n 0, 1, 0, 0, 0, 0) from xlk (by decide +kernel)) rfl rfl ?_
    refine xw_getr (q := 40) (show xlook 3 44 = some (44, .getfield 18, 3, 0, 3, 0, 2) from xlk (by decide +kernel)) (by decide) (xobf xob_0 (by decide) (by decide)) rfl (xPT_get (k := 3) (f := 3) (xPT_arr (xPT_arr hPT (Or.inl (xtg_0_1 _ xob_0.1 xob_0.2).1.2)) (Or.inl (xtg_0_2 _ xob_0.1 xob_0.2).1.2)) xob_0 (by decide)) (by have := (xtg_0_3 _ xob_0.1 xob_0.2).1.1; omega) (n := 47) rfl ?_
    refine xw_iload_n (n := 48) (show xlook 3 47 = some (47, .iload_n 1, 1, 0, 0, 0, 0) from xlk (by decide +kernel)) rfl rfl ?_
    obtain ⟨q1, t⟩ := t
    refine xw_iald2 (u := (F) (40) (x1)) (show xlook 3 48 = some (48, .iaload, 1, 0, 0, 0, 0) from xlk (by decide +kernel)) (xtg_0_3 _ xob_0.1 xob_0.2).1 (by rw [(xtg_0_3 _ xob_0.1 xob_0.2).2]; exact q1) ((xup_o (by decide)).trans (xup_o (by decide))) (n := 49) rfl ?_
    obtain ⟨q1, t⟩ := t
    refine xw_iast (show xlook 3 49 = some (49, .iastore, 1, 0, 0, 0, 0) from xlk (by decide +kernel)) (xtg_0_3 _ xob_0.1 xob_0.2).1 (by rw [(xtg_0_3 _ xob_0.1 xob_0.2).2]; exact q1) (n := 50) rfl ?_
    refine xw_aload_n (n := 51) (show xlook 3 50 = some (50, .aload_n 0, 1, 0, 0, 0, 0) from xlk (by decide +kernel)) rfl rfl ?_
    refine xw_getr (q := 41) (show xlook 3 51 = some (51, .getfield 21, 3, 0, 4, 0, 3) from xlk (by decide +kernel)) (by decide) (xobf xob_0 (by decide) (by decide)) rfl (xPT_get (k := 4) (f := 4) (xPT_arr (xPT_arr (xPT_arr hPT (Or.inl (xtg_0_1 _ xob_0.1 xob_0.2).1.2)) (Or.inl (xtg_0_2 _ xob_0.1 xob_0.2).1.2)) (Or.inl (xtg_0_3 _ xob_0.1 xob_0.2).1.2)) xob_0 (by decide)) (by have := (xtg_0_4 _ xob_0.1 xob_0.2).1.1; omega) (n := 54) rfl ?_
    refine xw_iload_n (n := 55) (show xlook 3 54 = some (54, .iload_n 1, 1, 0, 0, 0, 0) from xlk (by decide +kernel)) rfl rfl ?_
    refine xw_iconst (n := 56) (show xlook 3 55 = some (55, .iconst 1, 1, 0, 0, 0, 0) from xlk (by decide +kernel)) rfl ?_
    refine xw_isub (n := 57) (show xlook 3 56 = some (56, .isub, 1, 0, 0, 0, 0) from xlk (by decide +kernel)) rfl ?_
    refine xw_aload_n (n := 58) (show xlook 3 57 = some (57, .aload_n 0, 1, 0, 0, 0, 0) from xlk (by decide +kernel)) rfl rfl ?_
    refine xw_getr (q := 41) (show xlook 3 58 = some (58, .getfield 21, 3, 0, 4, 0, 3) from xlk (by decide +kernel)) (by decide) (xobf xob_0 (by decide) (by decide)) rfl (xPT_get (k := 4) (f := 4) (xPT_arr (xPT_arr (xPT_arr hPT (Or.inl (xtg_0_1 _ xob_0.1 xob_0.2).1.2)) (Or.inl (xtg_0_2 _ xob_0.1 xob_0.2).1.2)) (Or.inl (xtg_0_3 _ xob_0.1 xob_0.2).1.2)) xob_0 (by decide)) (by have := (xtg_0_4 _ xob_0.1 xob_0.2).1.1; omega) (n := 61) rfl ?_
    refine xw_iload_n (n := 62) (show xlook 3 61 = some (61, .iload_n 1, 1, 0, 0, 0, 0) from xlk (by decide +kernel)) rfl rfl ?_
    obtain ⟨q1, t⟩ := t
    refine xw_iald2 (u := (F) (41) (x1)) (show xlook 3 62 = some (62, .iaload, 1, 0, 0, 0, 0) from xlk (by decide +kernel)) (xtg_0_4 _ xob_0.1 xob_0.2).1 (by rw [(xtg_0_4 _ xob_0.1 xob_0.2).2]; exact q1) ((xup_o (by decide)).trans ((xup_o (by decide)).trans (xup_o (by decide)))) (n := 63) rfl ?_
    obtain ⟨q1, t⟩ := t
    refine xw_iast (show xlook 3 63 = some (63, .iastore, 1, 0, 0, 0, 0) from xlk (by decide +kernel)) (xtg_0_4 _ xob_0.1 xob_0.2).1 (by rw [(xtg_0_4 _ xob_0.1 xob_0.2).2]; exact q1) (n := 64) rfl ?_
    refine xw_iinc (n := 67) (show xlook 3 64 = some (64, .iinc 1 1, 3, 0, 0, 0, 0) from xlk (by decide +kernel)) rfl (ls' := [.ref (37), vi (x1 + 1)]) rfl rfl ?_
    refine xw_goto (m := 2) (show xlook 3 67 = some (67, .goto (-65), 3, 2, 0, 0, 0) from xlk (by decide +kernel)) rfl ?_
    exact t (xPT_arr (xPT_arr (xPT_arr (xPT_arr hPT (Or.inl (xtg_0_1 _ xob_0.1 xob_0.2).1.2)) (Or.inl (xtg_0_2 _ xob_0.1 xob_0.2).1.2)) (Or.inl (xtg_0_3 _ xob_0.1 xob_0.2).1.2)) (Or.inl (xtg_0_4 _ xob_0.1 xob_0.2).1.2))

theorem s4_0 {X : List Int32} {d : Nat} {F : XF} {Q : XF → Prop} {o1 : Nat} (hPT : xPT F) (h1 : xob 9 o1) (t : inR ((F) (37) 0) ∧ ((((1) ≤ ((F) (37) 0)) → ((0 ≤ (((F) (37) 0) - (1)) ∧ (((F) (37) 0) - (1)) < 10) ∧ (inR ((F) (38) (((F) (37) 0) - (1))) ∧ (((F) (38) (((F) (37) 0) - (1)) < 0 ∨ 2 < (F) (38) (((F) (37) 0) - (1))) → ((0 ≤ (((F) (37) 0) - (1)) ∧ (((F) (37) 0) - (1)) < 10) ∧ ((0 ≤ (((F) (37) 0) - (1)) ∧ (((F) (37) 0) - (1)) < 10) ∧ ((0 ≤ (((F) (37) 0) - (1)) ∧ (((F) (37) 0) - (1)) < 10) ∧ (∃ (j1 : Nat), j1 < d ∧ xMV X j1 74 [.ref (o1), vi ((F) (39) (((F) (37) 0) - (1))), vi ((F) (40) (((F) (37) 0) - (1))), vi ((F) (41) (((F) (37) 0) - (1)))] (xup (F) (37) 0 (((F) (37) 0) - (1))) (fun (G1 : XF) => (xPT (G1) → Q (G1)))))))) ∧ ((((F) (38) (((F) (37) 0) - (1))) = 0) → ((0 ≤ (((F) (37) 0) - (1)) ∧ (((F) (37) 0) - (1)) < 10) ∧ (xPT (xup (xup (F) (37) 0 (((F) (37) 0) - (1))) (o1) 8 (xxor ((xup (F) (37) 0 (((F) (37) 0) - (1))) (o1) 8) (xshl (1) ((F) (39) (((F) (37) 0) - (1)))))) → Q (xup (xup (F) (37) 0 (((F) (37) 0) - (1))) (o1) 8 (xxor ((xup (F) (37) 0 (((F) (37) 0) - (1))) (o1) 8) (xshl (1) ((F) (39) (((F) (37) 0) - (1))))))))) ∧ ((((F) (38) (((F) (37) 0) - (1))) = 1) → ((0 ≤ (((F) (37) 0) - (1)) ∧ (((F) (37) 0) - (1)) < 10) ∧ (xPT (xup (xup (F) (37) 0 (((F) (37) 0) - (1))) (o1) 3 ((F) (39) (((F) (37) 0) - (1)))) → Q (xup (xup (F) (37) 0 (((F) (37) 0) - (1))) (o1) 3 ((F) (39) (((F) (37) 0) - (1))))))) ∧ ((((F) (38) (((F) (37) 0) - (1))) = 2) → (inR (((xup (F) (37) 0 (((F) (37) 0) - (1))) (o1) 11) - (1)) ∧ (xPT (xup (xup (F) (37) 0 (((F) (37) 0) - (1))) (o1) 11 (max (0) (((xup (F) (37) 0 (((F) (37) 0) - (1))) (o1) 11) - (1)))) → Q (xup (xup (F) (37) 0 (((F) (37) 0) - (1))) (o1) 11 (max (0) (((xup (F) (37) 0 (((F) (37) 0) - (1))) (o1) 11) - (1)))))))))) ∧ (¬ ((1) ≤ ((F) (37) 0)) → (xPT (F) → Q (F))))) : xW X d 4 0 [.ref (37), .ref (o1)] [] F (xqv Q) := by
  refine xw_aload_n (n := 1) (show xlook 4 0 = some (0, .aload_n 0, 1, 0, 0, 0, 0) from xlk (by decide +kernel)) rfl rfl ?_
  refine xw_geti (show xlook 4 1 = some (1, .getfield 24, 3, 0, 0, 0, 4) from xlk (by decide +kernel)) (by decide) (xobf xob_0 (by decide) (by decide)) rfl (n := 4) rfl ?_
  refine xw_iconst (n := 5) (show xlook 4 4 = some (4, .iconst 1, 1, 0, 0, 0, 0) from xlk (by decide +kernel)) rfl ?_
  obtain ⟨q0, t⟩ := t
  refine xw_icmp_ge (n := 8) (m := 9) (show xlook 4 5 = some (5, .if_icmp .ge 4, 3, 9, 0, 0, 0) from xlk (by decide +kernel)) rfl rfl q0 ⟨by decide, by decide⟩ ⟨fun c => ?_, fun c => ?_⟩
  · replace t := t.1 c
    refine xw_aload_n (n := 10) (show xlook 4 9 = some (9, .aload_n 0, 1, 0, 0, 0, 0) from xlk (by decide +kernel)) rfl rfl ?_
    refine xw_dupr (n := 11) (show xlook 4 10 = some (10, .dup, 1, 0, 0, 0, 0) from xlk (by decide +kernel)) rfl ?_
    refine xw_geti (show xlook 4 11 = some (11, .getfield 24, 3, 0, 0, 0, 4) from xlk (by decide +kernel)) (by decide) (xobf xob_0 (by decide) (by decide)) rfl (n := 14) rfl ?_
    refine xw_iconst (n := 15) (show xlook 4 14 = some (14, .iconst 1, 1, 0, 0, 0, 0) from xlk (by decide +kernel)) rfl ?_
    refine xw_isub (n := 16) (show xlook 4 15 = some (15, .isub, 1, 0, 0, 0, 0) from xlk (by decide +kernel)) rfl ?_
    refine xw_puti (show xlook 4 16 = some (16, .putfield 24, 3, 0, 0, 0, 4) from xlk (by decide +kernel)) (xobf xob_0 (by decide) (by decide)) rfl (n := 19) rfl ?_
    refine xw_aload_n (n := 20) (show xlook 4 19 = some (19, .aload_n 0, 1, 0, 0, 0, 0) from xlk (by decide +kernel)) rfl rfl ?_
    refine xw_getr (q := 38) (show xlook 4 20 = some (20, .getfield 9, 3, 0, 1, 0, 0) from xlk (by decide +kernel)) (by decide) (xobf xob_0 (by decide) (by decide)) rfl (xPT_get (k := 1) (f := 1) (xPT_fld (k := 0) hPT xob_0 (by decide) (by decide)) xob_0 (by decide)) (by have := (xtg_0_1 _ xob_0.1 xob_0.2).1.1; omega) (n := 23) rfl ?_
    refine xw_aload_n (n := 24) (show xlook 4 23 = some (23, .aload_n 0, 1, 0, 0, 0, 0) from xlk (by decide +kernel)) rfl rfl ?_
    refine xw_geti2 (u := ((F) (37) 0) - (1)) (show xlook 4 24 = some (24, .getfield 24, 3, 0, 0, 0, 4) from xlk (by decide +kernel)) (by decide) (xobf xob_0 (by decide) (by decide)) rfl (xup_s) (n := 27) rfl ?_
    obtain ⟨q1, t⟩ := t
    refine xw_iald2 (u := (F) (38) (((F) (37) 0) - (1))) (show xlook 4 27 = some (27, .iaload, 1, 0, 0, 0, 0) from xlk (by decide +kernel)) (xtg_0_1 _ xob_0.1 xob_0.2).1 (by rw [(xtg_0_1 _ xob_0.1 xob_0.2).2]; exact q1) (xup_o (by decide)) (n := 28) rfl ?_
    obtain ⟨q1, td, u0, u1, u2⟩ := t
    by_cases hq : ((F) (38) (((F) (37) 0) - (1)) < 0 ∨ 2 < (F) (38) (((F) (37) 0) - (1)))
    · replace t := td hq
      refine xw_tabOut (t := 112) (show xlook 4 28 = some (28, .tableswitch 84 0 2 #[28, 51, 67], 28, 0, 0, 0, 0) from xlk (by decide +kernel)) q1 hq rfl ?_
      refine xw_aload_n (n := 113) (show xlook 4 112 = some (112, .aload_n 1, 1, 0, 0, 0, 0) from xlk (by decide +kernel)) rfl rfl ?_
      refine xw_aload_n (n := 114) (show xlook 4 113 = some (113, .aload_n 0, 1, 0, 0, 0, 0) from xlk (by decide +kernel)) rfl rfl ?_
      refine xw_getr (q := 39) (show xlook 4 114 = some (114, .getfield 15, 3, 0, 2, 0, 1) from xlk (by decide +kernel)) (by decide) (xobf xob_0 (by decide) (by decide)) rfl (xPT_get (k := 2) (f := 2) (xPT_fld (k := 0) hPT xob_0 (by decide) (by decide)) xob_0 (by decide)) (by have := (xtg_0_2 _ xob_0.1 xob_0.2).1.1; omega) (n := 117) rfl ?_
      refine xw_aload_n (n := 118) (show xlook 4 117 = some (117, .aload_n 0, 1, 0, 0, 0, 0) from xlk (by decide +kernel)) rfl rfl ?_
      refine xw_geti2 (u := ((F) (37) 0) - (1)) (show xlook 4 118 = some (118, .getfield 24, 3, 0, 0, 0, 4) from xlk (by decide +kernel)) (by decide) (xobf xob_0 (by decide) (by decide)) rfl (xup_s) (n := 121) rfl ?_
      obtain ⟨q1, t⟩ := t
      refine xw_iald2 (u := (F) (39) (((F) (37) 0) - (1))) (show xlook 4 121 = some (121, .iaload, 1, 0, 0, 0, 0) from xlk (by decide +kernel)) (xtg_0_2 _ xob_0.1 xob_0.2).1 (by rw [(xtg_0_2 _ xob_0.1 xob_0.2).2]; exact q1) (xup_o (by decide)) (n := 122) rfl ?_
      refine xw_aload_n (n := 123) (show xlook 4 122 = some (122, .aload_n 0, 1, 0, 0, 0, 0) from xlk (by decide +kernel)) rfl rfl ?_
      refine xw_getr (q := 40) (show xlook 4 123 = some (123, .getfield 18, 3, 0, 3, 0, 2) from xlk (by decide +kernel)) (by decide) (xobf xob_0 (by decide) (by decide)) rfl (xPT_get (k := 3) (f := 3) (xPT_fld (k := 0) hPT xob_0 (by decide) (by decide)) xob_0 (by decide)) (by have := (xtg_0_3 _ xob_0.1 xob_0.2).1.1; omega) (n := 126) rfl ?_
      refine xw_aload_n (n := 127) (show xlook 4 126 = some (126, .aload_n 0, 1, 0, 0, 0, 0) from xlk (by decide +kernel)) rfl rfl ?_
      refine xw_geti2 (u := ((F) (37) 0) - (1)) (show xlook 4 127 = some (127, .getfield 24, 3, 0, 0, 0, 4) from xlk (by decide +kernel)) (by decide) (xobf xob_0 (by decide) (by decide)) rfl (xup_s) (n := 130) rfl ?_
      obtain ⟨q1, t⟩ := t
      refine xw_iald2 (u := (F) (40) (((F) (37) 0) - (1))) (show xlook 4 130 = some (130, .iaload, 1, 0, 0, 0, 0) from xlk (by decide +kernel)) (xtg_0_3 _ xob_0.1 xob_0.2).1 (by rw [(xtg_0_3 _ xob_0.1 xob_0.2).2]; exact q1) (xup_o (by decide)) (n := 131) rfl ?_
      refine xw_aload_n (n := 132) (show xlook 4 131 = some (131, .aload_n 0, 1, 0, 0, 0, 0) from xlk (by decide +kernel)) rfl rfl ?_
      refine xw_getr (q := 41) (show xlook 4 132 = some (132, .getfield 21, 3, 0, 4, 0, 3) from xlk (by decide +kernel)) (by decide) (xobf xob_0 (by decide) (by decide)) rfl (xPT_get (k := 4) (f := 4) (xPT_fld (k := 0) hPT xob_0 (by decide) (by decide)) xob_0 (by decide)) (by have := (xtg_0_4 _ xob_0.1 xob_0.2).1.1; omega) (n := 135) rfl ?_
      refine xw_aload_n (n := 136) (show xlook 4 135 = some (135, .aload_n 0, 1, 0, 0, 0, 0) from xlk (by decide +kernel)) rfl rfl ?_
      refine xw_geti2 (u := ((F) (37) 0) - (1)) (show xlook 4 136 = some (136, .getfield 24, 3, 0, 0, 0, 4) from xlk (by decide +kernel)) (by decide) (xobf xob_0 (by decide) (by decide)) rfl (xup_s) (n := 139) rfl ?_
      obtain ⟨q1, t⟩ := t
      refine xw_iald2 (u := (F) (41) (((F) (37) 0) - (1))) (show xlook 4 139 = some (139, .iaload, 1, 0, 0, 0, 0) from xlk (by decide +kernel)) (xtg_0_4 _ xob_0.1 xob_0.2).1 (by rw [(xtg_0_4 _ xob_0.1 xob_0.2).2]; exact q1) (xup_o (by decide)) (n := 140) rfl ?_
      obtain ⟨j1, hj1, rr1, G1, hm1, hG1, t⟩ := t
      obtain ⟨rfl, t⟩ := t
      refine xw_callv (dk := j1) (o := o1) (as := [vi ((F) (39) (((F) (37) 0) - (1))), vi ((F) (40) (((F) (37) 0) - (1))), vi ((F) (41) (((F) (37) 0) - (1)))]) (show xlook 4 140 = some (140, .invokevirtual 48, 3, 74, 4, 0, 3) from xlk (by decide +kernel)) (by decide) hj1 ⟨Nat.le_of_ble_eq_true rfl, Nat.le_of_ble_eq_true rfl, Nat.le_of_ble_eq_true rfl⟩ ⟨h1.1, h1.2, by decide⟩ rfl hm1 (n := 143) rfl ?_
      show xW X d 4 143 [.ref (37), .ref (o1)] [] G1 (xqv Q)
      exact xw_return hG1 (show xlook 4 143 = some (143, .return_, 1, 0, 0, 0, 0) from xlk (by decide +kernel)) rfl (t hG1)
    rcases (show ((F) (38) (((F) (37) 0) - (1))) = 0 ∨ ((F) (38) (((F) (37) 0) - (1))) = 1 ∨ ((F) (38) (((F) (37) 0) - (1))) = 2 by omega) with e | e | e
    · replace t := u0 e
      refine xw_tabIn (off := 28) (t := 56) (show xlook 4 28 = some (28, .tableswitch 84 0 2 #[28, 51, 67], 28, 0, 0, 0, 0) from xlk (by decide +kernel)) q1 hq (by show (#[28, 51, 67] : Array Int)[(((F) (38) (((F) (37) 0) - (1)) : Int) - (0)).toNat]? = some (28); rw [e]; rfl) rfl ?_
      refine xw_aload_n (n := 57) (show xlook 4 56 = some (56, .aload_n 1, 1, 0, 0, 0, 0) from xlk (by decide +kernel)) rfl rfl ?_
      refine xw_dupr (n := 58) (show xlook 4 57 = some (57, .dup, 1, 0, 0, 0, 0) from xlk (by decide +kernel)) rfl ?_
      refine xw_geti (show xlook 4 58 = some (58, .getfield 31, 3, 9, 8, 0, 5) from xlk (by decide +kernel)) (by decide) (xobf h1 (by decide) (by decide)) rfl (n := 61) rfl ?_
      refine xw_iconst (n := 62) (show xlook 4 61 = some (61, .iconst 1, 1, 0, 0, 0, 0) from xlk (by decide +kernel)) rfl ?_
      refine xw_aload_n (n := 63) (show xlook 4 62 = some (62, .aload_n 0, 1, 0, 0, 0, 0) from xlk (by decide +kernel)) rfl rfl ?_
      refine xw_getr (q := 39) (show xlook 4 63 = some (63, .getfield 15, 3, 0, 2, 0, 1) from xlk (by decide +kernel)) (by decide) (xobf xob_0 (by decide) (by decide)) rfl (xPT_get (k := 2) (f := 2) (xPT_fld (k := 0) hPT xob_0 (by decide) (by decide)) xob_0 (by decide)) (by have := (xtg_0_2 _ xob_0.1 xob_0.2).1.1; omega) (n := 66) rfl ?_
      refine xw_aload_n (n := 67) (show xlook 4 66 = some (66, .aload_n 0, 1, 0, 0, 0, 0) from xlk (by decide +kernel)) rfl rfl ?_
      refine xw_geti2 (u := ((F) (37) 0) - (1)) (show xlook 4 67 = some (67, .getfield 24, 3, 0, 0, 0, 4) from xlk (by decide +kernel)) (by decide) (xobf xob_0 (by decide) (by decide)) rfl (xup_s) (n := 70) rfl ?_
      obtain ⟨q1, t⟩ := t
      refine xw_iald2 (u := (F) (39) (((F) (37) 0) - (1))) (show xlook 4 70 = some (70, .iaload, 1, 0, 0, 0, 0) from xlk (by decide +kernel)) (xtg_0_2 _ xob_0.1 xob_0.2).1 (by rw [(xtg_0_2 _ xob_0.1 xob_0.2).2]; exact q1) (xup_o (by decide)) (n := 71) rfl ?_
      refine xw_ishl (n := 72) (show xlook 4 71 = some (71, .ishl, 1, 0, 0, 0, 0) from xlk (by decide +kernel)) rfl ?_
      refine xw_ixor (n := 73) (show xlook 4 72 = some (72, .ixor, 1, 0, 0, 0, 0) from xlk (by decide +kernel)) rfl ?_
      refine xw_puti (show xlook 4 73 = some (73, .putfield 31, 3, 9, 8, 0, 5) from xlk (by decide +kernel)) (xobf h1 (by decide) (by decide)) rfl (n := 76) rfl ?_
      refine xw_goto (m := 143) (show xlook 4 76 = some (76, .goto 67, 3, 143, 0, 0, 0) from xlk (by decide +kernel)) rfl ?_
      exact xw_return (xPT_fld (k := 8) (xPT_fld (k := 0) hPT xob_0 (by decide) (by decide)) h1 (by decide) (by decide)) (show xlook 4 143 = some (143, .return_, 1, 0, 0, 0, 0) from xlk (by decide +kernel)) rfl (t (xPT_fld (k := 8) (xPT_fld (k := 0) hPT xob_0 (by decide) (by decide)) h1 (by decide) (by decide)))
    · replace t := u1 e
      refine xw_tabIn (off := 51) (t := 79) (show xlook 4 28 = some (28, .tableswitch 84 0 2 #[28, 51, 67], 28, 0, 0, 0, 0) from xlk (by decide +kernel)) q1 hq (by show (#[28, 51, 67] : Array Int)[(((F) (38) (((F) (37) 0) - (1)) : Int) - (0)).toNat]? = some (51); rw [e]; rfl) rfl ?_
      refine xw_aload_n (n := 80) (show xlook 4 79 = some (79, .aload_n 1, 1, 0, 0, 0, 0) from xlk (by decide +kernel)) rfl rfl ?_
      refine xw_aload_n (n := 81) (show xlook 4 80 = some (80, .aload_n 0, 1, 0, 0, 0, 0) from xlk (by decide +kernel)) rfl rfl ?_
      refine xw_getr (q := 39) (show xlook 4 81 = some (81, .getfield 15, 3, 0, 2, 0, 1) from xlk (by decide +kernel)) (by decide) (xobf xob_0 (by decide) (by decide)) rfl (xPT_get (k := 2) (f := 2) (xPT_fld (k := 0) hPT xob_0 (by decide) (by decide)) xob_0 (by decide)) (by have := (xtg_0_2 _ xob_0.1 xob_0.2).1.1; omega) (n := 84) rfl ?_
      refine xw_aload_n (n := 85) (show xlook 4 84 = some (84, .aload_n 0, 1, 0, 0, 0, 0) from xlk (by decide +kernel)) rfl rfl ?_
      refine xw_geti2 (u := ((F) (37) 0) - (1)) (show xlook 4 85 = some (85, .getfield 24, 3, 0, 0, 0, 4) from xlk (by decide +kernel)) (by decide) (xobf xob_0 (by decide) (by decide)) rfl (xup_s) (n := 88) rfl ?_
      obtain ⟨q1, t⟩ := t
      refine xw_iald2 (u := (F) (39) (((F) (37) 0) - (1))) (show xlook 4 88 = some (88, .iaload, 1, 0, 0, 0, 0) from xlk (by decide +kernel)) (xtg_0_2 _ xob_0.1 xob_0.2).1 (by rw [(xtg_0_2 _ xob_0.1 xob_0.2).2]; exact q1) (xup_o (by decide)) (n := 89) rfl ?_
      refine xw_puti (show xlook 4 89 = some (89, .putfield 36, 3, 9, 3, 0, 6) from xlk (by decide +kernel)) (xobf h1 (by decide) (by decide)) rfl (n := 92) rfl ?_
      refine xw_goto (m := 143) (show xlook 4 92 = some (92, .goto 51, 3, 143, 0, 0, 0) from xlk (by decide +kernel)) rfl ?_
      exact xw_return (xPT_fld (k := 3) (xPT_fld (k := 0) hPT xob_0 (by decide) (by decide)) h1 (by decide) (by decide)) (show xlook 4 143 = some (143, .return_, 1, 0, 0, 0, 0) from xlk (by decide +kernel)) rfl (t (xPT_fld (k := 3) (xPT_fld (k := 0) hPT xob_0 (by decide) (by decide)) h1 (by decide) (by decide)))
    · replace t := u2 e
      refine xw_tabIn (off := 67) (t := 95) (show xlook 4 28 = some (28, .tableswitch 84 0 2 #[28, 51, 67], 28, 0, 0, 0, 0) from xlk (by decide +kernel)) q1 hq (by show (#[28, 51, 67] : Array Int)[(((F) (38) (((F) (37) 0) - (1)) : Int) - (0)).toNat]? = some (67); rw [e]; rfl) rfl ?_
      refine xw_aload_n (n := 96) (show xlook 4 95 = some (95, .aload_n 1, 1, 0, 0, 0, 0) from xlk (by decide +kernel)) rfl rfl ?_
      refine xw_iconst (n := 97) (show xlook 4 96 = some (96, .iconst 0, 1, 0, 0, 0, 0) from xlk (by decide +kernel)) rfl ?_
      refine xw_aload_n (n := 98) (show xlook 4 97 = some (97, .aload_n 1, 1, 0, 0, 0, 0) from xlk (by decide +kernel)) rfl rfl ?_
      refine xw_geti (show xlook 4 98 = some (98, .getfield 39, 3, 9, 11, 0, 7) from xlk (by decide +kernel)) (by decide) (xobf h1 (by decide) (by decide)) rfl (n := 101) rfl ?_
      refine xw_iconst (n := 102) (show xlook 4 101 = some (101, .iconst 1, 1, 0, 0, 0, 0) from xlk (by decide +kernel)) rfl ?_
      refine xw_isub (n := 103) (show xlook 4 102 = some (102, .isub, 1, 0, 0, 0, 0) from xlk (by decide +kernel)) rfl ?_
      obtain ⟨q1, t⟩ := t
      refine xw_max (show xlook 4 103 = some (103, .invokestatic 42, 3, 1001, 2, 0, 2) from xlk (by decide +kernel)) rfl (Nat.le_of_ble_eq_true rfl) ⟨by decide, by decide⟩ q1 (n := 106) rfl ?_
      refine xw_puti (show xlook 4 106 = some (106, .putfield 39, 3, 9, 11, 0, 7) from xlk (by decide +kernel)) (xobf h1 (by decide) (by decide)) rfl (n := 109) rfl ?_
      refine xw_goto (m := 143) (show xlook 4 109 = some (109, .goto 34, 3, 143, 0, 0, 0) from xlk (by decide +kernel)) rfl ?_
      exact xw_return (xPT_fld (k := 11) (xPT_fld (k := 0) hPT xob_0 (by decide) (by decide)) h1 (by decide) (by decide)) (show xlook 4 143 = some (143, .return_, 1, 0, 0, 0, 0) from xlk (by decide +kernel)) rfl (t (xPT_fld (k := 11) (xPT_fld (k := 0) hPT xob_0 (by decide) (by decide)) h1 (by decide) (by decide)))
  · replace t := t.2 c
    exact xw_return hPT (show xlook 4 8 = some (8, .return_, 1, 0, 0, 0, 0) from xlk (by decide +kernel)) rfl (t hPT)
theorem m4 {X : List Int32} {d : Nat} {F : XF} {Q : XF → Prop} {o1 : Nat} (hPT : xPT F) (h1 : xob 9 o1) (t : inR ((F) (37) 0) ∧ ((((1) ≤ ((F) (37) 0)) → ((0 ≤ (((F) (37) 0) - (1)) ∧ (((F) (37) 0) - (1)) < 10) ∧ (inR ((F) (38) (((F) (37) 0) - (1))) ∧ (((F) (38) (((F) (37) 0) - (1)) < 0 ∨ 2 < (F) (38) (((F) (37) 0) - (1))) → ((0 ≤ (((F) (37) 0) - (1)) ∧ (((F) (37) 0) - (1)) < 10) ∧ ((0 ≤ (((F) (37) 0) - (1)) ∧ (((F) (37) 0) - (1)) < 10) ∧ ((0 ≤ (((F) (37) 0) - (1)) ∧ (((F) (37) 0) - (1)) < 10) ∧ (∃ (j1 : Nat), j1 < d ∧ xMV X j1 74 [.ref (o1), vi ((F) (39) (((F) (37) 0) - (1))), vi ((F) (40) (((F) (37) 0) - (1))), vi ((F) (41) (((F) (37) 0) - (1)))] (xup (F) (37) 0 (((F) (37) 0) - (1))) (fun (G1 : XF) => (xPT (G1) → Q (G1)))))))) ∧ ((((F) (38) (((F) (37) 0) - (1))) = 0) → ((0 ≤ (((F) (37) 0) - (1)) ∧ (((F) (37) 0) - (1)) < 10) ∧ (xPT (xup (xup (F) (37) 0 (((F) (37) 0) - (1))) (o1) 8 (xxor ((xup (F) (37) 0 (((F) (37) 0) - (1))) (o1) 8) (xshl (1) ((F) (39) (((F) (37) 0) - (1)))))) → Q (xup (xup (F) (37) 0 (((F) (37) 0) - (1))) (o1) 8 (xxor ((xup (F) (37) 0 (((F) (37) 0) - (1))) (o1) 8) (xshl (1) ((F) (39) (((F) (37) 0) - (1))))))))) ∧ ((((F) (38) (((F) (37) 0) - (1))) = 1) → ((0 ≤ (((F) (37) 0) - (1)) ∧ (((F) (37) 0) - (1)) < 10) ∧ (xPT (xup (xup (F) (37) 0 (((F) (37) 0) - (1))) (o1) 3 ((F) (39) (((F) (37) 0) - (1)))) → Q (xup (xup (F) (37) 0 (((F) (37) 0) - (1))) (o1) 3 ((F) (39) (((F) (37) 0) - (1))))))) ∧ ((((F) (38) (((F) (37) 0) - (1))) = 2) → (inR (((xup (F) (37) 0 (((F) (37) 0) - (1))) (o1) 11) - (1)) ∧ (xPT (xup (xup (F) (37) 0 (((F) (37) 0) - (1))) (o1) 11 (max (0) (((xup (F) (37) 0 (((F) (37) 0) - (1))) (o1) 11) - (1)))) → Q (xup (xup (F) (37) 0 (((F) (37) 0) - (1))) (o1) 11 (max (0) (((xup (F) (37) 0 (((F) (37) 0) - (1))) (o1) 11) - (1)))))))))) ∧ (¬ ((1) ≤ ((F) (37) 0)) → (xPT (F) → Q (F))))) : xMV X d 4 [.ref (37), .ref (o1)] F Q := by
  show xW X d 4 0 [.ref (37), .ref (o1)] [] F (xqv Q)
  exact s4_0 hPT h1 t

theorem s6_0 {X : List Int32} {d : Nat} {F : XF} {Q : XF → Prop} {o0 : Nat} {o1 : Nat} (hPT : xPT F) (h0 : xob 1 o0) (h1 : xob 1 o1) (t : xPT (xup (xup (xup (xup (xup (xup (xup (F) (o0) 0 ((F) (o1) 0)) (o0) 1 ((xup (F) (o0) 0 ((F) (o1) 0)) (o1) 1)) (o0) 2 ((xup (xup (F) (o0) 0 ((F) (o1) 0)) (o0) 1 ((xup (F) (o0) 0 ((F) (o1) 0)) (o1) 1)) (o1) 2)) (o0) 3 ((xup (xup (xup (F) (o0) 0 ((F) (o1) 0)) (o0) 1 ((xup (F) (o0) 0 ((F) (o1) 0)) (o1) 1)) (o0) 2 ((xup (xup (F) (o0) 0 ((F) (o1) 0)) (o0) 1 ((xup (F) (o0) 0 ((F) (o1) 0)) (o1) 1)) (o1) 2)) (o1) 3)) (o0) 4 ((xup (xup (xup (xup (F) (o0) 0 ((F) (o1) 0)) (o0) 1 ((xup (F) (o0) 0 ((F) (o1) 0)) (o1) 1)) (o0) 2 ((xup (xup (F) (o0) 0 ((F) (o1) 0)) (o0) 1 ((xup (F) (o0) 0 ((F) (o1) 0)) (o1) 1)) (o1) 2)) (o0) 3 ((xup (xup (xup (F) (o0) 0 ((F) (o1) 0)) (o0) 1 ((xup (F) (o0) 0 ((F) (o1) 0)) (o1) 1)) (o0) 2 ((xup (xup (F) (o0) 0 ((F) (o1) 0)) (o0) 1 ((xup (F) (o0) 0 ((F) (o1) 0)) (o1) 1)) (o1) 2)) (o1) 3)) (o1) 4)) (o0) 5 ((xup (xup (xup (xup (xup (F) (o0) 0 ((F) (o1) 0)) (o0) 1 ((xup (F) (o0) 0 ((F) (o1) 0)) (o1) 1)) (o0) 2 ((xup (xup (F) (o0) 0 ((F) (o1) 0)) (o0) 1 ((xup (F) (o0) 0 ((F) (o1) 0)) (o1) 1)) (o1) 2)) (o0) 3 ((xup (xup (xup (F) (o0) 0 ((F) (o1) 0)) (o0) 1 ((xup (F) (o0) 0 ((F) (o1) 0)) (o1) 1)) (o0) 2 ((xup (xup (F) (o0) 0 ((F) (o1) 0)) (o0) 1 ((xup (F) (o0) 0 ((F) (o1) 0)) (o1) 1)) (o1) 2)) (o1) 3)) (o0) 4 ((xup (xup (xup (xup (F) (o0) 0 ((F) (o1) 0)) (o0) 1 ((xup (F) (o0) 0 ((F) (o1) 0)) (o1) 1)) (o0) 2 ((xup (xup (F) (o0) 0 ((F) (o1) 0)) (o0) 1 ((xup (F) (o0) 0 ((F) (o1) 0)) (o1) 1)) (o1) 2)) (o0) 3 ((xup (xup (xup (F) (o0) 0 ((F) (o1) 0)) (o0) 1 ((xup (F) (o0) 0 ((F) (o1) 0)) (o1) 1)) (o0) 2 ((xup (xup (F) (o0) 0 ((F) (o1) 0)) (o0) 1 ((xup (F) (o0) 0 ((F) (o1) 0)) (o1) 1)) (o1) 2)) (o1) 3)) (o1) 4)) (o1) 5)) (o0) 6 ((xup (xup (xup (xup (xup (xup (F) (o0) 0 ((F) (o1) 0)) (o0) 1 ((xup (F) (o0) 0 ((F) (o1) 0)) (o1) 1)) (o0) 2 ((xup (xup (F) (o0) 0 ((F) (o1) 0)) (o0) 1 ((xup (F) (o0) 0 ((F) (o1) 0)) (o1) 1)) (o1) 2)) (o0) 3 ((xup (xup (xup (F) (o0) 0 ((F) (o1) 0)) (o0) 1 ((xup (F) (o0) 0 ((F) (o1) 0)) (o1) 1)) (o0) 2 ((xup (xup (F) (o0) 0 ((F) (o1) 0)) (o0) 1 ((xup (F) (o0) 0 ((F) (o1) 0)) (o1) 1)) (o1) 2)) (o1) 3)) (o0) 4 ((xup (xup (xup (xup (F) (o0) 0 ((F) (o1) 0)) (o0) 1 ((xup (F) (o0) 0 ((F) (o1) 0)) (o1) 1)) (o0) 2 ((xup (xup (F) (o0) 0 ((F) (o1) 0)) (o0) 1 ((xup (F) (o0) 0 ((F) (o1) 0)) (o1) 1)) (o1) 2)) (o0) 3 ((xup (xup (xup (F) (o0) 0 ((F) (o1) 0)) (o0) 1 ((xup (F) (o0) 0 ((F) (o1) 0)) (o1) 1)) (o0) 2 ((xup (xup (F) (o0) 0 ((F) (o1) 0)) (o0) 1 ((xup (F) (o0) 0 ((F) (o1) 0)) (o1) 1)) (o1) 2)) (o1) 3)) (o1) 4)) (o0) 5 ((xup (xup (xup (xup (xup (F) (o0) 0 ((F) (o1) 0)) (o0) 1 ((xup (F) (o0) 0 ((F) (o1) 0)) (o1) 1)) (o0) 2 ((xup (xup (F) (o0) 0 ((F) (o1) 0)) (o0) 1 ((xup (F) (o0) 0 ((F) (o1) 0)) (o1) 1)) (o1) 2)) (o0) 3 ((xup (xup (xup (F) (o0) 0 ((F) (o1) 0)) (o0) 1 ((xup (F) (o0) 0 ((F) (o1) 0)) (o1) 1)) (o0) 2 ((xup (xup (F) (o0) 0 ((F) (o1) 0)) (o0) 1 ((xup (F) (o0) 0 ((F) (o1) 0)) (o1) 1)) (o1) 2)) (o1) 3)) (o0) 4 ((xup (xup (xup (xup (F) (o0) 0 ((F) (o1) 0)) (o0) 1 ((xup (F) (o0) 0 ((F) (o1) 0)) (o1) 1)) (o0) 2 ((xup (xup (F) (o0) 0 ((F) (o1) 0)) (o0) 1 ((xup (F) (o0) 0 ((F) (o1) 0)) (o1) 1)) (o1) 2)) (o0) 3 ((xup (xup (xup (F) (o0) 0 ((F) (o1) 0)) (o0) 1 ((xup (F) (o0) 0 ((F) (o1) 0)) (o1) 1)) (o0) 2 ((xup (xup (F) (o0) 0 ((F) (o1) 0)) (o0) 1 ((xup (F) (o0) 0 ((F) (o1) 0)) (o1) 1)) (o1) 2)) (o1) 3)) (o1) 4)) (o1) 5)) (o1) 6)) → Q (xup (xup (xup (xup (xup (xup (xup (F) (o0) 0 ((F) (o1) 0)) (o0) 1 ((xup (F) (o0) 0 ((F) (o1) 0)) (o1) 1)) (o0) 2 ((xup (xup (F) (o0) 0 ((F) (o1) 0)) (o0) 1 ((xup (F) (o0) 0 ((F) (o1) 0)) (o1) 1)) (o1) 2)) (o0) 3 ((xup (xup (xup (F) (o0) 0 ((F) (o1) 0)) (o0) 1 ((xup (F) (o0) 0 ((F) (o1) 0)) (o1) 1)) (o0) 2 ((xup (xup (F) (o0) 0 ((F) (o1) 0)) (o0) 1 ((xup (F) (o0) 0 ((F) (o1) 0)) (o1) 1)) (o1) 2)) (o1) 3)) (o0) 4 ((xup (xup (xup (xup (F) (o0) 0 ((F) (o1) 0)) (o0) 1 ((xup (F) (o0) 0 ((F) (o1) 0)) (o1) 1)) (o0) 2 ((xup (xup (F) (o0) 0 ((F) (o1) 0)) (o0) 1 ((xup (F) (o0) 0 ((F) (o1) 0)) (o1) 1)) (o1) 2)) (o0) 3 ((xup (xup (xup (F) (o0) 0 ((F) (o1) 0)) (o0) 1 ((xup (F) (o0) 0 ((F) (o1) 0)) (o1) 1)) (o0) 2 ((xup (xup (F) (o0) 0 ((F) (o1) 0)) (o0) 1 ((xup (F) (o0) 0 ((F) (o1) 0)) (o1) 1)) (o1) 2)) (o1) 3)) (o1) 4)) (o0) 5 ((xup (xup (xup (xup (xup (F) (o0) 0 ((F) (o1) 0)) (o0) 1 ((xup (F) (o0) 0 ((F) (o1) 0)) (o1) 1)) (o0) 2 ((xup (xup (F) (o0) 0 ((F) (o1) 0)) (o0) 1 ((xup (F) (o0) 0 ((F) (o1) 0)) (o1) 1)) (o1) 2)) (o0) 3 ((xup (xup (xup (F) (o0) 0 ((F) (o1) 0)) (o0) 1 ((xup (F) (o0) 0 ((F) (o1) 0)) (o1) 1)) (o0) 2 ((xup (xup (F) (o0) 0 ((F) (o1) 0)) (o0) 1 ((xup (F) (o0) 0 ((F) (o1) 0)) (o1) 1)) (o1) 2)) (o1) 3)) (o0) 4 ((xup (xup (xup (xup (F) (o0) 0 ((F) (o1) 0)) (o0) 1 ((xup (F) (o0) 0 ((F) (o1) 0)) (o1) 1)) (o0) 2 ((xup (xup (F) (o0) 0 ((F) (o1) 0)) (o0) 1 ((xup (F) (o0) 0 ((F) (o1) 0)) (o1) 1)) (o1) 2)) (o0) 3 ((xup (xup (xup (F) (o0) 0 ((F) (o1) 0)) (o0) 1 ((xup (F) (o0) 0 ((F) (o1) 0)) (o1) 1)) (o0) 2 ((xup (xup (F) (o0) 0 ((F) (o1) 0)) (o0) 1 ((xup (F) (o0) 0 ((F) (o1) 0)) (o1) 1)) (o1) 2)) (o1) 3)) (o1) 4)) (o1) 5)) (o0) 6 ((xup (xup (xup (xup (xup (xup (F) (o0) 0 ((F) (o1) 0)) (o0) 1 ((xup (F) (o0) 0 ((F) (o1) 0)) (o1) 1)) (o0) 2 ((xup (xup (F) (o0) 0 ((F) (o1) 0)) (o0) 1 ((xup (F) (o0) 0 ((F) (o1) 0)) (o1) 1)) (o1) 2)) (o0) 3 ((xup (xup (xup (F) (o0) 0 ((F) (o1) 0)) (o0) 1 ((xup (F) (o0) 0 ((F) (o1) 0)) (o1) 1)) (o0) 2 ((xup (xup (F) (o0) 0 ((F) (o1) 0)) (o0) 1 ((xup (F) (o0) 0 ((F) (o1) 0)) (o1) 1)) (o1) 2)) (o1) 3)) (o0) 4 ((xup (xup (xup (xup (F) (o0) 0 ((F) (o1) 0)) (o0) 1 ((xup (F) (o0) 0 ((F) (o1) 0)) (o1) 1)) (o0) 2 ((xup (xup (F) (o0) 0 ((F) (o1) 0)) (o0) 1 ((xup (F) (o0) 0 ((F) (o1) 0)) (o1) 1)) (o1) 2)) (o0) 3 ((xup (xup (xup (F) (o0) 0 ((F) (o1) 0)) (o0) 1 ((xup (F) (o0) 0 ((F) (o1) 0)) (o1) 1)) (o0) 2 ((xup (xup (F) (o0) 0 ((F) (o1) 0)) (o0) 1 ((xup (F) (o0) 0 ((F) (o1) 0)) (o1) 1)) (o1) 2)) (o1) 3)) (o1) 4)) (o0) 5 ((xup (xup (xup (xup (xup (F) (o0) 0 ((F) (o1) 0)) (o0) 1 ((xup (F) (o0) 0 ((F) (o1) 0)) (o1) 1)) (o0) 2 ((xup (xup (F) (o0) 0 ((F) (o1) 0)) (o0) 1 ((xup (F) (o0) 0 ((F) (o1) 0)) (o1) 1)) (o1) 2)) (o0) 3 ((xup (xup (xup (F) (o0) 0 ((F) (o1) 0)) (o0) 1 ((xup (F) (o0) 0 ((F) (o1) 0)) (o1) 1)) (o0) 2 ((xup (xup (F) (o0) 0 ((F) (o1) 0)) (o0) 1 ((xup (F) (o0) 0 ((F) (o1) 0)) (o1) 1)) (o1) 2)) (o1) 3)) (o0) 4 ((xup (xup (xup (xup (F) (o0) 0 ((F) (o1) 0)) (o0) 1 ((xup (F) (o0) 0 ((F) (o1) 0)) (o1) 1)) (o0) 2 ((xup (xup (F) (o0) 0 ((F) (o1) 0)) (o0) 1 ((xup (F) (o0) 0 ((F) (o1) 0)) (o1) 1)) (o1) 2)) (o0) 3 ((xup (xup (xup (F) (o0) 0 ((F) (o1) 0)) (o0) 1 ((xup (F) (o0) 0 ((F) (o1) 0)) (o1) 1)) (o0) 2 ((xup (xup (F) (o0) 0 ((F) (o1) 0)) (o0) 1 ((xup (F) (o0) 0 ((F) (o1) 0)) (o1) 1)) (o1) 2)) (o1) 3)) (o1) 4)) (o1) 5)) (o1) 6))) : xW X d 6 0 [.ref (o0), .ref (o1)] [] F (xqv Q) := by
  refine xw_aload_n (n := 1) (show xlook 6 0 = some (0, .aload_n 0, 1, 0, 0, 0, 0) from xlk (by decide +kernel)) rfl rfl ?_
  refine xw_aload_n (n := 2) (show xlook 6 1 = some (1, .aload_n 1, 1, 0, 0, 0, 0) from xlk (by decide +kernel)) rfl rfl ?_
  refine xw_geti (show xlook 6 2 = some (2, .getfield 21, 3, 1, 0, 0, 11) from xlk (by decide +kernel)) (by decide) (xobf h1 (by decide) (by decide)) rfl (n := 5) rfl ?_
  refine xw_puti (show xlook 6 5 = some (5, .putfield 21, 3, 1, 0, 0, 11) from xlk (by decide +kernel)) (xobf h0 (by decide) (by decide)) rfl (n := 8) rfl ?_
  refine xw_aload_n (n := 9) (show xlook 6 8 = some (8, .aload_n 0, 1, 0, 0, 0, 0) from xlk (by decide +kernel)) rfl rfl ?_
  refine xw_aload_n (n := 10) (show xlook 6 9 = some (9, .aload_n 1, 1, 0, 0, 0, 0) from xlk (by decide +kernel)) rfl rfl ?_
  refine xw_geti (show xlook 6 10 = some (10, .getfield 24, 3, 1, 1, 0, 12) from xlk (by decide +kernel)) (by decide) (xobf h1 (by decide) (by decide)) rfl (n := 13) rfl ?_
  refine xw_puti (show xlook 6 13 = some (13, .putfield 24, 3, 1, 1, 0, 12) from xlk (by decide +kernel)) (xobf h0 (by decide) (by decide)) rfl (n := 16) rfl ?_
  refine xw_aload_n (n := 17) (show xlook 6 16 = some (16, .aload_n 0, 1, 0, 0, 0, 0) from xlk (by decide +kernel)) rfl rfl ?_
  refine xw_aload_n (n := 18) (show xlook 6 17 = some (17, .aload_n 1, 1, 0, 0, 0, 0) from xlk (by decide +kernel)) rfl rfl ?_
  refine xw_geti (show xlook 6 18 = some (18, .getfield 9, 3, 1, 2, 0, 8) from xlk (by decide +kernel)) (by decide) (xobf h1 (by decide) (by decide)) rfl (n := 21) rfl ?_
  refine xw_puti (show xlook 6 21 = some (21, .putfield 9, 3, 1, 2, 0, 8) from xlk (by decide +kernel)) (xobf h0 (by decide) (by decide)) rfl (n := 24) rfl ?_
  refine xw_aload_n (n := 25) (show xlook 6 24 = some (24, .aload_n 0, 1, 0, 0, 0, 0) from xlk (by decide +kernel)) rfl rfl ?_
  refine xw_aload_n (n := 26) (show xlook 6 25 = some (25, .aload_n 1, 1, 0, 0, 0, 0) from xlk (by decide +kernel)) rfl rfl ?_
  refine xw_geti (show xlook 6 26 = some (26, .getfield 27, 3, 1, 3, 0, 13) from xlk (by decide +kernel)) (by decide) (xobf h1 (by decide) (by decide)) rfl (n := 29) rfl ?_
  refine xw_puti (show xlook 6 29 = some (29, .putfield 27, 3, 1, 3, 0, 13) from xlk (by decide +kernel)) (xobf h0 (by decide) (by decide)) rfl (n := 32) rfl ?_
  refine xw_aload_n (n := 33) (show xlook 6 32 = some (32, .aload_n 0, 1, 0, 0, 0, 0) from xlk (by decide +kernel)) rfl rfl ?_
  refine xw_aload_n (n := 34) (show xlook 6 33 = some (33, .aload_n 1, 1, 0, 0, 0, 0) from xlk (by decide +kernel)) rfl rfl ?_
  refine xw_geti (show xlook 6 34 = some (34, .getfield 15, 3, 1, 4, 0, 9) from xlk (by decide +kernel)) (by decide) (xobf h1 (by decide) (by decide)) rfl (n := 37) rfl ?_
  refine xw_puti (show xlook 6 37 = some (37, .putfield 15, 3, 1, 4, 0, 9) from xlk (by decide +kernel)) (xobf h0 (by decide) (by decide)) rfl (n := 40) rfl ?_
  refine xw_aload_n (n := 41) (show xlook 6 40 = some (40, .aload_n 0, 1, 0, 0, 0, 0) from xlk (by decide +kernel)) rfl rfl ?_
  refine xw_aload_n (n := 42) (show xlook 6 41 = some (41, .aload_n 1, 1, 0, 0, 0, 0) from xlk (by decide +kernel)) rfl rfl ?_
  refine xw_geti (show xlook 6 42 = some (42, .getfield 30, 3, 1, 5, 0, 14) from xlk (by decide +kernel)) (by decide) (xobf h1 (by decide) (by decide)) rfl (n := 45) rfl ?_
  refine xw_puti (show xlook 6 45 = some (45, .putfield 30, 3, 1, 5, 0, 14) from xlk (by decide +kernel)) (xobf h0 (by decide) (by decide)) rfl (n := 48) rfl ?_
  refine xw_aload_n (n := 49) (show xlook 6 48 = some (48, .aload_n 0, 1, 0, 0, 0, 0) from xlk (by decide +kernel)) rfl rfl ?_
  refine xw_aload_n (n := 50) (show xlook 6 49 = some (49, .aload_n 1, 1, 0, 0, 0, 0) from xlk (by decide +kernel)) rfl rfl ?_
  refine xw_geti (show xlook 6 50 = some (50, .getfield 18, 3, 1, 6, 0, 10) from xlk (by decide +kernel)) (by decide) (xobf h1 (by decide) (by decide)) rfl (n := 53) rfl ?_
  refine xw_puti (show xlook 6 53 = some (53, .putfield 18, 3, 1, 6, 0, 10) from xlk (by decide +kernel)) (xobf h0 (by decide) (by decide)) rfl (n := 56) rfl ?_
  exact xw_return (xPT_fld (k := 6) (xPT_fld (k := 5) (xPT_fld (k := 4) (xPT_fld (k := 3) (xPT_fld (k := 2) (xPT_fld (k := 1) (xPT_fld (k := 0) hPT h0 (by decide) (by decide)) h0 (by decide) (by decide)) h0 (by decide) (by decide)) h0 (by decide) (by decide)) h0 (by decide) (by decide)) h0 (by decide) (by decide)) h0 (by decide) (by decide)) (show xlook 6 56 = some (56, .return_, 1, 0, 0, 0, 0) from xlk (by decide +kernel)) rfl (t (xPT_fld (k := 6) (xPT_fld (k := 5) (xPT_fld (k := 4) (xPT_fld (k := 3) (xPT_fld (k := 2) (xPT_fld (k := 1) (xPT_fld (k := 0) hPT h0 (by decide) (by decide)) h0 (by decide) (by decide)) h0 (by decide) (by decide)) h0 (by decide) (by decide)) h0 (by decide) (by decide)) h0 (by decide) (by decide)) h0 (by decide) (by decide)))
theorem m6 {X : List Int32} {d : Nat} {F : XF} {Q : XF → Prop} {o0 : Nat} {o1 : Nat} (hPT : xPT F) (h0 : xob 1 o0) (h1 : xob 1 o1) (t : xPT (xup (xup (xup (xup (xup (xup (xup (F) (o0) 0 ((F) (o1) 0)) (o0) 1 ((xup (F) (o0) 0 ((F) (o1) 0)) (o1) 1)) (o0) 2 ((xup (xup (F) (o0) 0 ((F) (o1) 0)) (o0) 1 ((xup (F) (o0) 0 ((F) (o1) 0)) (o1) 1)) (o1) 2)) (o0) 3 ((xup (xup (xup (F) (o0) 0 ((F) (o1) 0)) (o0) 1 ((xup (F) (o0) 0 ((F) (o1) 0)) (o1) 1)) (o0) 2 ((xup (xup (F) (o0) 0 ((F) (o1) 0)) (o0) 1 ((xup (F) (o0) 0 ((F) (o1) 0)) (o1) 1)) (o1) 2)) (o1) 3)) (o0) 4 ((xup (xup (xup (xup (F) (o0) 0 ((F) (o1) 0)) (o0) 1 ((xup (F) (o0) 0 ((F) (o1) 0)) (o1) 1)) (o0) 2 ((xup (xup (F) (o0) 0 ((F) (o1) 0)) (o0) 1 ((xup (F) (o0) 0 ((F) (o1) 0)) (o1) 1)) (o1) 2)) (o0) 3 ((xup (xup (xup (F) (o0) 0 ((F) (o1) 0)) (o0) 1 ((xup (F) (o0) 0 ((F) (o1) 0)) (o1) 1)) (o0) 2 ((xup (xup (F) (o0) 0 ((F) (o1) 0)) (o0) 1 ((xup (F) (o0) 0 ((F) (o1) 0)) (o1) 1)) (o1) 2)) (o1) 3)) (o1) 4)) (o0) 5 ((xup (xup (xup (xup (xup (F) (o0) 0 ((F) (o1) 0)) (o0) 1 ((xup (F) (o0) 0 ((F) (o1) 0)) (o1) 1)) (o0) 2 ((xup (xup (F) (o0) 0 ((F) (o1) 0)) (o0) 1 ((xup (F) (o0) 0 ((F) (o1) 0)) (o1) 1)) (o1) 2)) (o0) 3 ((xup (xup (xup (F) (o0) 0 ((F) (o1) 0)) (o0) 1 ((xup (F) (o0) 0 ((F) (o1) 0)) (o1) 1)) (o0) 2 ((xup (xup (F) (o0) 0 ((F) (o1) 0)) (o0) 1 ((xup (F) (o0) 0 ((F) (o1) 0)) (o1) 1)) (o1) 2)) (o1) 3)) (o0) 4 ((xup (xup (xup (xup (F) (o0) 0 ((F) (o1) 0)) (o0) 1 ((xup (F) (o0) 0 ((F) (o1) 0)) (o1) 1)) (o0) 2 ((xup (xup (F) (o0) 0 ((F) (o1) 0)) (o0) 1 ((xup (F) (o0) 0 ((F) (o1) 0)) (o1) 1)) (o1) 2)) (o0) 3 ((xup (xup (xup (F) (o0) 0 ((F) (o1) 0)) (o0) 1 ((xup (F) (o0) 0 ((F) (o1) 0)) (o1) 1)) (o0) 2 ((xup (xup (F) (o0) 0 ((F) (o1) 0)) (o0) 1 ((xup (F) (o0) 0 ((F) (o1) 0)) (o1) 1)) (o1) 2)) (o1) 3)) (o1) 4)) (o1) 5)) (o0) 6 ((xup (xup (xup (xup (xup (xup (F) (o0) 0 ((F) (o1) 0)) (o0) 1 ((xup (F) (o0) 0 ((F) (o1) 0)) (o1) 1)) (o0) 2 ((xup (xup (F) (o0) 0 ((F) (o1) 0)) (o0) 1 ((xup (F) (o0) 0 ((F) (o1) 0)) (o1) 1)) (o1) 2)) (o0) 3 ((xup (xup (xup (F) (o0) 0 ((F) (o1) 0)) (o0) 1 ((xup (F) (o0) 0 ((F) (o1) 0)) (o1) 1)) (o0) 2 ((xup (xup (F) (o0) 0 ((F) (o1) 0)) (o0) 1 ((xup (F) (o0) 0 ((F) (o1) 0)) (o1) 1)) (o1) 2)) (o1) 3)) (o0) 4 ((xup (xup (xup (xup (F) (o0) 0 ((F) (o1) 0)) (o0) 1 ((xup (F) (o0) 0 ((F) (o1) 0)) (o1) 1)) (o0) 2 ((xup (xup (F) (o0) 0 ((F) (o1) 0)) (o0) 1 ((xup (F) (o0) 0 ((F) (o1) 0)) (o1) 1)) (o1) 2)) (o0) 3 ((xup (xup (xup (F) (o0) 0 ((F) (o1) 0)) (o0) 1 ((xup (F) (o0) 0 ((F) (o1) 0)) (o1) 1)) (o0) 2 ((xup (xup (F) (o0) 0 ((F) (o1) 0)) (o0) 1 ((xup (F) (o0) 0 ((F) (o1) 0)) (o1) 1)) (o1) 2)) (o1) 3)) (o1) 4)) (o0) 5 ((xup (xup (xup (xup (xup (F) (o0) 0 ((F) (o1) 0)) (o0) 1 ((xup (F) (o0) 0 ((F) (o1) 0)) (o1) 1)) (o0) 2 ((xup (xup (F) (o0) 0 ((F) (o1) 0)) (o0) 1 ((xup (F) (o0) 0 ((F) (o1) 0)) (o1) 1)) (o1) 2)) (o0) 3 ((xup (xup (xup (F) (o0) 0 ((F) (o1) 0)) (o0) 1 ((xup (F) (o0) 0 ((F) (o1) 0)) (o1) 1)) (o0) 2 ((xup (xup (F) (o0) 0 ((F) (o1) 0)) (o0) 1 ((xup (F) (o0) 0 ((F) (o1) 0)) (o1) 1)) (o1) 2)) (o1) 3)) (o0) 4 ((xup (xup (xup (xup (F) (o0) 0 ((F) (o1) 0)) (o0) 1 ((xup (F) (o0) 0 ((F) (o1) 0)) (o1) 1)) (o0) 2 ((xup (xup (F) (o0) 0 ((F) (o1) 0)) (o0) 1 ((xup (F) (o0) 0 ((F) (o1) 0)) (o1) 1)) (o1) 2)) (o0) 3 ((xup (xup (xup (F) (o0) 0 ((F) (o1) 0)) (o0) 1 ((xup (F) (o0) 0 ((F) (o1) 0)) (o1) 1)) (o0) 2 ((xup (xup (F) (o0) 0 ((F) (o1) 0)) (o0) 1 ((xup (F) (o0) 0 ((F) (o1) 0)) (o1) 1)) (o1) 2)) (o1) 3)) (o1) 4)) (o1) 5)) (o1) 6)) → Q (xup (xup (xup (xup (xup (xup (xup (F) (o0) 0 ((F) (o1) 0)) (o0) 1 ((xup (F) (o0) 0 ((F) (o1) 0)) (o1) 1)) (o0) 2 ((xup (xup (F) (o0) 0 ((F) (o1) 0)) (o0) 1 ((xup (F) (o0) 0 ((F) (o1) 0)) (o1) 1)) (o1) 2)) (o0) 3 ((xup (xup (xup (F) (o0) 0 ((F) (o1) 0)) (o0) 1 ((xup (F) (o0) 0 ((F) (o1) 0)) (o1) 1)) (o0) 2 ((xup (xup (F) (o0) 0 ((F) (o1) 0)) (o0) 1 ((xup (F) (o0) 0 ((F) (o1) 0)) (o1) 1)) (o1) 2)) (o1) 3)) (o0) 4 ((xup (xup (xup (xup (F) (o0) 0 ((F) (o1) 0)) (o0) 1 ((xup (F) (o0) 0 ((F) (o1) 0)) (o1) 1)) (o0) 2 ((xup (xup (F) (o0) 0 ((F) (o1) 0)) (o0) 1 ((xup (F) (o0) 0 ((F) (o1) 0)) (o1) 1)) (o1) 2)) (o0) 3 ((xup (xup (xup (F) (o0) 0 ((F) (o1) 0)) (o0) 1 ((xup (F) (o0) 0 ((F) (o1) 0)) (o1) 1)) (o0) 2 ((xup (xup (F) (o0) 0 ((F) (o1) 0)) (o0) 1 ((xup (F) (o0) 0 ((F) (o1) 0)) (o1) 1)) (o1) 2)) (o1) 3)) (o1) 4)) (o0) 5 ((xup (xup (xup (xup (xup (F) (o0) 0 ((F) (o1) 0)) (o0) 1 ((xup (F) (o0) 0 ((F) (o1) 0)) (o1) 1)) (o0) 2 ((xup (xup (F) (o0) 0 ((F) (o1) 0)) (o0) 1 ((xup (F) (o0) 0 ((F) (o1) 0)) (o1) 1)) (o1) 2)) (o0) 3 ((xup (xup (xup (F) (o0) 0 ((F) (o1) 0)) (o0) 1 ((xup (F) (o0) 0 ((F) (o1) 0)) (o1) 1)) (o0) 2 ((xup (xup (F) (o0) 0 ((F) (o1) 0)) (o0) 1 ((xup (F) (o0) 0 ((F) (o1) 0)) (o1) 1)) (o1) 2)) (o1) 3)) (o0) 4 ((xup (xup (xup (xup (F) (o0) 0 ((F) (o1) 0)) (o0) 1 ((xup (F) (o0) 0 ((F) (o1) 0)) (o1) 1)) (o0) 2 ((xup (xup (F) (o0) 0 ((F) (o1) 0)) (o0) 1 ((xup (F) (o0) 0 ((F) (o1) 0)) (o1) 1)) (o1) 2)) (o0) 3 ((xup (xup (xup (F) (o0) 0 ((F) (o1) 0)) (o0) 1 ((xup (F) (o0) 0 ((F) (o1) 0)) (o1) 1)) (o0) 2 ((xup (xup (F) (o0) 0 ((F) (o1) 0)) (o0) 1 ((xup (F) (o0) 0 ((F) (o1) 0)) (o1) 1)) (o1) 2)) (o1) 3)) (o1) 4)) (o1) 5)) (o0) 6 ((xup (xup (xup (xup (xup (xup (F) (o0) 0 ((F) (o1) 0)) (o0) 1 ((xup (F) (o0) 0 ((F) (o1) 0)) (o1) 1)) (o0) 2 ((xup (xup (F) (o0) 0 ((F) (o1) 0)) (o0) 1 ((xup (F) (o0) 0 ((F) (o1) 0)) (o1) 1)) (o1) 2)) (o0) 3 ((xup (xup (xup (F) (o0) 0 ((F) (o1) 0)) (o0) 1 ((xup (F) (o0) 0 ((F) (o1) 0)) (o1) 1)) (o0) 2 ((xup (xup (F) (o0) 0 ((F) (o1) 0)) (o0) 1 ((xup (F) (o0) 0 ((F) (o1) 0)) (o1) 1)) (o1) 2)) (o1) 3)) (o0) 4 ((xup (xup (xup (xup (F) (o0) 0 ((F) (o1) 0)) (o0) 1 ((xup (F) (o0) 0 ((F) (o1) 0)) (o1) 1)) (o0) 2 ((xup (xup (F) (o0) 0 ((F) (o1) 0)) (o0) 1 ((xup (F) (o0) 0 ((F) (o1) 0)) (o1) 1)) (o1) 2)) (o0) 3 ((xup (xup (xup (F) (o0) 0 ((F) (o1) 0)) (o0) 1 ((xup (F) (o0) 0 ((F) (o1) 0)) (o1) 1)) (o0) 2 ((xup (xup (F) (o0) 0 ((F) (o1) 0)) (o0) 1 ((xup (F) (o0) 0 ((F) (o1) 0)) (o1) 1)) (o1) 2)) (o1) 3)) (o1) 4)) (o0) 5 ((xup (xup (xup (xup (xup (F) (o0) 0 ((F) (o1) 0)) (o0) 1 ((xup (F) (o0) 0 ((F) (o1) 0)) (o1) 1)) (o0) 2 ((xup (xup (F) (o0) 0 ((F) (o1) 0)) (o0) 1 ((xup (F) (o0) 0 ((F) (o1) 0)) (o1) 1)) (o1) 2)) (o0) 3 ((xup (xup (xup (F) (o0) 0 ((F) (o1) 0)) (o0) 1 ((xup (F) (o0) 0 ((F) (o1) 0)) (o1) 1)) (o0) 2 ((xup (xup (F) (o0) 0 ((F) (o1) 0)) (o0) 1 ((xup (F) (o0) 0 ((F) (o1) 0)) (o1) 1)) (o1) 2)) (o1) 3)) (o0) 4 ((xup (xup (xup (xup (F) (o0) 0 ((F) (o1) 0)) (o0) 1 ((xup (F) (o0) 0 ((F) (o1) 0)) (o1) 1)) (o0) 2 ((xup (xup (F) (o0) 0 ((F) (o1) 0)) (o0) 1 ((xup (F) (o0) 0 ((F) (o1) 0)) (o1) 1)) (o1) 2)) (o0) 3 ((xup (xup (xup (F) (o0) 0 ((F) (o1) 0)) (o0) 1 ((xup (F) (o0) 0 ((F) (o1) 0)) (o1) 1)) (o0) 2 ((xup (xup (F) (o0) 0 ((F) (o1) 0)) (o0) 1 ((xup (F) (o0) 0 ((F) (o1) 0)) (o1) 1)) (o1) 2)) (o1) 3)) (o1) 4)) (o1) 5)) (o1) 6))) : xMV X d 6 [.ref (o0), .ref (o1)] F Q := by
  show xW X d 6 0 [.ref (o0), .ref (o1)] [] F (xqv Q)
  exact s6_0 hPT h0 h1 t

theorem s7_0 {X : List Int32} {d : Nat} {F : XF} {Q : Int → XF → Prop} {o0 : Nat} (hPT : xPT F) (h0 : xob 1 o0) (t : inR ((F) (o0) 3) ∧ (((¬ ((F) (o0) 3) = (0)) → (xPT (F) → Q (0) (F))) ∧ (¬ (¬ ((F) (o0) 3) = (0)) → (inR ((F) (o0) 4) ∧ inR ((F) (o0) 2) ∧ (((¬ ((F) (o0) 4) = ((F) (o0) 2)) → (xPT (F) → Q (0) (F))) ∧ (¬ (¬ ((F) (o0) 4) = ((F) (o0) 2)) → (xPT (F) → Q (1) (F)))))))) : xW X d 7 0 [.ref (o0)] [] F (xqi Q) := by
  refine xw_aload_n (n := 1) (show xlook 7 0 = some (0, .aload_n 0, 1, 0, 0, 0, 0) from xlk (by decide +kernel)) rfl rfl ?_
  refine xw_geti (show xlook 7 1 = some (1, .getfield 27, 3, 1, 3, 0, 13) from xlk (by decide +kernel)) (by decide) (xobf h0 (by decide) (by decide)) rfl (n := 4) rfl ?_
  obtain ⟨q0, t⟩ := t
  refine xw_if_ne (n := 7) (m := 22) (show xlook 7 4 = some (4, .ifCond .ne 18, 3, 22, 0, 0, 0) from xlk (by decide +kernel)) rfl rfl q0 ⟨fun c => ?_, fun c => ?_⟩
  · replace t := t.1 c
    refine xw_iconst (n := 23) (show xlook 7 22 = some (22, .iconst 0, 1, 0, 0, 0, 0) from xlk (by decide +kernel)) rfl ?_
    exact xw_zreturn hPT (show xlook 7 23 = some (23, .ireturn, 1, 0, 0, 0, 0) from xlk (by decide +kernel)) rfl (by decide) (t hPT)
  · replace t := t.2 c
    refine xw_aload_n (n := 8) (show xlook 7 7 = some (7, .aload_n 0, 1, 0, 0, 0, 0) from xlk (by decide +kernel)) rfl rfl ?_
    refine xw_geti (show xlook 7 8 = some (8, .getfield 15, 3, 1, 4, 0, 9) from xlk (by decide +kernel)) (by decide) (xobf h0 (by decide) (by decide)) rfl (n := 11) rfl ?_
    refine xw_aload_n (n := 12) (show xlook 7 11 = some (11, .aload_n 0, 1, 0, 0, 0, 0) from xlk (by decide +kernel)) rfl rfl ?_
    refine xw_geti (show xlook 7 12 = some (12, .getfield 9, 3, 1, 2, 0, 8) from xlk (by decide +kernel)) (by decide) (xobf h0 (by decide) (by decide)) rfl (n := 15) rfl ?_
    obtain ⟨q0, q1, t⟩ := t
    refine xw_icmp_ne (n := 18) (m := 22) (show xlook 7 15 = some (15, .if_icmp .ne 7, 3, 22, 0, 0, 0) from xlk (by decide +kernel)) rfl rfl q0 q1 ⟨fun c => ?_, fun c => ?_⟩
    · replace t := t.1 c
      refine xw_iconst (n := 23) (show xlook 7 22 = some (22, .iconst 0, 1, 0, 0, 0, 0) from xlk (by decide +kernel)) rfl ?_
      exact xw_zreturn hPT (show xlook 7 23 = some (23, .ireturn, 1, 0, 0, 0, 0) from xlk (by decide +kernel)) rfl (by decide) (t hPT)
    · replace t := t.2 c
      refine xw_iconst (n := 19) (show xlook 7 18 = some (18, .iconst 1, 1, 0, 0, 0, 0) from xlk (by decide +kernel)) rfl ?_
      refine xw_goto (m := 23) (show xlook 7 19 = some (19, .goto 4, 3, 23, 0, 0, 0) from xlk (by decide +kernel)) rfl ?_
      exact xw_zreturn hPT (show xlook 7 23 = some (23, .ireturn, 1, 0, 0, 0, 0) from xlk (by decide +kernel)) rfl (by decide) (t hPT)
theorem m7 {X : List Int32} {d : Nat} {F : XF} {Q : Int → XF → Prop} {o0 : Nat} (hPT : xPT F) (h0 : xob 1 o0) (t : inR ((F) (o0) 3) ∧ (((¬ ((F) (o0) 3) = (0)) → (xPT (F) → Q (0) (F))) ∧ (¬ (¬ ((F) (o0) 3) = (0)) → (inR ((F) (o0) 4) ∧ inR ((F) (o0) 2) ∧ (((¬ ((F) (o0) 4) = ((F) (o0) 2)) → (xPT (F) → Q (0) (F))) ∧ (¬ (¬ ((F) (o0) 4) = ((F) (o0) 2)) → (xPT (F) → Q (1) (F)))))))) : xMI X d 7 [.ref (o0)] F Q := by
  show xW X d 7 0 [.ref (o0)] [] F (xqi Q)
  exact s7_0 hPT h0 t

theorem s8_0 {X : List Int32} {d : Nat} {F : XF} {Q : Int → XF → Prop} {o0 : Nat} {x1 : Int} (hPT : xPT F) (h0 : xob 1 o0) (t : inR ((F) (o0) 2) ∧ (((((F) (o0) 2) ≤ (0)) → (xPT (F) → Q (0) (F))) ∧ (¬ (((F) (o0) 2) ≤ (0)) → ((0 ≤ (x1 : Int) ∧ (x1 : Int) ≤ 2147483647) ∧ (0 < ((F) (o0) 2 : Int) ∧ ((F) (o0) 2 : Int) ≤ 2147483647) ∧ (xPT (F) → Q ((x1) % ((F) (o0) 2)) (F)))))) : xW X d 8 0 [.ref (o0), vi (x1)] [] F (xqi Q) := by
  refine xw_aload_n (n := 1) (show xlook 8 0 = some (0, .aload_n 0, 1, 0, 0, 0, 0) from xlk (by decide +kernel)) rfl rfl ?_
  refine xw_geti (show xlook 8 1 = some (1, .getfield 9, 3, 1, 2, 0, 8) from xlk (by decide +kernel)) (by decide) (xobf h0 (by decide) (by decide)) rfl (n := 4) rfl ?_
  obtain ⟨q0, t⟩ := t
  refine xw_if_le (n := 7) (m := 16) (show xlook 8 4 = some (4, .ifCond .le 12, 3, 16, 0, 0, 0) from xlk (by decide +kernel)) rfl rfl q0 ⟨fun c => ?_, fun c => ?_⟩
  · replace t := t.1 c
    refine xw_iconst (n := 17) (show xlook 8 16 = some (16, .iconst 0, 1, 0, 0, 0, 0) from xlk (by decide +kernel)) rfl ?_
    exact xw_ireturn hPT (show xlook 8 17 = some (17, .ireturn, 1, 0, 0, 0, 0) from xlk (by decide +kernel)) rfl (t hPT)
  · replace t := t.2 c
    refine xw_iload_n (n := 8) (show xlook 8 7 = some (7, .iload_n 1, 1, 0, 0, 0, 0) from xlk (by decide +kernel)) rfl rfl ?_
    refine xw_aload_n (n := 9) (show xlook 8 8 = some (8, .aload_n 0, 1, 0, 0, 0, 0) from xlk (by decide +kernel)) rfl rfl ?_
    refine xw_geti (show xlook 8 9 = some (9, .getfield 9, 3, 1, 2, 0, 8) from xlk (by decide +kernel)) (by decide) (xobf h0 (by decide) (by decide)) rfl (n := 12) rfl ?_
    obtain ⟨q1, q2, t⟩ := t
    refine xw_irem (n := 13) (show xlook 8 12 = some (12, .irem, 1, 0, 0, 0, 0) from xlk (by decide +kernel)) rfl q1 q2 ?_
    refine xw_goto (m := 17) (show xlook 8 13 = some (13, .goto 4, 3, 17, 0, 0, 0) from xlk (by decide +kernel)) rfl ?_
    exact xw_ireturn hPT (show xlook 8 17 = some (17, .ireturn, 1, 0, 0, 0, 0) from xlk (by decide +kernel)) rfl (t hPT)
theorem m8 {X : List Int32} {d : Nat} {F : XF} {Q : Int → XF → Prop} {o0 : Nat} {x1 : Int} (hPT : xPT F) (h0 : xob 1 o0) (t : inR ((F) (o0) 2) ∧ (((((F) (o0) 2) ≤ (0)) → (xPT (F) → Q (0) (F))) ∧ (¬ (((F) (o0) 2) ≤ (0)) → ((0 ≤ (x1 : Int) ∧ (x1 : Int) ≤ 2147483647) ∧ (0 < ((F) (o0) 2 : Int) ∧ ((F) (o0) 2 : Int) ≤ 2147483647) ∧ (xPT (F) → Q ((x1) % ((F) (o0) 2)) (F)))))) : xMI X d 8 [.ref (o0), vi (x1)] F Q := by
  show xW X d 8 0 [.ref (o0), vi (x1)] [] F (xqi Q)
  exact s8_0 hPT h0 t

theorem s9_0 {X : List Int32} {d : Nat} {F : XF} {Q : Int → XF → Prop} {o0 : Nat} {x1 : Int} {w2 : Value} (hPT : xPT F) (h0 : xob 1 o0) (t : ∃ (j1 : Nat), j1 < d ∧ xMI X j1 8 [.ref (o0), vi (x1)] (F) (fun (y1 : Int) (G1 : XF) => (inR (y1) ∧ inR ((G1) (o0) 3) ∧ ((((y1) < ((G1) (o0) 3)) → (xPT (G1) → Q (0) (G1))) ∧ (¬ ((y1) < ((G1) (o0) 3)) → (inR (y1) ∧ inR ((G1) (o0) 4) ∧ (((((G1) (o0) 4) ≤ (y1)) → (xPT (G1) → Q (0) (G1))) ∧ (¬ (((G1) (o0) 4) ≤ (y1)) → (xPT (G1) → Q (1) (G1)))))))))) : xW X d 9 0 [.ref (o0), vi (x1), w2] [] F (xqi Q) := by
  refine xw_aload_n (n := 1) (show xlook 9 0 = some (0, .aload_n 0, 1, 0, 0, 0, 0) from xlk (by decide +kernel)) rfl rfl ?_
  refine xw_iload_n (n := 2) (show xlook 9 1 = some (1, .iload_n 1, 1, 0, 0, 0, 0) from xlk (by decide +kernel)) rfl rfl ?_
  obtain ⟨j1, hj1, rr1, G1, hm1, hG1, t⟩ := t
  obtain ⟨y1, rfl, t⟩ := t
  refine xw_callv (dk := j1) (o := o0) (as := [vi (x1)]) (show xlook 9 2 = some (2, .invokevirtual 33, 3, 8, 2, 0, 5) from xlk (by decide +kernel)) (by decide) hj1 ⟨Nat.le_of_ble_eq_true rfl, Nat.le_of_ble_eq_true rfl, Nat.le_of_ble_eq_true rfl⟩ ⟨h0.1, h0.2, by decide⟩ rfl hm1 (n := 5) rfl ?_
  show xW X d 9 5 [.ref (o0), vi (x1), w2] [vi (y1)] G1 (xqi Q)
  refine xw_istore_n (n := 6) (show xlook 9 5 = some (5, .istore_n 2, 1, 0, 0, 0, 0) from xlk (by decide +kernel)) rfl (ls' := [.ref (o0), vi (x1), vi (y1)]) (Nat.le_of_ble_eq_true rfl) rfl ?_
  refine xw_iload_n (n := 7) (show xlook 9 6 = some (6, .iload_n 2, 1, 0, 0, 0, 0) from xlk (by decide +kernel)) rfl rfl ?_
  refine xw_aload_n (n := 8) (show xlook 9 7 = some (7, .aload_n 0, 1, 0, 0, 0, 0) from xlk (by decide +kernel)) rfl rfl ?_
  refine xw_geti (show xlook 9 8 = some (8, .getfield 27, 3, 1, 3, 0, 13) from xlk (by decide +kernel)) (by decide) (xobf h0 (by decide) (by decide)) rfl (n := 11) rfl ?_
  obtain ⟨q0, q1, t⟩ := t
  refine xw_icmp_lt (n := 14) (m := 26) (show xlook 9 11 = some (11, .if_icmp .lt 15, 3, 26, 0, 0, 0) from xlk (by decide +kernel)) rfl rfl q0 q1 ⟨fun c => ?_, fun c => ?_⟩
  · replace t := t.1 c
    refine xw_iconst (n := 27) (show xlook 9 26 = some (26, .iconst 0, 1, 0, 0, 0, 0) from xlk (by decide +kernel)) rfl ?_
    exact xw_zreturn hG1 (show xlook 9 27 = some (27, .ireturn, 1, 0, 0, 0, 0) from xlk (by decide +kernel)) rfl (by decide) (t hG1)
  · replace t := t.2 c
    refine xw_iload_n (n := 15) (show xlook 9 14 = some (14, .iload_n 2, 1, 0, 0, 0, 0) from xlk (by decide +kernel)) rfl rfl ?_
    refine xw_aload_n (n := 16) (show xlook 9 15 = some (15, .aload_n 0, 1, 0, 0, 0, 0) from xlk (by decide +kernel)) rfl rfl ?_
    refine xw_geti (show xlook 9 16 = some (16, .getfield 15, 3, 1, 4, 0, 9) from xlk (by decide +kernel)) (by decide) (xobf h0 (by decide) (by decide)) rfl (n := 19) rfl ?_
    obtain ⟨q0, q1, t⟩ := t
    refine xw_icmp_ge (n := 22) (m := 26) (show xlook 9 19 = some (19, .if_icmp .ge 7, 3, 26, 0, 0, 0) from xlk (by decide +kernel)) rfl rfl q0 q1 ⟨fun c => ?_, fun c => ?_⟩
    · replace t := t.1 c
      refine xw_iconst (n := 27) (show xlook 9 26 = some (26, .iconst 0, 1, 0, 0, 0, 0) from xlk (by decide +kernel)) rfl ?_
      exact xw_zreturn hG1 (show xlook 9 27 = some (27, .ireturn, 1, 0, 0, 0, 0) from xlk (by decide +kernel)) rfl (by decide) (t hG1)
    · replace t := t.2 c
      refine xw_iconst (n := 23) (show xlook 9 22 = some (22, .iconst 1, 1, 0, 0, 0, 0) from xlk (by decide +kernel)) rfl ?_
      refine xw_goto (m := 27) (show xlook 9 23 = some (23, .goto 4, 3, 27, 0, 0, 0) from xlk (by decide +kernel)) rfl ?_
      exact xw_zreturn hG1 (show xlook 9 27 = some (27, .ireturn, 1, 0, 0, 0, 0) from xlk (by decide +kernel)) rfl (by decide) (t hG1)
theorem m9 {X : List Int32} {d : Nat} {F : XF} {Q : Int → XF → Prop} {o0 : Nat} {x1 : Int} (hPT : xPT F) (h0 : xob 1 o0) (t : ∃ (j1 : Nat), j1 < d ∧ xMI X j1 8 [.ref (o0), vi (x1)] (F) (fun (y1 : Int) (G1 : XF) => (inR (y1) ∧ inR ((G1) (o0) 3) ∧ ((((y1) < ((G1) (o0) 3)) → (xPT (G1) → Q (0) (G1))) ∧ (¬ ((y1) < ((G1) (o0) 3)) → (inR (y1) ∧ inR ((G1) (o0) 4) ∧ (((((G1) (o0) 4) ≤ (y1)) → (xPT (G1) → Q (0) (G1))) ∧ (¬ (((G1) (o0) 4) ≤ (y1)) → (xPT (G1) → Q (1) (G1)))))))))) : xMI X d 9 [.ref (o0), vi (x1)] F Q := by
  show xW X d 9 0 [.ref (o0), vi (x1), xU0] [] F (xqi Q)
  exact s9_0 hPT h0 t

theorem s10_0 {X : List Int32} {d : Nat} {F : XF} {Q : Int → XF → Prop} {o0 : Nat} {x1 : Int} (hPT : xPT F) (h0 : xob 1 o0) (t : ∃ (j1 : Nat), j1 < d ∧ xMI X j1 7 [.ref (o0)] (F) (fun (y1 : Int) (G1 : XF) => (inR (y1) ∧ (((¬ (y1) = (0)) → (xPT (G1) → Q (1) (G1))) ∧ (¬ (¬ (y1) = (0)) → (inR (x1) ∧ inR (((G1) (o0) 4) - ((G1) (o0) 3)) ∧ ((((((G1) (o0) 4) - ((G1) (o0) 3)) < (x1)) → (xPT (G1) → Q (0) (G1))) ∧ (¬ ((((G1) (o0) 4) - ((G1) (o0) 3)) < (x1)) → (xPT (G1) → Q (1) (G1)))))))))) : xW X d 10 0 [.ref (o0), vi (x1)] [] F (xqi Q) := by
  refine xw_aload_n (n := 1) (show xlook 10 0 = some (0, .aload_n 0, 1, 0, 0, 0, 0) from xlk (by decide +kernel)) rfl rfl ?_
  obtain ⟨j1, hj1, rr1, G1, hm1, hG1, t⟩ := t
  obtain ⟨y1, rfl, t⟩ := t
  refine xw_callv (dk := j1) (o := o0) (as := []) (show xlook 10 1 = some (1, .invokevirtual 37, 3, 7, 1, 0, 6) from xlk (by decide +kernel)) (by decide) hj1 ⟨Nat.le_of_ble_eq_true rfl, Nat.le_of_ble_eq_true rfl, Nat.le_of_ble_eq_true rfl⟩ ⟨h0.1, h0.2, by decide⟩ rfl hm1 (n := 4) rfl ?_
  show xW X d 10 4 [.ref (o0), vi (x1)] [vi (y1)] G1 (xqi Q)
  obtain ⟨q0, t⟩ := t
  refine xw_if_ne (n := 7) (m := 20) (show xlook 10 4 = some (4, .ifCond .ne 16, 3, 20, 0, 0, 0) from xlk (by decide +kernel)) rfl rfl q0 ⟨fun c => ?_, fun c => ?_⟩
  · replace t := t.1 c
    refine xw_iconst (n := 21) (show xlook 10 20 = some (20, .iconst 1, 1, 0, 0, 0, 0) from xlk (by decide +kernel)) rfl ?_
    refine xw_goto (m := 25) (show xlook 10 21 = some (21, .goto 4, 3, 25, 0, 0, 0) from xlk (by decide +kernel)) rfl ?_
    exact xw_zreturn hG1 (show xlook 10 25 = some (25, .ireturn, 1, 0, 0, 0, 0) from xlk (by decide +kernel)) rfl (by decide) (t hG1)
  · replace t := t.2 c
    refine xw_iload_n (n := 8) (show xlook 10 7 = some (7, .iload_n 1, 1, 0, 0, 0, 0) from xlk (by decide +kernel)) rfl rfl ?_
    refine xw_aload_n (n := 9) (show xlook 10 8 = some (8, .aload_n 0, 1, 0, 0, 0, 0) from xlk (by decide +kernel)) rfl rfl ?_
    refine xw_geti (show xlook 10 9 = some (9, .getfield 15, 3, 1, 4, 0, 9) from xlk (by decide +kernel)) (by decide) (xobf h0 (by decide) (by decide)) rfl (n := 12) rfl ?_
    refine xw_aload_n (n := 13) (show xlook 10 12 = some (12, .aload_n 0, 1, 0, 0, 0, 0) from xlk (by decide +kernel)) rfl rfl ?_
    refine xw_geti (show xlook 10 13 = some (13, .getfield 27, 3, 1, 3, 0, 13) from xlk (by decide +kernel)) (by decide) (xobf h0 (by decide) (by decide)) rfl (n := 16) rfl ?_
    refine xw_isub (n := 17) (show xlook 10 16 = some (16, .isub, 1, 0, 0, 0, 0) from xlk (by decide +kernel)) rfl ?_
    obtain ⟨q0, q1, t⟩ := t
    refine xw_icmp_gt (n := 20) (m := 24) (show xlook 10 17 = some (17, .if_icmp .gt 7, 3, 24, 0, 0, 0) from xlk (by decide +kernel)) rfl rfl q0 q1 ⟨fun c => ?_, fun c => ?_⟩
    · replace t := t.1 c
      refine xw_iconst (n := 25) (show xlook 10 24 = some (24, .iconst 0, 1, 0, 0, 0, 0) from xlk (by decide +kernel)) rfl ?_
      exact xw_zreturn hG1 (show xlook 10 25 = some (25, .ireturn, 1, 0, 0, 0, 0) from xlk (by decide +kernel)) rfl (by decide) (t hG1)
    · replace t := t.2 c
      refine xw_iconst (n := 21) (show xlook 10 20 = some (20, .iconst 1, 1, 0, 0, 0, 0) from xlk (by decide +kernel)) rfl ?_
      refine xw_goto (m := 25) (show xlook 10 21 = some (21, .goto 4, 3, 25, 0, 0, 0) from xlk (by decide +kernel)) rfl ?_
      exact xw_zreturn hG1 (show xlook 10 25 = some (25, .ireturn, 1, 0, 0, 0, 0) from xlk (by decide +kernel)) rfl (by decide) (t hG1)
theorem m10 {X : List Int32} {d : Nat} {F : XF} {Q : Int → XF → Prop} {o0 : Nat} {x1 : Int} (hPT : xPT F) (h0 : xob 1 o0) (t : ∃ (j1 : Nat), j1 < d ∧ xMI X j1 7 [.ref (o0)] (F) (fun (y1 : Int) (G1 : XF) => (inR (y1) ∧ (((¬ (y1) = (0)) → (xPT (G1) → Q (1) (G1))) ∧ (¬ (¬ (y1) = (0)) → (inR (x1) ∧ inR (((G1) (o0) 4) - ((G1) (o0) 3)) ∧ ((((((G1) (o0) 4) - ((G1) (o0) 3)) < (x1)) → (xPT (G1) → Q (0) (G1))) ∧ (¬ ((((G1) (o0) 4) - ((G1) (o0) 3)) < (x1)) → (xPT (G1) → Q (1) (G1)))))))))) : xMI X d 10 [.ref (o0), vi (x1)] F Q := by
  show xW X d 10 0 [.ref (o0), vi (x1)] [] F (xqi Q)
  exact s10_0 hPT h0 t

theorem s11_0 {X : List Int32} {d : Nat} {F : XF} {Q : Int → XF → Prop} {o0 : Nat} {x1 : Int} {x2 : Int} {w3 : Value} (hPT : xPT F) (h0 : xob 1 o0) (t : ∃ (j1 : Nat), j1 < d ∧ xMI X j1 7 [.ref (o0)] (F) (fun (y1 : Int) (G1 : XF) => (inR (y1) ∧ ((((y1) = (0)) → (∃ (j2 : Nat), j2 < d ∧ xMI X j2 8 [.ref (o0), vi (x1)] (G1) (fun (y2 : Int) (G2 : XF) => (inR (y2) ∧ inR ((G2) (o0) 3) ∧ ((((y2) < ((G2) (o0) 3)) → (xPT (G2) → Q (0) (G2))) ∧ (¬ ((y2) < ((G2) (o0) 3)) → (inR ((y2) + (x2)) ∧ inR ((G2) (o0) 4) ∧ (((((G2) (o0) 4) < ((y2) + (x2))) → (xPT (G2) → Q (0) (G2))) ∧ (¬ (((G2) (o0) 4) < ((y2) + (x2))) → (xPT (G2) → Q (1) (G2))))))))))) ∧ (¬ ((y1) = (0)) → (xPT (G1) → Q (1) (G1))))))) : xW X d 11 0 [.ref (o0), vi (x1), vi (x2), w3] [] F (xqi Q) := by
  refine xw_aload_n (n := 1) (show xlook 11 0 = some (0, .aload_n 0, 1, 0, 0, 0, 0) from xlk (by decide +kernel)) rfl rfl ?_
  obtain ⟨j1, hj1, rr1, G1, hm1, hG1, t⟩ := t
  obtain ⟨y1, rfl, t⟩ := t
  refine xw_callv (dk := j1) (o := o0) (as := []) (show xlook 11 1 = some (1, .invokevirtual 37, 3, 7, 1, 0, 6) from xlk (by decide +kernel)) (by decide) hj1 ⟨Nat.le_of_ble_eq_true rfl, Nat.le_of_ble_eq_true rfl, Nat.le_of_ble_eq_true rfl⟩ ⟨h0.1, h0.2, by decide⟩ rfl hm1 (n := 4) rfl ?_
  show xW X d 11 4 [.ref (o0), vi (x1), vi (x2), w3] [vi (y1)] G1 (xqi Q)
  obtain ⟨q0, t⟩ := t
  refine xw_if_eq (n := 7) (m := 9) (show xlook 11 4 = some (4, .ifCond .eq 5, 3, 9, 0, 0, 0) from xlk (by decide +kernel)) rfl rfl q0 ⟨fun c => ?_, fun c => ?_⟩
  · replace t := t.1 c
    refine xw_aload_n (n := 10) (show xlook 11 9 = some (9, .aload_n 0, 1, 0, 0, 0, 0) from xlk (by decide +kernel)) rfl rfl ?_
    refine xw_iload_n (n := 11) (show xlook 11 10 = some (10, .iload_n 1, 1, 0, 0, 0, 0) from xlk (by decide +kernel)) rfl rfl ?_
    obtain ⟨j2, hj2, rr2, G2, hm2, hG2, t⟩ := t
    obtain ⟨y2, rfl, t⟩ := t
    refine xw_callv (dk := j2) (o := o0) (as := [vi (x1)]) (show xlook 11 11 = some (11, .invokevirtual 33, 3, 8, 2, 0, 5) from xlk (by decide +kernel)) (by decide) hj2 ⟨Nat.le_of_ble_eq_true rfl, Nat.le_of_ble_eq_true rfl, Nat.le_of_ble_eq_true rfl⟩ ⟨h0.1, h0.2, by decide⟩ rfl hm2 (n := 14) rfl ?_
    show xW X d 11 14 [.ref (o0), vi (x1), vi (x2), w3] [vi (y2)] G2 (xqi Q)
    refine xw_istore_n (n := 15) (show xlook 11 14 = some (14, .istore_n 3, 1, 0, 0, 0, 0) from xlk (by decide +kernel)) rfl (ls' := [.ref (o0), vi (x1), vi (x2), vi (y2)]) (Nat.le_of_ble_eq_true rfl) rfl ?_
    refine xw_iload_n (n := 16) (show xlook 11 15 = some (15, .iload_n 3, 1, 0, 0, 0, 0) from xlk (by decide +kernel)) rfl rfl ?_
    refine xw_aload_n (n := 17) (show xlook 11 16 = some (16, .aload_n 0, 1, 0, 0, 0, 0) from xlk (by decide +kernel)) rfl rfl ?_
    refine xw_geti (show xlook 11 17 = some (17, .getfield 27, 3, 1, 3, 0, 13) from xlk (by decide +kernel)) (by decide) (xobf h0 (by decide) (by decide)) rfl (n := 20) rfl ?_
    obtain ⟨q0, q1, t⟩ := t
    refine xw_icmp_lt (n := 23) (m := 37) (show xlook 11 20 = some (20, .if_icmp .lt 17, 3, 37, 0, 0, 0) from xlk (by decide +kernel)) rfl rfl q0 q1 ⟨fun c => ?_, fun c => ?_⟩
    · replace t := t.1 c
      refine xw_iconst (n := 38) (show xlook 11 37 = some (37, .iconst 0, 1, 0, 0, 0, 0) from xlk (by decide +kernel)) rfl ?_
      exact xw_zreturn hG2 (show xlook 11 38 = some (38, .ireturn, 1, 0, 0, 0, 0) from xlk (by decide +kernel)) rfl (by decide) (t hG2)
    · replace t := t.2 c
      refine xw_iload_n (n := 24) (show xlook 11 23 = some (23, .iload_n 3, 1, 0, 0, 0, 0) from xlk (by decide +kernel)) rfl rfl ?_
      refine xw_iload_n (n := 25) (show xlook 11 24 = some (24, .iload_n 2, 1, 0, 0, 0, 0) from xlk (by decide +kernel)) rfl rfl ?_
      refine xw_iadd (n := 26) (show xlook 11 25 = some (25, .iadd, 1, 0, 0, 0, 0) from xlk (by decide +kernel)) rfl ?_
      refine xw_aload_n (n := 27) (show xlook 11 26 = some (26, .aload_n 0, 1, 0, 0, 0, 0) from xlk (by decide +kernel)) rfl rfl ?_
      refine xw_geti (show xlook 11 27 = some (27, .getfield 15, 3, 1, 4, 0, 9) from xlk (by decide +kernel)) (by decide) (xobf h0 (by decide) (by decide)) rfl (n := 30) rfl ?_
      obtain ⟨q0, q1, t⟩ := t
      refine xw_icmp_gt (n := 33) (m := 37) (show xlook 11 30 = some (30, .if_icmp .gt 7, 3, 37, 0, 0, 0) from xlk (by decide +kernel)) rfl rfl q0 q1 ⟨fun c => ?_, fun c => ?_⟩
      · replace t := t.1 c
        refine xw_iconst (n := 38) (show xlook 11 37 = some (37, .iconst 0, 1, 0, 0, 0, 0) from xlk (by decide +kernel)) rfl ?_
        exact xw_zreturn hG2 (show xlook 11 38 = some (38, .ireturn, 1, 0, 0, 0, 0) from xlk (by decide +kernel)) rfl (by decide) (t hG2)
      · replace t := t.2 c
        refine xw_iconst (n := 34) (show xlook 11 33 = some (33, .iconst 1, 1, 0, 0, 0, 0) from xlk (by decide +kernel)) rfl ?_
        refine xw_goto (m := 38) (show xlook 11 34 = some (34, .goto 4, 3, 38, 0, 0, 0) from xlk (by decide +kernel)) rfl ?_
        exact xw_zreturn hG2 (show xlook 11 38 = some (38, .ireturn, 1, 0, 0, 0, 0) from xlk (by decide +kernel)) rfl (by decide) (t hG2)
  · replace t := t.2 c
    refine xw_iconst (n := 8) (show xlook 11 7 = some (7, .iconst 1, 1, 0, 0, 0, 0) from xlk (by decide +kernel)) rfl ?_
    exact xw_zreturn hG1 (show xlook 11 8 = some (8, .ireturn, 1, 0, 0, 0, 0) from xlk (by decide +kernel)) rfl (by decide) (t hG1)
theorem m11 {X : List Int32} {d : Nat} {F : XF} {Q : Int → XF → Prop} {o0 : Nat} {x1 : Int} {x2 : Int} (hPT : xPT F) (h0 : xob 1 o0) (t : ∃ (j1 : Nat), j1 < d ∧ xMI X j1 7 [.ref (o0)] (F) (fun (y1 : Int) (G1 : XF) => (inR (y1) ∧ ((((y1) = (0)) → (∃ (j2 : Nat), j2 < d ∧ xMI X j2 8 [.ref (o0), vi (x1)] (G1) (fun (y2 : Int) (G2 : XF) => (inR (y2) ∧ inR ((G2) (o0) 3) ∧ ((((y2) < ((G2) (o0) 3)) → (xPT (G2) → Q (0) (G2))) ∧ (¬ ((y2) < ((G2) (o0) 3)) → (inR ((y2) + (x2)) ∧ inR ((G2) (o0) 4) ∧ (((((G2) (o0) 4) < ((y2) + (x2))) → (xPT (G2) → Q (0) (G2))) ∧ (¬ (((G2) (o0) 4) < ((y2) + (x2))) → (xPT (G2) → Q (1) (G2))))))))))) ∧ (¬ ((y1) = (0)) → (xPT (G1) → Q (1) (G1))))))) : xMI X d 11 [.ref (o0), vi (x1), vi (x2)] F Q := by
  show xW X d 11 0 [.ref (o0), vi (x1), vi (x2), xU0] [] F (xqi Q)
  exact s11_0 hPT h0 t

theorem s12_0 {X : List Int32} {d : Nat} {F : XF} {Q : Int → XF → Prop} {o0 : Nat} {x1 : Int} {x2 : Int} {w3 : Value} {w4 : Value} (hPT : xPT F) (h0 : xob 1 o0) (t : ∃ (j1 : Nat), j1 < d ∧ xMI X j1 11 [.ref (o0), vi (x1), vi (x2)] (F) (fun (y1 : Int) (G1 : XF) => (inR (y1) ∧ ((((y1) = (0)) → (∃ (j2 : Nat), j2 < d ∧ xMI X j2 10 [.ref (o0), vi (x2)] (G1) (fun (y2 : Int) (G2 : XF) => (inR (y2) ∧ (((¬ (y2) = (0)) → (∃ (j3 : Nat), j3 < d ∧ xMI X j3 8 [.ref (o0), vi (x1)] (G2) (fun (y3 : Int) (G3 : XF) => (inR (y3) ∧ inR ((G3) (o0) 3) ∧ (((((G3) (o0) 3) ≤ (y3)) → (inR ((x1) + ((((G3) (o0) 2) - (y3)) + ((G3) (o0) 3))) ∧ (xPT (G3) → Q (min ((x1) + ((((G3) (o0) 2) - (y3)) + ((G3) (o0) 3))) (2000)) (G3)))) ∧ (¬ (((G3) (o0) 3) ≤ (y3)) → (inR ((x1) + (((G3) (o0) 3) - (y3))) ∧ (xPT (G3) → Q (min ((x1) + (((G3) (o0) 3) - (y3))) (2000)) (G3))))))))) ∧ (¬ (¬ (y2) = (0)) → (xPT (G2) → Q (2000) (G2)))))))) ∧ (¬ ((y1) = (0)) → (xPT (G1) → Q (x1) (G1))))))) : xW X d 12 0 [.ref (o0), vi (x1), vi (x2), w3, w4] [] F (xqi Q) := by
  refine xw_aload_n (n := 1) (show xlook 12 0 = some (0, .aload_n 0, 1, 0, 0, 0, 0) from xlk (by decide +kernel)) rfl rfl ?_
  refine xw_iload_n (n := 2) (show xlook 12 1 = some (1, .iload_n 1, 1, 0, 0, 0, 0) from xlk (by decide +kernel)) rfl rfl ?_
  refine xw_iload_n (n := 3) (show xlook 12 2 = some (2, .iload_n 2, 1, 0, 0, 0, 0) from xlk (by decide +kernel)) rfl rfl ?_
  obtain ⟨j1, hj1, rr1, G1, hm1, hG1, t⟩ := t
  obtain ⟨y1, rfl, t⟩ := t
  refine xw_callv (dk := j1) (o := o0) (as := [vi (x1), vi (x2)]) (show xlook 12 3 = some (3, .invokevirtual 41, 3, 11, 3, 0, 7) from xlk (by decide +kernel)) (by decide) hj1 ⟨Nat.le_of_ble_eq_true rfl, Nat.le_of_ble_eq_true rfl, Nat.le_of_ble_eq_true rfl⟩ ⟨h0.1, h0.2, by decide⟩ rfl hm1 (n := 6) rfl ?_
  show xW X d 12 6 [.ref (o0), vi (x1), vi (x2), w3, w4] [vi (y1)] G1 (xqi Q)
  obtain ⟨q0, t⟩ := t
  refine xw_if_eq (n := 9) (m := 11) (show xlook 12 6 = some (6, .ifCond .eq 5, 3, 11, 0, 0, 0) from xlk (by decide +kernel)) rfl rfl q0 ⟨fun c => ?_, fun c => ?_⟩
  · replace t := t.1 c
    refine xw_aload_n (n := 12) (show xlook 12 11 = some (11, .aload_n 0, 1, 0, 0, 0, 0) from xlk (by decide +kernel)) rfl rfl ?_
    refine xw_iload_n (n := 13) (show xlook 12 12 = some (12, .iload_n 2, 1, 0, 0, 0, 0) from xlk (by decide +kernel)) rfl rfl ?_
    obtain ⟨j2, hj2, rr2, G2, hm2, hG2, t⟩ := t
    obtain ⟨y2, rfl, t⟩ := t
    refine xw_callv (dk := j2) (o := o0) (as := [vi (x2)]) (show xlook 12 13 = some (13, .invokevirtual 45, 3, 10, 2, 0, 8) from xlk (by decide +kernel)) (by decide) hj2 ⟨Nat.le_of_ble_eq_true rfl, Nat.le_of_ble_eq_true rfl, Nat.le_of_ble_eq_true rfl⟩ ⟨h0.1, h0.2, by decide⟩ rfl hm2 (n := 16) rfl ?_
    show xW X d 12 16 [.ref (o0), vi (x1), vi (x2), w3, w4] [vi (y2)] G2 (xqi Q)
    obtain ⟨q0, t⟩ := t
    refine xw_if_ne (n := 19) (m := 23) (show xlook 12 16 = some (16, .ifCond .ne 7, 3, 23, 0, 0, 0) from xlk (by decide +kernel)) rfl rfl q0 ⟨fun c => ?_, fun c => ?_⟩
    · replace t := t.1 c
      refine xw_aload_n (n := 24) (show xlook 12 23 = some (23, .aload_n 0, 1, 0, 0, 0, 0) from xlk (by decide +kernel)) rfl rfl ?_
      refine xw_iload_n (n := 25) (show xlook 12 24 = some (24, .iload_n 1, 1, 0, 0, 0, 0) from xlk (by decide +kernel)) rfl rfl ?_
      obtain ⟨j3, hj3, rr3, G3, hm3, hG3, t⟩ := t
      obtain ⟨y3, rfl, t⟩ := t
      refine xw_callv (dk := j3) (o := o0) (as := [vi (x1)]) (show xlook 12 25 = some (25, .invokevirtual 33, 3, 8, 2, 0, 5) from xlk (by decide +kernel)) (by decide) hj3 ⟨Nat.le_of_ble_eq_true rfl, Nat.le_of_ble_eq_true rfl, Nat.le_of_ble_eq_true rfl⟩ ⟨h0.1, h0.2, by decide⟩ rfl hm3 (n := 28) rfl ?_
      show xW X d 12 28 [.ref (o0), vi (x1), vi (x2), w3, w4] [vi (y3)] G3 (xqi Q)
      refine xw_istore_n (n := 29) (show xlook 12 28 = some (28, .istore_n 3, 1, 0, 0, 0, 0) from xlk (by decide +kernel)) rfl (ls' := [.ref (o0), vi (x1), vi (x2), vi (y3), w4]) (Nat.le_of_ble_eq_true rfl) rfl ?_
      refine xw_iload_n (n := 30) (show xlook 12 29 = some (29, .iload_n 3, 1, 0, 0, 0, 0) from xlk (by decide +kernel)) rfl rfl ?_
      refine xw_aload_n (n := 31) (show xlook 12 30 = some (30, .aload_n 0, 1, 0, 0, 0, 0) from xlk (by decide +kernel)) rfl rfl ?_
      refine xw_geti (show xlook 12 31 = some (31, .getfield 27, 3, 1, 3, 0, 13) from xlk (by decide +kernel)) (by decide) (xobf h0 (by decide) (by decide)) rfl (n := 34) rfl ?_
      obtain ⟨q0, q1, t⟩ := t
      refine xw_icmp_ge (n := 37) (m := 46) (show xlook 12 34 = some (34, .if_icmp .ge 12, 3, 46, 0, 0, 0) from xlk (by decide +kernel)) rfl rfl q0 q1 ⟨fun c => ?_, fun c => ?_⟩
      · replace t := t.1 c
        refine xw_aload_n (n := 47) (show xlook 12 46 = some (46, .aload_n 0, 1, 0, 0, 0, 0) from xlk (by decide +kernel)) rfl rfl ?_
        refine xw_geti (show xlook 12 47 = some (47, .getfield 9, 3, 1, 2, 0, 8) from xlk (by decide +kernel)) (by decide) (xobf h0 (by decide) (by decide)) rfl (n := 50) rfl ?_
        refine xw_iload_n (n := 51) (show xlook 12 50 = some (50, .iload_n 3, 1, 0, 0, 0, 0) from xlk (by decide +kernel)) rfl rfl ?_
        refine xw_isub (n := 52) (show xlook 12 51 = some (51, .isub, 1, 0, 0, 0, 0) from xlk (by decide +kernel)) rfl ?_
        refine xw_aload_n (n := 53) (show xlook 12 52 = some (52, .aload_n 0, 1, 0, 0, 0, 0) from xlk (by decide +kernel)) rfl rfl ?_
        refine xw_geti (show xlook 12 53 = some (53, .getfield 27, 3, 1, 3, 0, 13) from xlk (by decide +kernel)) (by decide) (xobf h0 (by decide) (by decide)) rfl (n := 56) rfl ?_
        refine xw_iadd (n := 57) (show xlook 12 56 = some (56, .iadd, 1, 0, 0, 0, 0) from xlk (by decide +kernel)) rfl ?_
        refine xw_istore (n := 59) (show xlook 12 57 = some (57, .istore 4, 2, 0, 0, 0, 0) from xlk (by decide +kernel)) rfl (ls' := [.ref (o0), vi (x1), vi (x2), vi (y3), vi ((((G3) (o0) 2) - (y3)) + ((G3) (o0) 3))]) (Nat.le_of_ble_eq_true rfl) rfl ?_
        refine xw_iload_n (n := 60) (show xlook 12 59 = some (59, .iload_n 1, 1, 0, 0, 0, 0) from xlk (by decide +kernel)) rfl rfl ?_
        refine xw_iload (n := 62) (show xlook 12 60 = some (60, .iload 4, 2, 0, 0, 0, 0) from xlk (by decide +kernel)) rfl rfl ?_
        refine xw_iadd (n := 63) (show xlook 12 62 = some (62, .iadd, 1, 0, 0, 0, 0) from xlk (by decide +kernel)) rfl ?_
        refine xw_sipush (n := 66) (show xlook 12 63 = some (63, .sipush 2000, 3, 0, 0, 0, 0) from xlk (by decide +kernel)) rfl (by decide) ?_
        obtain ⟨q0, t⟩ := t
        refine xw_min (show xlook 12 66 = some (66, .invokestatic 49, 3, 1002, 2, 0, 9) from xlk (by decide +kernel)) rfl (Nat.le_of_ble_eq_true rfl) q0 ⟨by decide, by decide⟩ (n := 69) rfl ?_
        exact xw_ireturn hG3 (show xlook 12 69 = some (69, .ireturn, 1, 0, 0, 0, 0) from xlk (by decide +kernel)) rfl (t hG3)
      · replace t := t.2 c
        refine xw_aload_n (n := 38) (show xlook 12 37 = some (37, .aload_n 0, 1, 0, 0, 0, 0) from xlk (by decide +kernel)) rfl rfl ?_
        refine xw_geti (show xlook 12 38 = some (38, .getfield 27, 3, 1, 3, 0, 13) from xlk (by decide +kernel)) (by decide) (xobf h0 (by decide) (by decide)) rfl (n := 41) rfl ?_
        refine xw_iload_n (n := 42) (show xlook 12 41 = some (41, .iload_n 3, 1, 0, 0, 0, 0) from xlk (by decide +kernel)) rfl rfl ?_
        refine xw_isub (n := 43) (show xlook 12 42 = some (42, .isub, 1, 0, 0, 0, 0) from xlk (by decide +kernel)) rfl ?_
        refine xw_goto (m := 57) (show xlook 12 43 = some (43, .goto 14, 3, 57, 0, 0, 0) from xlk (by decide +kernel)) rfl ?_
        refine xw_istore (n := 59) (show xlook 12 57 = some (57, .istore 4, 2, 0, 0, 0, 0) from xlk (by decide +kernel)) rfl (ls' := [.ref (o0), vi (x1), vi (x2), vi (y3), vi (((G3) (o0) 3) - (y3))]) (Nat.le_of_ble_eq_true rfl) rfl ?_
        refine xw_iload_n (n := 60) (show xlook 12 59 = some (59, .iload_n 1, 1, 0, 0, 0, 0) from xlk (by decide +kernel)) rfl rfl ?_
        refine xw_iload (n := 62) (show xlook 12 60 = some (60, .iload 4, 2, 0, 0, 0, 0) from xlk (by decide +kernel)) rfl rfl ?_
        refine xw_iadd (n := 63) (show xlook 12 62 = some (62, .iadd, 1, 0, 0, 0, 0) from xlk (by decide +kernel)) rfl ?_
        refine xw_sipush (n := 66) (show xlook 12 63 = some (63, .sipush 2000, 3, 0, 0, 0, 0) from xlk (by decide +kernel)) rfl (by decide) ?_
        obtain ⟨q0, t⟩ := t
        refine xw_min (show xlook 12 66 = some (66, .invokestatic 49, 3, 1002, 2, 0, 9) from xlk (by decide +kernel)) rfl (Nat.le_of_ble_eq_true rfl) q0 ⟨by decide, by decide⟩ (n := 69) rfl ?_
        exact xw_ireturn hG3 (show xlook 12 69 = some (69, .ireturn, 1, 0, 0, 0, 0) from xlk (by decide +kernel)) rfl (t hG3)
    · replace t := t.2 c
      refine xw_sipush (n := 22) (show xlook 12 19 = some (19, .sipush 2000, 3, 0, 0, 0, 0) from xlk (by decide +kernel)) rfl (by decide) ?_
      exact xw_ireturn hG2 (show xlook 12 22 = some (22, .ireturn, 1, 0, 0, 0, 0) from xlk (by decide +kernel)) rfl (t hG2)
  · replace t := t.2 c
    refine xw_iload_n (n := 10) (show xlook 12 9 = some (9, .iload_n 1, 1, 0, 0, 0, 0) from xlk (by decide +kernel)) rfl rfl ?_
    exact xw_ireturn hG1 (show xlook 12 10 = some (10, .ireturn, 1, 0, 0, 0, 0) from xlk (by decide +kernel)) rfl (t hG1)
theorem m12 {X : List Int32} {d : Nat} {F : XF} {Q : Int → XF → Prop} {o0 : Nat} {x1 : Int} {x2 : Int} (hPT : xPT F) (h0 : xob 1 o0) (t : ∃ (j1 : Nat), j1 < d ∧ xMI X j1 11 [.ref (o0), vi (x1), vi (x2)] (F) (fun (y1 : Int) (G1 : XF) => (inR (y1) ∧ ((((y1) = (0)) → (∃ (j2 : Nat), j2 < d ∧ xMI X j2 10 [.ref (o0), vi (x2)] (G1) (fun (y2 : Int) (G2 : XF) => (inR (y2) ∧ (((¬ (y2) = (0)) → (∃ (j3 : Nat), j3 < d ∧ xMI X j3 8 [.ref (o0), vi (x1)] (G2) (fun (y3 : Int) (G3 : XF) => (inR (y3) ∧ inR ((G3) (o0) 3) ∧ (((((G3) (o0) 3) ≤ (y3)) → (inR ((x1) + ((((G3) (o0) 2) - (y3)) + ((G3) (o0) 3))) ∧ (xPT (G3) → Q (min ((x1) + ((((G3) (o0) 2) - (y3)) + ((G3) (o0) 3))) (2000)) (G3)))) ∧ (¬ (((G3) (o0) 3) ≤ (y3)) → (inR ((x1) + (((G3) (o0) 3) - (y3))) ∧ (xPT (G3) → Q (min ((x1) + (((G3) (o0) 3) - (y3))) (2000)) (G3))))))))) ∧ (¬ (¬ (y2) = (0)) → (xPT (G2) → Q (2000) (G2)))))))) ∧ (¬ ((y1) = (0)) → (xPT (G1) → Q (x1) (G1))))))) : xMI X d 12 [.ref (o0), vi (x1), vi (x2)] F Q := by
  show xW X d 12 0 [.ref (o0), vi (x1), vi (x2), xU0, xU0] [] F (xqi Q)
  exact s12_0 hPT h0 t

theorem s13_0 {X : List Int32} {d : Nat} {F : XF} {Q : Int → XF → Prop} {o0 : Nat} (hPT : xPT F) (h0 : xob 1 o0) (t : ∃ (j1 : Nat), j1 < d ∧ xMI X j1 7 [.ref (o0)] (F) (fun (y1 : Int) (G1 : XF) => (inR (y1) ∧ (((¬ (y1) = (0)) → (xPT (G1) → Q (1) (G1))) ∧ (¬ (¬ (y1) = (0)) → (inR ((G1) (o0) 2) ∧ ((((1) ≤ ((G1) (o0) 2)) → ((0 ≤ ((((2000) - ((G1) (o0) 3)) + ((G1) (o0) 2)) - (1) : Int) ∧ ((((2000) - ((G1) (o0) 3)) + ((G1) (o0) 2)) - (1) : Int) ≤ 2147483647) ∧ (0 < ((G1) (o0) 2 : Int) ∧ ((G1) (o0) 2 : Int) ≤ 2147483647) ∧ (xPT (G1) → Q (((((2000) - ((G1) (o0) 3)) + ((G1) (o0) 2)) - (1)) / ((G1) (o0) 2)) (G1)))) ∧ (¬ ((1) ≤ ((G1) (o0) 2)) → (xPT (G1) → Q (1) (G1)))))))))) : xW X d 13 0 [.ref (o0)] [] F (xqi Q) := by
  refine xw_aload_n (n := 1) (show xlook 13 0 = some (0, .aload_n 0, 1, 0, 0, 0, 0) from xlk (by decide +kernel)) rfl rfl ?_
  obtain ⟨j1, hj1, rr1, G1, hm1, hG1, t⟩ := t
  obtain ⟨y1, rfl, t⟩ := t
  refine xw_callv (dk := j1) (o := o0) (as := []) (show xlook 13 1 = some (1, .invokevirtual 37, 3, 7, 1, 0, 6) from xlk (by decide +kernel)) (by decide) hj1 ⟨Nat.le_of_ble_eq_true rfl, Nat.le_of_ble_eq_true rfl, Nat.le_of_ble_eq_true rfl⟩ ⟨h0.1, h0.2, by decide⟩ rfl hm1 (n := 4) rfl ?_
  show xW X d 13 4 [.ref (o0)] [vi (y1)] G1 (xqi Q)
  obtain ⟨q0, t⟩ := t
  refine xw_if_ne (n := 7) (m := 15) (show xlook 13 4 = some (4, .ifCond .ne 11, 3, 15, 0, 0, 0) from xlk (by decide +kernel)) rfl rfl q0 ⟨fun c => ?_, fun c => ?_⟩
  · replace t := t.1 c
    refine xw_iconst (n := 16) (show xlook 13 15 = some (15, .iconst 1, 1, 0, 0, 0, 0) from xlk (by decide +kernel)) rfl ?_
    exact xw_ireturn hG1 (show xlook 13 16 = some (16, .ireturn, 1, 0, 0, 0, 0) from xlk (by decide +kernel)) rfl (t hG1)
  · replace t := t.2 c
    refine xw_aload_n (n := 8) (show xlook 13 7 = some (7, .aload_n 0, 1, 0, 0, 0, 0) from xlk (by decide +kernel)) rfl rfl ?_
    refine xw_geti (show xlook 13 8 = some (8, .getfield 9, 3, 1, 2, 0, 8) from xlk (by decide +kernel)) (by decide) (xobf h0 (by decide) (by decide)) rfl (n := 11) rfl ?_
    refine xw_iconst (n := 12) (show xlook 13 11 = some (11, .iconst 1, 1, 0, 0, 0, 0) from xlk (by decide +kernel)) rfl ?_
    obtain ⟨q0, t⟩ := t
    refine xw_icmp_ge (n := 15) (m := 17) (show xlook 13 12 = some (12, .if_icmp .ge 5, 3, 17, 0, 0, 0) from xlk (by decide +kernel)) rfl rfl q0 ⟨by decide, by decide⟩ ⟨fun c => ?_, fun c => ?_⟩
    · replace t := t.1 c
      refine xw_sipush (n := 20) (show xlook 13 17 = some (17, .sipush 2000, 3, 0, 0, 0, 0) from xlk (by decide +kernel)) rfl (by decide) ?_
      refine xw_aload_n (n := 21) (show xlook 13 20 = some (20, .aload_n 0, 1, 0, 0, 0, 0) from xlk (by decide +kernel)) rfl rfl ?_
      refine xw_geti (show xlook 13 21 = some (21, .getfield 27, 3, 1, 3, 0, 13) from xlk (by decide +kernel)) (by decide) (xobf h0 (by decide) (by decide)) rfl (n := 24) rfl ?_
      refine xw_isub (n := 25) (show xlook 13 24 = some (24, .isub, 1, 0, 0, 0, 0) from xlk (by decide +kernel)) rfl ?_
      refine xw_aload_n (n := 26) (show xlook 13 25 = some (25, .aload_n 0, 1, 0, 0, 0, 0) from xlk (by decide +kernel)) rfl rfl ?_
      refine xw_geti (show xlook 13 26 = some (26, .getfield 9, 3, 1, 2, 0, 8) from xlk (by decide +kernel)) (by decide) (xobf h0 (by decide) (by decide)) rfl (n := 29) rfl ?_
      refine xw_iadd (n := 30) (show xlook 13 29 = some (29, .iadd, 1, 0, 0, 0, 0) from xlk (by decide +kernel)) rfl ?_
      refine xw_iconst (n := 31) (show xlook 13 30 = some (30, .iconst 1, 1, 0, 0, 0, 0) from xlk (by decide +kernel)) rfl ?_
      refine xw_isub (n := 32) (show xlook 13 31 = some (31, .isub, 1, 0, 0, 0, 0) from xlk (by decide +kernel)) rfl ?_
      refine xw_aload_n (n := 33) (show xlook 13 32 = some (32, .aload_n 0, 1, 0, 0, 0, 0) from xlk (by decide +kernel)) rfl rfl ?_
      refine xw_geti (show xlook 13 33 = some (33, .getfield 9, 3, 1, 2, 0, 8) from xlk (by decide +kernel)) (by decide) (xobf h0 (by decide) (by decide)) rfl (n := 36) rfl ?_
      obtain ⟨q1, q2, t⟩ := t
      refine xw_idiv (n := 37) (show xlook 13 36 = some (36, .idiv, 1, 0, 0, 0, 0) from xlk (by decide +kernel)) rfl q1 q2 ?_
      exact xw_ireturn hG1 (show xlook 13 37 = some (37, .ireturn, 1, 0, 0, 0, 0) from xlk (by decide +kernel)) rfl (t hG1)
    · replace t := t.2 c
      refine xw_iconst (n := 16) (show xlook 13 15 = some (15, .iconst 1, 1, 0, 0, 0, 0) from xlk (by decide +kernel)) rfl ?_
      exact xw_ireturn hG1 (show xlook 13 16 = some (16, .ireturn, 1, 0, 0, 0, 0) from xlk (by decide +kernel)) rfl (t hG1)
theorem m13 {X : List Int32} {d : Nat} {F : XF} {Q : Int → XF → Prop} {o0 : Nat} (hPT : xPT F) (h0 : xob 1 o0) (t : ∃ (j1 : Nat), j1 < d ∧ xMI X j1 7 [.ref (o0)] (F) (fun (y1 : Int) (G1 : XF) => (inR (y1) ∧ (((¬ (y1) = (0)) → (xPT (G1) → Q (1) (G1))) ∧ (¬ (¬ (y1) = (0)) → (inR ((G1) (o0) 2) ∧ ((((1) ≤ ((G1) (o0) 2)) → ((0 ≤ ((((2000) - ((G1) (o0) 3)) + ((G1) (o0) 2)) - (1) : Int) ∧ ((((2000) - ((G1) (o0) 3)) + ((G1) (o0) 2)) - (1) : Int) ≤ 2147483647) ∧ (0 < ((G1) (o0) 2 : Int) ∧ ((G1) (o0) 2 : Int) ≤ 2147483647) ∧ (xPT (G1) → Q (((((2000) - ((G1) (o0) 3)) + ((G1) (o0) 2)) - (1)) / ((G1) (o0) 2)) (G1)))) ∧ (¬ ((1) ≤ ((G1) (o0) 2)) → (xPT (G1) → Q (1) (G1)))))))))) : xMI X d 13 [.ref (o0)] F Q := by
  show xW X d 13 0 [.ref (o0)] [] F (xqi Q)
  exact s13_0 hPT h0 t

theorem s14_0 {X : List Int32} {d : Nat} {F : XF} {Q : Int → XF → Prop} {o0 : Nat} {x1 : Int} (hPT : xPT F) (h0 : xob 1 o0) (t : xPT (F) → Q (((x1) * ((F) (o0) 2)) + ((F) (o0) 3)) (F)) : xW X d 14 0 [.ref (o0), vi (x1)] [] F (xqi Q) := by
  refine xw_iload_n (n := 1) (show xlook 14 0 = some (0, .iload_n 1, 1, 0, 0, 0, 0) from xlk (by decide +kernel)) rfl rfl ?_
  refine xw_aload_n (n := 2) (show xlook 14 1 = some (1, .aload_n 0, 1, 0, 0, 0, 0) from xlk (by decide +kernel)) rfl rfl ?_
  refine xw_geti (show xlook 14 2 = some (2, .getfield 9, 3, 1, 2, 0, 8) from xlk (by decide +kernel)) (by decide) (xobf h0 (by decide) (by decide)) rfl (n := 5) rfl ?_
  refine xw_imul (n := 6) (show xlook 14 5 = some (5, .imul, 1, 0, 0, 0, 0) from xlk (by decide +kernel)) rfl ?_
  refine xw_aload_n (n := 7) (show xlook 14 6 = some (6, .aload_n 0, 1, 0, 0, 0, 0) from xlk (by decide +kernel)) rfl rfl ?_
  refine xw_geti (show xlook 14 7 = some (7, .getfield 27, 3, 1, 3, 0, 13) from xlk (by decide +kernel)) (by decide) (xobf h0 (by decide) (by decide)) rfl (n := 10) rfl ?_
  refine xw_iadd (n := 11) (show xlook 14 10 = some (10, .iadd, 1, 0, 0, 0, 0) from xlk (by decide +kernel)) rfl ?_
  exact xw_ireturn hPT (show xlook 14 11 = some (11, .ireturn, 1, 0, 0, 0, 0) from xlk (by decide +kernel)) rfl (t hPT)
theorem m14 {X : List Int32} {d : Nat} {F : XF} {Q : Int → XF → Prop} {o0 : Nat} {x1 : Int} (hPT : xPT F) (h0 : xob 1 o0) (t : xPT (F) → Q (((x1) * ((F) (o0) 2)) + ((F) (o0) 3)) (F)) : xMI X d 14 [.ref (o0), vi (x1)] F Q := by
  show xW X d 14 0 [.ref (o0), vi (x1)] [] F (xqi Q)
  exact s14_0 hPT h0 t

theorem s15_0 {X : List Int32} {d : Nat} {F : XF} {Q : Int → XF → Prop} {o0 : Nat} {x1 : Int} (hPT : xPT F) (h0 : xob 1 o0) (t : ∃ (j1 : Nat), j1 < d ∧ xMI X j1 7 [.ref (o0)] (F) (fun (y1 : Int) (G1 : XF) => (inR (y1) ∧ ((((y1) = (0)) → (∃ (j2 : Nat), j2 < d ∧ xMI X j2 14 [.ref (o0), vi (x1)] (G1) (fun (y2 : Int) (G2 : XF) => (inR (((G1) (o0) 4) - ((G1) (o0) 3)) ∧ inR ((2000) - (y2)) ∧ (xPT (G2) → Q (min (((G1) (o0) 4) - ((G1) (o0) 3)) ((2000) - (y2))) (G2)))))) ∧ (¬ ((y1) = (0)) → (xPT (G1) → Q (2000) (G1))))))) : xW X d 15 0 [.ref (o0), vi (x1)] [] F (xqi Q) := by
  refine xw_aload_n (n := 1) (show xlook 15 0 = some (0, .aload_n 0, 1, 0, 0, 0, 0) from xlk (by decide +kernel)) rfl rfl ?_
  obtain ⟨j1, hj1, rr1, G1, hm1, hG1, t⟩ := t
  obtain ⟨y1, rfl, t⟩ := t
  refine xw_callv (dk := j1) (o := o0) (as := []) (show xlook 15 1 = some (1, .invokevirtual 37, 3, 7, 1, 0, 6) from xlk (by decide +kernel)) (by decide) hj1 ⟨Nat.le_of_ble_eq_true rfl, Nat.le_of_ble_eq_true rfl, Nat.le_of_ble_eq_true rfl⟩ ⟨h0.1, h0.2, by decide⟩ rfl hm1 (n := 4) rfl ?_
  show xW X d 15 4 [.ref (o0), vi (x1)] [vi (y1)] G1 (xqi Q)
  obtain ⟨q0, t⟩ := t
  refine xw_if_eq (n := 7) (m := 11) (show xlook 15 4 = some (4, .ifCond .eq 7, 3, 11, 0, 0, 0) from xlk (by decide +kernel)) rfl rfl q0 ⟨fun c => ?_, fun c => ?_⟩
  · replace t := t.1 c
    refine xw_aload_n (n := 12) (show xlook 15 11 = some (11, .aload_n 0, 1, 0, 0, 0, 0) from xlk (by decide +kernel)) rfl rfl ?_
    refine xw_geti (show xlook 15 12 = some (12, .getfield 15, 3, 1, 4, 0, 9) from xlk (by decide +kernel)) (by decide) (xobf h0 (by decide) (by decide)) rfl (n := 15) rfl ?_
    refine xw_aload_n (n := 16) (show xlook 15 15 = some (15, .aload_n 0, 1, 0, 0, 0, 0) from xlk (by decide +kernel)) rfl rfl ?_
    refine xw_geti (show xlook 15 16 = some (16, .getfield 27, 3, 1, 3, 0, 13) from xlk (by decide +kernel)) (by decide) (xobf h0 (by decide) (by decide)) rfl (n := 19) rfl ?_
    refine xw_isub (n := 20) (show xlook 15 19 = some (19, .isub, 1, 0, 0, 0, 0) from xlk (by decide +kernel)) rfl ?_
    refine xw_sipush (n := 23) (show xlook 15 20 = some (20, .sipush 2000, 3, 0, 0, 0, 0) from xlk (by decide +kernel)) rfl (by decide) ?_
    refine xw_aload_n (n := 24) (show xlook 15 23 = some (23, .aload_n 0, 1, 0, 0, 0, 0) from xlk (by decide +kernel)) rfl rfl ?_
    refine xw_iload_n (n := 25) (show xlook 15 24 = some (24, .iload_n 1, 1, 0, 0, 0, 0) from xlk (by decide +kernel)) rfl rfl ?_
    obtain ⟨j2, hj2, rr2, G2, hm2, hG2, t⟩ := t
    obtain ⟨y2, rfl, t⟩ := t
    refine xw_callv (dk := j2) (o := o0) (as := [vi (x1)]) (show xlook 15 25 = some (25, .invokevirtual 55, 3, 14, 2, 0, 10) from xlk (by decide +kernel)) (by decide) hj2 ⟨Nat.le_of_ble_eq_true rfl, Nat.le_of_ble_eq_true rfl, Nat.le_of_ble_eq_true rfl⟩ ⟨h0.1, h0.2, by decide⟩ rfl hm2 (n := 28) rfl ?_
    show xW X d 15 28 [.ref (o0), vi (x1)] [vi (y2), vi (2000), vi (((G1) (o0) 4) - ((G1) (o0) 3))] G2 (xqi Q)
    refine xw_isub (n := 29) (show xlook 15 28 = some (28, .isub, 1, 0, 0, 0, 0) from xlk (by decide +kernel)) rfl ?_
    obtain ⟨q0, q1, t⟩ := t
    refine xw_min (show xlook 15 29 = some (29, .invokestatic 49, 3, 1002, 2, 0, 9) from xlk (by decide +kernel)) rfl (Nat.le_of_ble_eq_true rfl) q0 q1 (n := 32) rfl ?_
    exact xw_ireturn hG2 (show xlook 15 32 = some (32, .ireturn, 1, 0, 0, 0, 0) from xlk (by decide +kernel)) rfl (t hG2)
  · replace t := t.2 c
    refine xw_sipush (n := 10) (show xlook 15 7 = some (7, .sipush 2000, 3, 0, 0, 0, 0) from xlk (by decide +kernel)) rfl (by decide) ?_
    exact xw_ireturn hG1 (show xlook 15 10 = some (10, .ireturn, 1, 0, 0, 0, 0) from xlk (by decide +kernel)) rfl (t hG1)
theorem m15 {X : List Int32} {d : Nat} {F : XF} {Q : Int → XF → Prop} {o0 : Nat} {x1 : Int} (hPT : xPT F) (h0 : xob 1 o0) (t : ∃ (j1 : Nat), j1 < d ∧ xMI X j1 7 [.ref (o0)] (F) (fun (y1 : Int) (G1 : XF) => (inR (y1) ∧ ((((y1) = (0)) → (∃ (j2 : Nat), j2 < d ∧ xMI X j2 14 [.ref (o0), vi (x1)] (G1) (fun (y2 : Int) (G2 : XF) => (inR (((G1) (o0) 4) - ((G1) (o0) 3)) ∧ inR ((2000) - (y2)) ∧ (xPT (G2) → Q (min (((G1) (o0) 4) - ((G1) (o0) 3)) ((2000) - (y2))) (G2)))))) ∧ (¬ ((y1) = (0)) → (xPT (G1) → Q (2000) (G1))))))) : xMI X d 15 [.ref (o0), vi (x1)] F Q := by
  show xW X d 15 0 [.ref (o0), vi (x1)] [] F (xqi Q)
  exact s15_0 hPT h0 t

theorem s17_0 {X : List Int32} {d : Nat} {F : XF} {Q : XF → Prop} {o0 : Nat} {x1 : Int} {x2 : Int} {x3 : Int} {x4 : Int} (hPT : xPT F) (h0 : xob 2 o0) (t : inR ((F) (o0) 0) ∧ inR ((xln0 (o0 + 1) : Int)) ∧ (((((xln0 (o0 + 1) : Int)) ≤ ((F) (o0) 0)) → (xPT (F) → Q (F))) ∧ (¬ (((xln0 (o0 + 1) : Int)) ≤ ((F) (o0) 0)) → ((0 ≤ ((F) (o0) 0) ∧ ((F) (o0) 0) < (xln0 (o0 + 1) : Int)) ∧ ((0 ≤ ((F) (o0) 0) ∧ ((F) (o0) 0) < (xln0 (o0 + 2) : Int)) ∧ ((0 ≤ ((F) (o0) 0) ∧ ((F) (o0) 0) < (xln0 (o0 + 3) : Int)) ∧ ((0 ≤ ((F) (o0) 0) ∧ ((F) (o0) 0) < (xln0 (o0 + 4) : Int)) ∧ (xPT (xup (xup (xup (xup (xup (F) (o0 + 1) ((F) (o0) 0) (x1)) (o0 + 2) ((F) (o0) 0) (x2)) (o0 + 3) ((F) (o0) 0) (x3)) (o0 + 4) ((F) (o0) 0) (x4)) (o0) 0 (((F) (o0) 0) + (1))) → Q (xup (xup (xup (xup (xup (F) (o0 + 1) ((F) (o0) 0) (x1)) (o0 + 2) ((F) (o0) 0) (x2)) (o0 + 3) ((F) (o0) 0) (x3)) (o0 + 4) ((F) (o0) 0) (x4)) (o0) 0 (((F) (o0) 0) + (1))))))))))) : xW X d 17 0 [.ref (o0), vi (x1), vi (x2), vi (x3), vi (x4)] [] F (xqv Q) := by
  refine xw_aload_n (n := 1) (show xlook 17 0 = some (0, .aload_n 0, 1, 0, 0, 0, 0) from xlk (by decide +kernel)) rfl rfl ?_
  refine xw_geti (show xlook 17 1 = some (1, .getfield 28, 3, 2, 0, 0, 19) from xlk (by decide +kernel)) (by decide) (xobf h0 (by decide) (by decide)) rfl (n := 4) rfl ?_
  refine xw_aload_n (n := 5) (show xlook 17 4 = some (4, .aload_n 0, 1, 0, 0, 0, 0) from xlk (by decide +kernel)) rfl rfl ?_
  refine xw_getr (q := o0 + 1) (show xlook 17 5 = some (5, .getfield 13, 3, 2, 1, 0, 15) from xlk (by decide +kernel)) (by decide) (xobf h0 (by decide) (by decide)) rfl (xPT_get (k := 1) (f := 1) hPT h0 (by decide)) (by have := (xtg_2_1 _ h0.1 h0.2).1; omega) (n := 8) rfl ?_
  refine xw_alen (show xlook 17 8 = some (8, .arraylength, 1, 0, 0, 0, 0) from xlk (by decide +kernel)) ⟨(xtg_2_1 _ h0.1 h0.2).1, by rw [(xtg_2_1 _ h0.1 h0.2).2]; decide, by rw [(xtg_2_1 _ h0.1 h0.2).2]; decide⟩ (n := 9) rfl ?_
  obtain ⟨q0, q1, t⟩ := t
  refine xw_icmp_ge (n := 12) (m := 63) (show xlook 17 9 = some (9, .if_icmp .ge 54, 3, 63, 0, 0, 0) from xlk (by decide +kernel)) rfl rfl q0 q1 ⟨fun c => ?_, fun c => ?_⟩
  · replace t := t.1 c
    exact xw_return hPT (show xlook 17 63 = some (63, .return_, 1, 0, 0, 0, 0) from xlk (by decide +kernel)) rfl (t hPT)
  · replace t := t.2 c
    refine xw_aload_n (n := 13) (show xlook 17 12 = some (12, .aload_n 0, 1, 0, 0, 0, 0) from xlk (by decide +kernel)) rfl rfl ?_
    refine xw_getr (q := o0 + 1) (show xlook 17 13 = some (13, .getfield 13, 3, 2, 1, 0, 15) from xlk (by decide +kernel)) (by decide) (xobf h0 (by decide) (by decide)) rfl (xPT_get (k := 1) (f := 1) hPT h0 (by decide)) (by have := (xtg_2_1 _ h0.1 h0.2).1; omega) (n := 16) rfl ?_
    refine xw_aload_n (n := 17) (show xlook 17 16 = some (16, .aload_n 0, 1, 0, 0, 0, 0) from xlk (by decide +kernel)) rfl rfl ?_
    refine xw_geti (show xlook 17 17 = some (17, .getfield 28, 3, 2, 0, 0, 19) from xlk (by decide +kernel)) (by decide) (xobf h0 (by decide) (by decide)) rfl (n := 20) rfl ?_
    refine xw_iload_n (n := 21) (show xlook 17 20 = some (20, .iload_n 1, 1, 0, 0, 0, 0) from xlk (by decide +kernel)) rfl rfl ?_
    obtain ⟨q1, t⟩ := t
    refine xw_iast (show xlook 17 21 = some (21, .iastore, 1, 0, 0, 0, 0) from xlk (by decide +kernel)) (xtg_2_1 _ h0.1 h0.2) q1 (n := 22) rfl ?_
    refine xw_aload_n (n := 23) (show xlook 17 22 = some (22, .aload_n 0, 1, 0, 0, 0, 0) from xlk (by decide +kernel)) rfl rfl ?_
    refine xw_getr (q := o0 + 2) (show xlook 17 23 = some (23, .getfield 19, 3, 2, 2, 0, 16) from xlk (by decide +kernel)) (by decide) (xobf h0 (by decide) (by decide)) rfl (xPT_get (k := 2) (f := 2) (xPT_arr hPT (Or.inl (xtg_2_1 _ h0.1 h0.2).2)) h0 (by decide)) (by have := (xtg_2_2 _ h0.1 h0.2).1; omega) (n := 26) rfl ?_
    refine xw_aload_n (n := 27) (show xlook 17 26 = some (26, .aload_n 0, 1, 0, 0, 0, 0) from xlk (by decide +kernel)) rfl rfl ?_
    refine xw_geti2 (u := (F) (o0) 0) (show xlook 17 27 = some (27, .getfield 28, 3, 2, 0, 0, 19) from xlk (by decide +kernel)) (by decide) (xobf h0 (by decide) (by decide)) rfl (xup_o (by omega)) (n := 30) rfl ?_
    refine xw_iload_n (n := 31) (show xlook 17 30 = some (30, .iload_n 2, 1, 0, 0, 0, 0) from xlk (by decide +kernel)) rfl rfl ?_
    obtain ⟨q1, t⟩ := t
    refine xw_iast (show xlook 17 31 = some (31, .iastore, 1, 0, 0, 0, 0) from xlk (by decide +kernel)) (xtg_2_2 _ h0.1 h0.2) q1 (n := 32) rfl ?_
    refine xw_aload_n (n := 33) (show xlook 17 32 = some (32, .aload_n 0, 1, 0, 0, 0, 0) from xlk (by decide +kernel)) rfl rfl ?_
    refine xw_getr (q := o0 + 3) (show xlook 17 33 = some (33, .getfield 22, 3, 2, 3, 0, 17) from xlk (by decide +kernel)) (by decide) (xobf h0 (by decide) (by decide)) rfl (xPT_get (k := 3) (f := 3) (xPT_arr (xPT_arr hPT (Or.inl (xtg_2_1 _ h0.1 h0.2).2)) (Or.inl (xtg_2_2 _ h0.1 h0.2).2)) h0 (by decide)) (by have := (xtg_2_3 _ h0.1 h0.2).1; omega) (n := 36) rfl ?_
    refine xw_aload_n (n := 37) (show xlook 17 36 = some (36, .aload_n 0, 1, 0, 0, 0, 0) from xlk (by decide +kernel)) rfl rfl ?_
    refine xw_geti2 (u := (F) (o0) 0) (show xlook 17 37 = some (37, .getfield 28, 3, 2, 0, 0, 19) from xlk (by decide +kernel)) (by decide) (xobf h0 (by decide) (by decide)) rfl ((xup_o (by omega)).trans (xup_o (by omega))) (n := 40) rfl ?_
    refine xw_iload_n (n := 41) (show xlook 17 40 = some (40, .iload_n 3, 1, 0, 0, 0, 0) from xlk (by decide +kernel)) rfl rfl ?_
    obtain ⟨q1, t⟩ := t
    refine xw_iast (show xlook 17 41 = some (41, .iastore, 1, 0, 0, 0, 0) from xlk (by decide +kernel)) (xtg_2_3 _ h0.1 h0.2) q1 (n := 42) rfl ?_
    refine xw_aload_n (n := 43) (show xlook 17 42 = some (42, .aload_n 0, 1, 0, 0, 0, 0) from xlk (by decide +kernel)) rfl rfl ?_
    refine xw_getr (q := o0 + 4) (show xlook 17 43 = some (43, .getfield 25, 3, 2, 4, 0, 18) from xlk (by decide +kernel)) (by decide) (xobf h0 (by decide) (by decide)) rfl (xPT_get (k := 4) (f := 4) (xPT_arr (xPT_arr (xPT_arr hPT (Or.inl (xtg_2_1 _ h0.1 h0.2).2)) (Or.inl (xtg_2_2 _ h0.1 h0.2).2)) (Or.inl (xtg_2_3 _ h0.1 h0.2).2)) h0 (by decide)) (by have := (xtg_2_4 _ h0.1 h0.2).1; omega) (n := 46) rfl ?_
    refine xw_aload_n (n := 47) (show xlook 17 46 = some (46, .aload_n 0, 1, 0, 0, 0, 0) from xlk (by decide +kernel)) rfl rfl ?_
    refine xw_geti2 (u := (F) (o0) 0) (show xlook 17 47 = some (47, .getfield 28, 3, 2, 0, 0, 19) from xlk (by decide +kernel)) (by decide) (xobf h0 (by decide) (by decide)) rfl ((xup_o (by omega)).trans ((xup_o (by omega)).trans (xup_o (by omega)))) (n := 50) rfl ?_
    refine xw_iload (n := 52) (show xlook 17 50 = some (50, .iload 4, 2, 0, 0, 0, 0) from xlk (by decide +kernel)) rfl rfl ?_
    obtain ⟨q1, t⟩ := t
    refine xw_iast (show xlook 17 52 = some (52, .iastore, 1, 0, 0, 0, 0) from xlk (by decide +kernel)) (xtg_2_4 _ h0.1 h0.2) q1 (n := 53) rfl ?_
    refine xw_aload_n (n := 54) (show xlook 17 53 = some (53, .aload_n 0, 1, 0, 0, 0, 0) from xlk (by decide +kernel)) rfl rfl ?_
    refine xw_dupr (n := 55) (show xlook 17 54 = some (54, .dup, 1, 0, 0, 0, 0) from xlk (by decide +kernel)) rfl ?_
    refine xw_geti2 (u := (F) (o0) 0) (show xlook 17 55 = some (55, .getfield 28, 3, 2, 0, 0, 19) from xlk (by decide +kernel)) (by decide) (xobf h0 (by decide) (by decide)) rfl ((xup_o (by omega)).trans ((xup_o (by omega)).trans ((xup_o (by omega)).trans (xup_o (by omega))))) (n := 58) rfl ?_
    refine xw_iconst (n := 59) (show xlook 17 58 = some (58, .iconst 1, 1, 0, 0, 0, 0) from xlk (by decide +kernel)) rfl ?_
    refine xw_iadd (n := 60) (show xlook 17 59 = some (59, .iadd, 1, 0, 0, 0, 0) from xlk (by decide +kernel)) rfl ?_
    refine xw_puti (show xlook 17 60 = some (60, .putfield 28, 3, 2, 0, 0, 19) from xlk (by decide +kernel)) (xobf h0 (by decide) (by decide)) rfl (n := 63) rfl ?_
    exact xw_return (xPT_fld (k := 0) (xPT_arr (xPT_arr (xPT_arr (xPT_arr hPT (Or.inl (xtg_2_1 _ h0.1 h0.2).2)) (Or.inl (xtg_2_2 _ h0.1 h0.2).2)) (Or.inl (xtg_2_3 _ h0.1 h0.2).2)) (Or.inl (xtg_2_4 _ h0.1 h0.2).2)) h0 (by decide) (by decide)) (show xlook 17 63 = some (63, .return_, 1, 0, 0, 0, 0) from xlk (by decide +kernel)) rfl (t (xPT_fld (k := 0) (xPT_arr (xPT_arr (xPT_arr (xPT_arr hPT (Or.inl (xtg_2_1 _ h0.1 h0.2).2)) (Or.inl (xtg_2_2 _ h0.1 h0.2).2)) (Or.inl (xtg_2_3 _ h0.1 h0.2).2)) (Or.inl (xtg_2_4 _ h0.1 h0.2).2)) h0 (by decide) (by decide)))
theorem m17 {X : List Int32} {d : Nat} {F : XF} {Q : XF → Prop} {o0 : Nat} {x1 : Int} {x2 : Int} {x3 : Int} {x4 : Int} (hPT : xPT F) (h0 : xob 2 o0) (t : inR ((F) (o0) 0) ∧ inR ((xln0 (o0 + 1) : Int)) ∧ (((((xln0 (o0 + 1) : Int)) ≤ ((F) (o0) 0)) → (xPT (F) → Q (F))) ∧ (¬ (((xln0 (o0 + 1) : Int)) ≤ ((F) (o0) 0)) → ((0 ≤ ((F) (o0) 0) ∧ ((F) (o0) 0) < (xln0 (o0 + 1) : Int)) ∧ ((0 ≤ ((F) (o0) 0) ∧ ((F) (o0) 0) < (xln0 (o0 + 2) : Int)) ∧ ((0 ≤ ((F) (o0) 0) ∧ ((F) (o0) 0) < (xln0 (o0 + 3) : Int)) ∧ ((0 ≤ ((F) (o0) 0) ∧ ((F) (o0) 0) < (xln0 (o0 + 4) : Int)) ∧ (xPT (xup (xup (xup (xup (xup (F) (o0 + 1) ((F) (o0) 0) (x1)) (o0 + 2) ((F) (o0) 0) (x2)) (o0 + 3) ((F) (o0) 0) (x3)) (o0 + 4) ((F) (o0) 0) (x4)) (o0) 0 (((F) (o0) 0) + (1))) → Q (xup (xup (xup (xup (xup (F) (o0 + 1) ((F) (o0) 0) (x1)) (o0 + 2) ((F) (o0) 0) (x2)) (o0 + 3) ((F) (o0) 0) (x3)) (o0 + 4) ((F) (o0) 0) (x4)) (o0) 0 (((F) (o0) 0) + (1))))))))))) : xMV X d 17 [.ref (o0), vi (x1), vi (x2), vi (x3), vi (x4)] F Q := by
  show xW X d 17 0 [.ref (o0), vi (x1), vi (x2), vi (x3), vi (x4)] [] F (xqv Q)
  exact s17_0 hPT h0 t

theorem s19_0 {X : List Int32} {d : Nat} {F : XF} {Q : XF → Prop}  (hPT : xPT F)  (t : xPT (xup (F) (98) 0 (0)) → Q (xup (F) (98) 0 (0))) : xW X d 19 0 [.ref (98)] [] F (xqv Q) := by
  refine xw_aload_n (n := 1) (show xlook 19 0 = some (0, .aload_n 0, 1, 0, 0, 0, 0) from xlk (by decide +kernel)) rfl rfl ?_
  refine xw_iconst (n := 2) (show xlook 19 1 = some (1, .iconst 0, 1, 0, 0, 0, 0) from xlk (by decide +kernel)) rfl ?_
  refine xw_putz (show xlook 19 2 = some (2, .putfield 27, 3, 3, 0, 0, 25) from xlk (by decide +kernel)) (xobf xob_3 (by decide) (by decide)) rfl (by decide) (n := 5) rfl ?_
  exact xw_return (xPT_fld (k := 0) hPT xob_3 (by decide) (by decide)) (show xlook 19 5 = some (5, .return_, 1, 0, 0, 0, 0) from xlk (by decide +kernel)) rfl (t (xPT_fld (k := 0) hPT xob_3 (by decide) (by decide)))
theorem m19 {X : List Int32} {d : Nat} {F : XF} {Q : XF → Prop}  (hPT : xPT F)  (t : xPT (xup (F) (98) 0 (0)) → Q (xup (F) (98) 0 (0))) : xMV X d 19 [.ref (98)] F Q := by
  show xW X d 19 0 [.ref (98)] [] F (xqv Q)
  exact s19_0 hPT  t

theorem s20_0 {X : List Int32} {d : Nat} {F : XF} {Q : XF → Prop} {o1 : Nat} {o2 : Nat} {w3 : Value} {w4 : Value} {w5 : Value} (hPT : xPT F) (h1 : xob 9 o1) (h2 : xob 6 o2) (t : inR ((F) (98) 0) ∧ (((((F) (98) 0) = (0)) → (∃ (j1 : Nat), j1 < d ∧ xMV X j1 21 [.ref (98)] (F) (fun (G1 : XF) => (∃ (j2 : Nat), j2 < d ∧ xMV X j2 48 [.ref (o2), .ref (o1)] (G1) (fun (G2 : XF) => (∃ (j3 : Nat), j3 < d ∧ xMV X j3 22 [.ref (98), .ref (o1), .ref (o2)] (G2) (fun (G3 : XF) => (xPT (G3) → xW X d 20 25 [.ref (98), .ref (o1), .ref (o2), vi (0), w4, w5] [] (G3) (xqv Q))))))))) ∧ (¬ (((F) (98) 0) = (0)) → (xPT (F) → Q (F))))) : xW X d 20 0 [.ref (98), .ref (o1), .ref (o2), w3, w4, w5] [] F (xqv Q) := by
  refine xw_aload_n (n := 1) (show xlook 20 0 = some (0, .aload_n 0, 1, 0, 0, 0, 0) from xlk (by decide +kernel)) rfl rfl ?_
  refine xw_geti (show xlook 20 1 = some (1, .getfield 27, 3, 3, 0, 0, 25) from xlk (by decide +kernel)) (by decide) (xobf xob_3 (by decide) (by decide)) rfl (n := 4) rfl ?_
  obtain ⟨q0, t⟩ := t
  refine xw_if_eq (n := 7) (m := 8) (show xlook 20 4 = some (4, .ifCond .eq 4, 3, 8, 0, 0, 0) from xlk (by decide +kernel)) rfl rfl q0 ⟨fun c => ?_, fun c => ?_⟩
  · replace t := t.1 c
    refine xw_aload_n (n := 9) (show xlook 20 8 = some (8, .aload_n 0, 1, 0, 0, 0, 0) from xlk (by decide +kernel)) rfl rfl ?_
    obtain ⟨j1, hj1, rr1, G1, hm1, hG1, t⟩ := t
    obtain ⟨rfl, t⟩ := t
    refine xw_callv (dk := j1) (o := 98) (as := []) (show xlook 20 9 = some (9, .invokevirtual 31, 3, 21, 1, 0, 14) from xlk (by decide +kernel)) (by decide) hj1 ⟨Nat.le_of_ble_eq_true rfl, Nat.le_of_ble_eq_true rfl, Nat.le_of_ble_eq_true rfl⟩ ⟨xob_3.1, xob_3.2, by decide⟩ rfl hm1 (n := 12) rfl ?_
    show xW X d 20 12 [.ref (98), .ref (o1), .ref (o2), w3, w4, w5] [] G1 (xqv Q)
    refine xw_aload_n (n := 13) (show xlook 20 12 = some (12, .aload_n 2, 1, 0, 0, 0, 0) from xlk (by decide +kernel)) rfl rfl ?_
    refine xw_aload_n (n := 14) (show xlook 20 13 = some (13, .aload_n 1, 1, 0, 0, 0, 0) from xlk (by decide +kernel)) rfl rfl ?_
    obtain ⟨j2, hj2, rr2, G2, hm2, hG2, t⟩ := t
    obtain ⟨rfl, t⟩ := t
    refine xw_callv (dk := j2) (o := o2) (as := [.ref (o1)]) (show xlook 20 14 = some (14, .invokevirtual 34, 3, 48, 2, 0, 15) from xlk (by decide +kernel)) (by decide) hj2 ⟨Nat.le_of_ble_eq_true rfl, Nat.le_of_ble_eq_true rfl, Nat.le_of_ble_eq_true rfl⟩ ⟨h2.1, h2.2, by decide⟩ rfl hm2 (n := 17) rfl ?_
    show xW X d 20 17 [.ref (98), .ref (o1), .ref (o2), w3, w4, w5] [] G2 (xqv Q)
    refine xw_aload_n (n := 18) (show xlook 20 17 = some (17, .aload_n 0, 1, 0, 0, 0, 0) from xlk (by decide +kernel)) rfl rfl ?_
    refine xw_aload_n (n := 19) (show xlook 20 18 = some (18, .aload_n 1, 1, 0, 0, 0, 0) from xlk (by decide +kernel)) rfl rfl ?_
    refine xw_aload_n (n := 20) (show xlook 20 19 = some (19, .aload_n 2, 1, 0, 0, 0, 0) from xlk (by decide +kernel)) rfl rfl ?_
    obtain ⟨j3, hj3, rr3, G3, hm3, hG3, t⟩ := t
    obtain ⟨rfl, t⟩ := t
    refine xw_callv (dk := j3) (o := 98) (as := [.ref (o1), .ref (o2)]) (show xlook 20 20 = some (20, .invokevirtual 40, 3, 22, 3, 0, 16) from xlk (by decide +kernel)) (by decide) hj3 ⟨Nat.le_of_ble_eq_true rfl, Nat.le_of_ble_eq_true rfl, Nat.le_of_ble_eq_true rfl⟩ ⟨xob_3.1, xob_3.2, by decide⟩ rfl hm3 (n := 23) rfl ?_
    show xW X d 20 23 [.ref (98), .ref (o1), .ref (o2), w3, w4, w5] [] G3 (xqv Q)
    refine xw_iconst (n := 24) (show xlook 20 23 = some (23, .iconst 0, 1, 0, 0, 0, 0) from xlk (by decide +kernel)) rfl ?_
    refine xw_istore_n (n := 25) (show xlook 20 24 = some (24, .istore_n 3, 1, 0, 0, 0, 0) from xlk (by decide +kernel)) rfl (ls' := [.ref (98), .ref (o1), .ref (o2), vi (0), w4, w5]) (Nat.le_of_ble_eq_true rfl) rfl ?_
    exact t hG3
  · replace t := t.2 c
    exact xw_return hPT (show xlook 20 7 = some (7, .return_, 1, 0, 0, 0, 0) from xlk (by decide +kernel)) rfl (t hPT)
theorem m20 {X : List Int32} {d : Nat} {F : XF} {Q : XF → Prop} {o1 : Nat} {o2 : Nat} (hPT : xPT F) (h1 : xob 9 o1) (h2 : xob 6 o2) (t : inR ((F) (98) 0) ∧ (((((F) (98) 0) = (0)) → (∃ (j1 : Nat), j1 < d ∧ xMV X j1 21 [.ref (98)] (F) (fun (G1 : XF) => (∃ (j2 : Nat), j2 < d ∧ xMV X j2 48 [.ref (o2), .ref (o1)] (G1) (fun (G2 : XF) => (∃ (j3 : Nat), j3 < d ∧ xMV X j3 22 [.ref (98), .ref (o1), .ref (o2)] (G2) (fun (G3 : XF) => (xPT (G3) → xW X d 20 25 [.ref (98), .ref (o1), .ref (o2), vi (0), xU0, xU0] [] (G3) (xqv Q))))))))) ∧ (¬ (((F) (98) 0) = (0)) → (xPT (F) → Q (F))))) : xMV X d 20 [.ref (98), .ref (o1), .ref (o2)] F Q := by
  show xW X d 20 0 [.ref (98), .ref (o1), .ref (o2), xU0, xU0, xU0] [] F (xqv Q)
  exact s20_0 hPT h1 h2 t

theorem s20_25 {X : List Int32} {d : Nat} {F : XF} {Q : XF → Prop} {o1 : Nat} {o2 : Nat} {x3 : Int} {w4 : Value} {w5 : Value} (hPT : xPT F) (h1 : xob 9 o1) (h2 : xob 6 o2) (t : inR (x3) ∧ ((((2000) ≤ (x3)) → (xPT (F) → xW X d 20 121 [.ref (98), .ref (o1), .ref (o2), vi (x3), w4, w5] [] (F) (xqv Q))) ∧ (¬ ((2000) ≤ (x3)) → (inR ((F) (o2) 3) ∧ inR ((F) (o1) 6) ∧ (((((F) (o1) 6) ≤ ((F) (o2) 3)) → (xPT (F) → xW X d 20 121 [.ref (98), .ref (o1), .ref (o2), vi (x3), w4, w5] [] (F) (xqv Q))) ∧ (¬ (((F) (o1) 6) ≤ ((F) (o2) 3)) → (∃ (j1 : Nat), j1 < d ∧ xMV X j1 23 [.ref (98), .ref (o1), .ref (o2)] (F) (fun (G1 : XF) => (∃ (j2 : Nat), j2 < d ∧ xMV X j2 53 [.ref (o2)] (G1) (fun (G2 : XF) => (xPT (G2) → xW X d 20 56 [.ref (98), .ref (o1), .ref (o2), vi (x3), vi (0), w5] [] (G2) (xqv Q)))))))))))) : xW X d 20 25 [.ref (98), .ref (o1), .ref (o2), vi (x3), w4, w5] [] F (xqv Q) := by
  refine xw_iload_n (n := 26) (show xlook 20 25 = some (25, .iload_n 3, 1, 0, 0, 0, 0) from xlk (by decide +kernel)) rfl rfl ?_
  refine xw_sipush (n := 29) (show xlook 20 26 = some (26, .sipush 2000, 3, 0, 0, 0, 0) from xlk (by decide +kernel)) rfl (by decide) ?_
  obtain ⟨q0, t⟩ := t
  refine xw_icmp_ge (n := 32) (m := 121) (show xlook 20 29 = some (29, .if_icmp .ge 92, 3, 121, 0, 0, 0) from xlk (by decide +kernel)) rfl rfl q0 ⟨by decide, by decide⟩ ⟨fun c => ?_, fun c => ?_⟩
  · replace t := t.1 c
    exact t hPT
  · replace t := t.2 c
    refine xw_aload_n (n := 33) (show xlook 20 32 = some (32, .aload_n 2, 1, 0, 0, 0, 0) from xlk (by decide +kernel)) rfl rfl ?_
    refine xw_geti (show xlook 20 33 = some (33, .getfield 44, 3, 6, 3, 0, 26) from xlk (by decide +kernel)) (by decide) (xobf h2 (by decide) (by decide)) rfl (n := 36) rfl ?_
    refine xw_aload_n (n := 37) (show xlook 20 36 = some (36, .aload_n 1, 1, 0, 0, 0, 0) from xlk (by decide +kernel)) rfl rfl ?_
    refine xw_geti (show xlook 20 37 = some (37, .getfield 48, 3, 9, 6, 0, 27) from xlk (by decide +kernel)) (by decide) (xobf h1 (by decide) (by decide)) rfl (n := 40) rfl ?_
    obtain ⟨q0, q1, t⟩ := t
    refine xw_icmp_ge (n := 43) (m := 121) (show xlook 20 40 = some (40, .if_icmp .ge 81, 3, 121, 0, 0, 0) from xlk (by decide +kernel)) rfl rfl q0 q1 ⟨fun c => ?_, fun c => ?_⟩
    · replace t := t.1 c
      exact t hPT
    · replace t := t.2 c
      refine xw_aload_n (n := 44) (show xlook 20 43 = some (43, .aload_n 0, 1, 0, 0, 0, 0) from xlk (by decide +kernel)) rfl rfl ?_
      refine xw_aload_n (n := 45) (show xlook 20 44 = some (44, .aload_n 1, 1, 0, 0, 0, 0) from xlk (by decide +kernel)) rfl rfl ?_
      refine xw_aload_n (n := 46) (show xlook 20 45 = some (45, .aload_n 2, 1, 0, 0, 0, 0) from xlk (by decide +kernel)) rfl rfl ?_
      obtain ⟨j1, hj1, rr1, G1, hm1, hG1, t⟩ := t
      obtain ⟨rfl, t⟩ := t
      refine xw_callv (dk := j1) (o := 98) (as := [.ref (o1), .ref (o2)]) (show xlook 20 46 = some (46, .invokevirtual 53, 3, 23, 3, 0, 17) from xlk (by decide +kernel)) (by decide) hj1 ⟨Nat.le_of_ble_eq_true rfl, Nat.le_of_ble_eq_true rfl, Nat.le_of_ble_eq_true rfl⟩ ⟨xob_3.1, xob_3.2, by decide⟩ rfl hm1 (n := 49) rfl ?_
      show xW X d 20 49 [.ref (98), .ref (o1), .ref (o2), vi (x3), w4, w5] [] G1 (xqv Q)
      refine xw_aload_n (n := 50) (show xlook 20 49 = some (49, .aload_n 2, 1, 0, 0, 0, 0) from xlk (by decide +kernel)) rfl rfl ?_
      obtain ⟨j2, hj2, rr2, G2, hm2, hG2, t⟩ := t
      obtain ⟨rfl, t⟩ := t
      refine xw_callv (dk := j2) (o := o2) (as := []) (show xlook 20 50 = some (50, .invokevirtual 56, 3, 53, 1, 0, 18) from xlk (by decide +kernel)) (by decide) hj2 ⟨Nat.le_of_ble_eq_true rfl, Nat.le_of_ble_eq_true rfl, Nat.le_of_ble_eq_true rfl⟩ ⟨h2.1, h2.2, by decide⟩ rfl hm2 (n := 53) rfl ?_
      show xW X d 20 53 [.ref (98), .ref (o1), .ref (o2), vi (x3), w4, w5] [] G2 (xqv Q)
      refine xw_iconst (n := 54) (show xlook 20 53 = some (53, .iconst 0, 1, 0, 0, 0, 0) from xlk (by decide +kernel)) rfl ?_
      refine xw_istore (n := 56) (show xlook 20 54 = some (54, .istore 4, 2, 0, 0, 0, 0) from xlk (by decide +kernel)) rfl (ls' := [.ref (98), .ref (o1), .ref (o2), vi (x3), vi (0), w5]) (Nat.le_of_ble_eq_true rfl) rfl ?_
      exact t hG2

theorem s20_56 {X : List Int32} {d : Nat} {F : XF} {Q : XF → Prop} {o1 : Nat} {o2 : Nat} {x3 : Int} {x4 : Int} {w5 : Value} (hPT : xPT F) (h1 : xob 9 o1) (h2 : xob 6 o2) (t : inR (x4) ∧ inR ((F) (o1) 6) ∧ (((((F) (o1) 6) ≤ (x4)) → (∃ (j1 : Nat), j1 < d ∧ xMV X j1 22 [.ref (98), .ref (o1), .ref (o2)] (F) (fun (G1 : XF) => (xPT (G1) → xW X d 20 25 [.ref (98), .ref (o1), .ref (o2), vi (x3 + 1), vi (x4), w5] [] (G1) (xqv Q))))) ∧ (¬ (((F) (o1) 6) ≤ (x4)) → ((0 ≤ (x4) ∧ (x4) < 30) ∧ (inR ((F) (o2 + 8) (x4)) ∧ (((((F) (o2 + 8) (x4)) < (0)) → (xPT (F) → xW X d 20 56 [.ref (98), .ref (o1), .ref (o2), vi (x3), vi (x4 + 1), vi ((F) (o2 + 8) (x4))] [] (F) (xqv Q))) ∧ (¬ (((F) (o2 + 8) (x4)) < (0)) → (inR ((F) (o2 + 8) (x4)) ∧ ((((7) ≤ ((F) (o2 + 8) (x4))) → (xPT (F) → xW X d 20 56 [.ref (98), .ref (o1), .ref (o2), vi (x3), vi (x4 + 1), vi ((F) (o2 + 8) (x4))] [] (F) (xqv Q))) ∧ (¬ ((7) ≤ ((F) (o2 + 8) (x4))) → ((0 ≤ (((x4) * (7)) + ((F) (o2 + 8) (x4))) ∧ (((x4) * (7)) + ((F) (o2 + 8) (x4))) < 210) ∧ ((0 ≤ (((x4) * (7)) + ((F) (o2 + 8) (x4))) ∧ (((x4) * (7)) + ((F) (o2 + 8) (x4))) < 210) ∧ (xPT (xup (F) (99) (((x4) * (7)) + ((F) (o2 + 8) (x4))) (((F) (99) (((x4) * (7)) + ((F) (o2 + 8) (x4)))) + (1))) → xW X d 20 56 [.ref (98), .ref (o1), .ref (o2), vi (x3), vi (x4 + 1), vi ((F) (o2 + 8) (x4))] [] (xup (F) (99) (((x4) * (7)) + ((F) (o2 + 8) (x4))) (((F) (99) (((x4) * (7)) + ((F) (o2 + 8) (x4)))) + (1))) (xqv Q)))))))))))))) : xW X d 20 56 [.ref (98), .ref (o1), .ref (o2), vi (x3), vi (x4), w5] [] F (xqv Q) := by
  refine xw_iload (n := 58) (show xlook 20 56 = some (56, .iload 4, 2, 0, 0, 0, 0) from xlk (by decide +kernel)) rfl rfl ?_
  refine xw_aload_n (n := 59) (show xlook 20 58 = some (58, .aload_n 1, 1, 0, 0, 0, 0) from xlk (by decide +kernel)) rfl rfl ?_
  refine xw_geti (show xlook 20 59 = some (59, .getfield 48, 3, 9, 6, 0, 27) from xlk (by decide +kernel)) (by decide) (xobf h1 (by decide) (by decide)) rfl (n := 62) rfl ?_
  obtain ⟨q0, q1, t⟩ := t
  refine xw_icmp_ge (n := 65) (m := 109) (show xlook 20 62 = some (62, .if_icmp .ge 47, 3, 109, 0, 0, 0) from xlk (by decide +kernel)) rfl rfl q0 q1 ⟨fun c => ?_, fun c => ?_⟩
  · replace t := t.1 c
    refine xw_aload_n (n := 110) (show xlook 20 109 = some (109, .aload_n 0, 1, 0, 0, 0, 0) from xlk (by decide +kernel)) rfl rfl ?_
    refine xw_aload_n (n := 111) (show xlook 20 110 = some (110, .aload_n 1, 1, 0, 0, 0, 0) from xlk (by decide +kernel)) rfl rfl ?_
    refine xw_aload_n (n := 112) (show xlook 20 111 = some (111, .aload_n 2, 1, 0, 0, 0, 0) from xlk (by decide +kernel)) rfl rfl ?_
    obtain ⟨j1, hj1, rr1, G1, hm1, hG1, t⟩ := t
    obtain ⟨rfl, t⟩ := t
    refine xw_callv (dk := j1) (o := 98) (as := [.ref (o1), .ref (o2)]) (show xlook 20 112 = some (112, .invokevirtual 40, 3, 22, 3, 0, 16) from xlk (by decide +kernel)) (by decide) hj1 ⟨Nat.le_of_ble_eq_true rfl, Nat.le_of_ble_eq_true rfl, Nat.le_of_ble_eq_true rfl⟩ ⟨xob_3.1, xob_3.2, by decide⟩ rfl hm1 (n := 115) rfl ?_
    show xW X d 20 115 [.ref (98), .ref (o1), .ref (o2), vi (x3), vi (x4), w5] [] G1 (xqv Q)
    refine xw_iinc (n := 118) (show xlook 20 115 = some (115, .iinc 3 1, 3, 0, 0, 0, 0) from xlk (by decide +kernel)) rfl (ls' := [.ref (98), .ref (o1), .ref (o2), vi (x3 + 1), vi (x4), w5]) rfl rfl ?_
    refine xw_goto (m := 25) (show xlook 20 118 = some (118, .goto (-93), 3, 25, 0, 0, 0) from xlk (by decide +kernel)) rfl ?_
    exact t hG1
  · replace t := t.2 c
    refine xw_aload_n (n := 66) (show xlook 20 65 = some (65, .aload_n 2, 1, 0, 0, 0, 0) from xlk (by decide +kernel)) rfl rfl ?_
    refine xw_getr (q := o2 + 8) (show xlook 20 66 = some (66, .getfield 59, 3, 6, 7, 0, 28) from xlk (by decide +kernel)) (by decide) (xobf h2 (by decide) (by decide)) rfl (xPT_get (k := 7) (f := 8) hPT h2 (by decide)) (by have := (xtg_6_7 _ h2.1 h2.2).1.1; omega) (n := 69) rfl ?_
    refine xw_iload (n := 71) (show xlook 20 69 = some (69, .iload 4, 2, 0, 0, 0, 0) from xlk (by decide +kernel)) rfl rfl ?_
    obtain ⟨q1, t⟩ := t
    refine xw_iald (show xlook 20 71 = some (71, .iaload, 1, 0, 0, 0, 0) from xlk (by decide +kernel)) (xtg_6_7 _ h2.1 h2.2).1 (by rw [(xtg_6_7 _ h2.1 h2.2).2]; exact q1) (n := 72) rfl ?_
    refine xw_istore (n := 74) (show xlook 20 72 = some (72, .istore 5, 2, 0, 0, 0, 0) from xlk (by decide +kernel)) rfl (ls' := [.ref (98), .ref (o1), .ref (o2), vi (x3), vi (x4), vi ((F) (o2 + 8) (x4))]) (Nat.le_of_ble_eq_true rfl) rfl ?_
    refine xw_iload (n := 76) (show xlook 20 74 = some (74, .iload 5, 2, 0, 0, 0, 0) from xlk (by decide +kernel)) rfl rfl ?_
    obtain ⟨q0, t⟩ := t
    refine xw_if_lt (n := 79) (m := 103) (show xlook 20 76 = some (76, .ifCond .lt 27, 3, 103, 0, 0, 0) from xlk (by decide +kernel)) rfl rfl q0 ⟨fun c => ?_, fun c => ?_⟩
    · replace t := t.1 c
      refine xw_iinc (n := 106) (show xlook 20 103 = some (103, .iinc 4 1, 3, 0, 0, 0, 0) from xlk (by decide +kernel)) rfl (ls' := [.ref (98), .ref (o1), .ref (o2), vi (x3), vi (x4 + 1), vi ((F) (o2 + 8) (x4))]) rfl rfl ?_
      refine xw_goto (m := 56) (show xlook 20 106 = some (106, .goto (-50), 3, 56, 0, 0, 0) from xlk (by decide +kernel)) rfl ?_
      exact t hPT
    · replace t := t.2 c
      refine xw_iload (n := 81) (show xlook 20 79 = some (79, .iload 5, 2, 0, 0, 0, 0) from xlk (by decide +kernel)) rfl rfl ?_
      refine xw_bipush (n := 83) (show xlook 20 81 = some (81, .bipush 7, 2, 0, 0, 0, 0) from xlk (by decide +kernel)) rfl (by decide) ?_
      obtain ⟨q0, t⟩ := t
      refine xw_icmp_ge (n := 86) (m := 103) (show xlook 20 83 = some (83, .if_icmp .ge 20, 3, 103, 0, 0, 0) from xlk (by decide +kernel)) rfl rfl q0 ⟨by decide, by decide⟩ ⟨fun c => ?_, fun c => ?_⟩
      · replace t := t.1 c
        refine xw_iinc (n := 106) (show xlook 20 103 = some (103, .iinc 4 1, 3, 0, 0, 0, 0) from xlk (by decide +kernel)) rfl (ls' := [.ref (98), .ref (o1), .ref (o2), vi (x3), vi (x4 + 1), vi ((F) (o2 + 8) (x4))]) rfl rfl ?_
        refine xw_goto (m := 56) (show xlook 20 106 = some (106, .goto (-50), 3, 56, 0, 0, 0) from xlk (by decide +kernel)) rfl ?_
        exact t hPT
      · replace t := t.2 c
        refine xw_aload_n (n := 87) (show xlook 20 86 = some (86, .aload_n 0, 1, 0, 0, 0, 0) from xlk (by decide +kernel)) rfl rfl ?_
        refine xw_getr (q := 99) (show xlook 20 87 = some (87, .getfield 9, 3, 3, 5, 0, 20) from xlk (by decide +kernel)) (by decide) (xobf xob_3 (by decide) (by decide)) rfl (xPT_get (k := 5) (f := 1) hPT xob_3 (by decide)) (by have := (xtg_3_5 _ xob_3.1 xob_3.2).1.1; omega) (n := 90) rfl ?_
        refine xw_iload (n := 92) (show xlook 20 90 = some (90, .iload 4, 2, 0, 0, 0, 0) from xlk (by decide +kernel)) rfl rfl ?_
        refine xw_bipush (n := 94) (show xlook 20 92 = some (92, .bipush 7, 2, 0, 0, 0, 0) from xlk (by decide +kernel)) rfl (by decide) ?_
        refine xw_imul (n := 95) (show xlook 20 94 = some (94, .imul, 1, 0, 0, 0, 0) from xlk (by decide +kernel)) rfl ?_
        refine xw_iload (n := 97) (show xlook 20 95 = some (95, .iload 5, 2, 0, 0, 0, 0) from xlk (by decide +kernel)) rfl rfl ?_
        refine xw_iadd (n := 98) (show xlook 20 97 = some (97, .iadd, 1, 0, 0, 0, 0) from xlk (by decide +kernel)) rfl ?_
        refine xw_dup2 (n := 99) (show xlook 20 98 = some (98, .dup2, 1, 0, 0, 0, 0) from xlk (by decide +kernel)) rfl ?_
        obtain ⟨q1, t⟩ := t
        refine xw_iald (show xlook 20 99 = some (99, .iaload, 1, 0, 0, 0, 0) from xlk (by decide +kernel)) (xtg_3_5 _ xob_3.1 xob_3.2).1 (by rw [(xtg_3_5 _ xob_3.1 xob_3.2).2]; exact q1) (n := 100) rfl ?_
        refine xw_iconst (n := 101) (show xlook 20 100 = some (100, .iconst 1, 1, 0, 0, 0, 0) from xlk (by decide +kernel)) rfl ?_
        refine xw_iadd (n := 102) (show xlook 20 101 = some (101, .iadd, 1, 0, 0, 0, 0) from xlk (by decide +kernel)) rfl ?_
        obtain ⟨q1, t⟩ := t
        refine xw_iast (show xlook 20 102 = some (102, .iastore, 1, 0, 0, 0, 0) from xlk (by decide +kernel)) (xtg_3_5 _ xob_3.1 xob_3.2).1 (by rw [(xtg_3_5 _ xob_3.1 xob_3.2).2]; exact q1) (n := 103) rfl ?_
        refine xw_iinc (n := 106) (show xlook 20 103 = some (103, .iinc 4 1, 3, 0, 0, 0, 0) from xlk (by decide +kernel)) rfl (ls' := [.ref (98), .ref (o1), .ref (o2), vi (x3), vi (x4 + 1), vi ((F) (o2 + 8) (x4))]) rfl rfl ?_
        refine xw_goto (m := 56) (show xlook 20 106 = some (106, .goto (-50), 3, 56, 0, 0, 0) from xlk (by decide +kernel)) rfl ?_
        exact t (xPT_arr hPT (Or.inl (xtg_3_5 _ xob_3.1 xob_3.2).1.2))

theorem s20_121 {X : List Int32} {d : Nat} {F : XF} {Q : XF → Prop} {o1 : Nat} {o2 : Nat} {x3 : Int} {w4 : Value} {w5 : Value} (hPT : xPT F) (h1 : xob 9 o1) (h2 : xob 6 o2) (t : inR ((F) (o2) 3) ∧ inR ((F) (o1) 6) ∧ (((((F) (o2) 3) < ((F) (o1) 6)) → (∃ (j1 : Nat), j1 < d ∧ xMI X j1 52 [.ref (o2)] (xup (F) (98) 1 ((-1))) (fun (y1 : Int) (G1 : XF) => (xPT (xup (xup (G1) (98) 2 (y1)) (98) 0 (1)) → Q (xup (xup (G1) (98) 2 (y1)) (98) 0 (1)))))) ∧ (¬ (((F) (o2) 3) < ((F) (o1) 6)) → (∃ (j2 : Nat), j2 < d ∧ xMI X j2 52 [.ref (o2)] (xup (F) (98) 1 ((F) (o2) 2)) (fun (y2 : Int) (G2 : XF) => (xPT (xup (xup (G2) (98) 2 (y2)) (98) 0 (1)) → Q (xup (xup (G2) (98) 2 (y2)) (98) 0 (1)))))))) : xW X d 20 121 [.ref (98), .ref (o1), .ref (o2), vi (x3), w4, w5] [] F (xqv Q) := by
  refine xw_aload_n (n := 122) (show xlook 20 121 = some (121, .aload_n 0, 1, 0, 0, 0, 0) from xlk (by decide +kernel)) rfl rfl ?_
  refine xw_aload_n (n := 123) (show xlook 20 122 = some (122, .aload_n 2, 1, 0, 0, 0, 0) from xlk (by decide +kernel)) rfl rfl ?_
  refine xw_geti (show xlook 20 123 = some (123, .getfield 44, 3, 6, 3, 0, 26) from xlk (by decide +kernel)) (by decide) (xobf h2 (by decide) (by decide)) rfl (n := 126) rfl ?_
  refine xw_aload_n (n := 127) (show xlook 20 126 = some (126, .aload_n 1, 1, 0, 0, 0, 0) from xlk (by decide +kernel)) rfl rfl ?_
  refine xw_geti (show xlook 20 127 = some (127, .getfield 48, 3, 9, 6, 0, 27) from xlk (by decide +kernel)) (by decide) (xobf h1 (by decide) (by decide)) rfl (n := 130) rfl ?_
  obtain ⟨q0, q1, t⟩ := t
  refine xw_icmp_lt (n := 133) (m := 140) (show xlook 20 130 = some (130, .if_icmp .lt 10, 3, 140, 0, 0, 0) from xlk (by decide +kernel)) rfl rfl q0 q1 ⟨fun c => ?_, fun c => ?_⟩
  · replace t := t.1 c
    refine xw_iconst (n := 141) (show xlook 20 140 = some (140, .iconst (-1), 1, 0, 0, 0, 0) from xlk (by decide +kernel)) rfl ?_
    refine xw_puti (show xlook 20 141 = some (141, .putfield 65, 3, 3, 1, 0, 30) from xlk (by decide +kernel)) (xobf xob_3 (by decide) (by decide)) rfl (n := 144) rfl ?_
    refine xw_aload_n (n := 145) (show xlook 20 144 = some (144, .aload_n 0, 1, 0, 0, 0, 0) from xlk (by decide +kernel)) rfl rfl ?_
    refine xw_aload_n (n := 146) (show xlook 20 145 = some (145, .aload_n 2, 1, 0, 0, 0, 0) from xlk (by decide +kernel)) rfl rfl ?_
    obtain ⟨j1, hj1, rr1, G1, hm1, hG1, t⟩ := t
    obtain ⟨y1, rfl, t⟩ := t
    refine xw_callv (dk := j1) (o := o2) (as := []) (show xlook 20 146 = some (146, .invokevirtual 68, 3, 52, 1, 0, 19) from xlk (by decide +kernel)) (by decide) hj1 ⟨Nat.le_of_ble_eq_true rfl, Nat.le_of_ble_eq_true rfl, Nat.le_of_ble_eq_true rfl⟩ ⟨h2.1, h2.2, by decide⟩ rfl hm1 (n := 149) rfl ?_
    show xW X d 20 149 [.ref (98), .ref (o1), .ref (o2), vi (x3), w4, w5] [vi (y1), .ref (98)] G1 (xqv Q)
    refine xw_puti (show xlook 20 149 = some (149, .putfield 72, 3, 3, 2, 0, 31) from xlk (by decide +kernel)) (xobf xob_3 (by decide) (by decide)) rfl (n := 152) rfl ?_
    refine xw_aload_n (n := 153) (show xlook 20 152 = some (152, .aload_n 0, 1, 0, 0, 0, 0) from xlk (by decide +kernel)) rfl rfl ?_
    refine xw_iconst (n := 154) (show xlook 20 153 = some (153, .iconst 1, 1, 0, 0, 0, 0) from xlk (by decide +kernel)) rfl ?_
    refine xw_putz (show xlook 20 154 = some (154, .putfield 27, 3, 3, 0, 0, 25) from xlk (by decide +kernel)) (xobf xob_3 (by decide) (by decide)) rfl (by decide) (n := 157) rfl ?_
    exact xw_return (xPT_fld (k := 0) (xPT_fld (k := 2) hG1 xob_3 (by decide) (by decide)) xob_3 (by decide) (by decide)) (show xlook 20 157 = some (157, .return_, 1, 0, 0, 0, 0) from xlk (by decide +kernel)) rfl (t (xPT_fld (k := 0) (xPT_fld (k := 2) hG1 xob_3 (by decide) (by decide)) xob_3 (by decide) (by decide)))
  · replace t := t.2 c
    refine xw_aload_n (n := 134) (show xlook 20 133 = some (133, .aload_n 2, 1, 0, 0, 0, 0) from xlk (by decide +kernel)) rfl rfl ?_
    refine xw_geti (show xlook 20 134 = some (134, .getfield 62, 3, 6, 2, 0, 29) from xlk (by decide +kernel)) (by decide) (xobf h2 (by decide) (by decide)) rfl (n := 137) rfl ?_
    refine xw_goto (m := 141) (show xlook 20 137 = some (137, .goto 4, 3, 141, 0, 0, 0) from xlk (by decide +kernel)) rfl ?_
    refine xw_puti (show xlook 20 141 = some (141, .putfield 65, 3, 3, 1, 0, 30) from xlk (by decide +kernel)) (xobf xob_3 (by decide) (by decide)) rfl (n := 144) rfl ?_
    refine xw_aload_n (n := 145) (show xlook 20 144 = some (144, .aload_n 0, 1, 0, 0, 0, 0) from xlk (by decide +kernel)) rfl rfl ?_
    refine xw_aload_n (n := 146) (show xlook 20 145 = some (145, .aload_n 2, 1, 0, 0, 0, 0) from xlk (by decide +kernel)) rfl rfl ?_
    obtain ⟨j2, hj2, rr2, G2, hm2, hG2, t⟩ := t
    obtain ⟨y2, rfl, t⟩ := t
    refine xw_callv (dk := j2) (o := o2) (as := []) (show xlook 20 146 = some (146, .invokevirtual 68, 3, 52, 1, 0, 19) from xlk (by decide +kernel)) (by decide) hj2 ⟨Nat.le_of_ble_eq_true rfl, Nat.le_of_ble_eq_true rfl, Nat.le_of_ble_eq_true rfl⟩ ⟨h2.1, h2.2, by decide⟩ rfl hm2 (n := 149) rfl ?_
    show xW X d 20 149 [.ref (98), .ref (o1), .ref (o2), vi (x3), w4, w5] [vi (y2), .ref (98)] G2 (xqv Q)
    refine xw_puti (show xlook 20 149 = some (149, .putfield 72, 3, 3, 2, 0, 31) from xlk (by decide +kernel)) (xobf xob_3 (by decide) (by decide)) rfl (n := 152) rfl ?_
    refine xw_aload_n (n := 153) (show xlook 20 152 = some (152, .aload_n 0, 1, 0, 0, 0, 0) from xlk (by decide +kernel)) rfl rfl ?_
    refine xw_iconst (n := 154) (show xlook 20 153 = some (153, .iconst 1, 1, 0, 0, 0, 0) from xlk (by decide +kernel)) rfl ?_
    refine xw_putz (show xlook 20 154 = some (154, .putfield 27, 3, 3, 0, 0, 25) from xlk (by decide +kernel)) (xobf xob_3 (by decide) (by decide)) rfl (by decide) (n := 157) rfl ?_
    exact xw_return (xPT_fld (k := 0) (xPT_fld (k := 2) hG2 xob_3 (by decide) (by decide)) xob_3 (by decide) (by decide)) (show xlook 20 157 = some (157, .return_, 1, 0, 0, 0, 0) from xlk (by decide +kernel)) rfl (t (xPT_fld (k := 0) (xPT_fld (k := 2) hG2 xob_3 (by decide) (by decide)) xob_3 (by decide) (by decide)))

theorem s21_0 {X : List Int32} {d : Nat} {F : XF} {Q : XF → Prop} {w1 : Value} (hPT : xPT F)  (t : xPT (xup (xup (F) (98) 3 ((-1))) (98) 4 (0)) → xW X d 21 12 [.ref (98), vi (0)] [] (xup (xup (F) (98) 3 ((-1))) (98) 4 (0)) (xqv Q)) : xW X d 21 0 [.ref (98), w1] [] F (xqv Q) := by
  refine xw_aload_n (n := 1) (show xlook 21 0 = some (0, .aload_n 0, 1, 0, 0, 0, 0) from xlk (by decide +kernel)) rfl rfl ?_
  refine xw_iconst (n := 2) (show xlook 21 1 = some (1, .iconst (-1), 1, 0, 0, 0, 0) from xlk (by decide +kernel)) rfl ?_
  refine xw_puti (show xlook 21 2 = some (2, .putfield 75, 3, 3, 3, 0, 32) from xlk (by decide +kernel)) (xobf xob_3 (by decide) (by decide)) rfl (n := 5) rfl ?_
  refine xw_aload_n (n := 6) (show xlook 21 5 = some (5, .aload_n 0, 1, 0, 0, 0, 0) from xlk (by decide +kernel)) rfl rfl ?_
  refine xw_iconst (n := 7) (show xlook 21 6 = some (6, .iconst 0, 1, 0, 0, 0, 0) from xlk (by decide +kernel)) rfl ?_
  refine xw_puti (show xlook 21 7 = some (7, .putfield 78, 3, 3, 4, 0, 33) from xlk (by decide +kernel)) (xobf xob_3 (by decide) (by decide)) rfl (n := 10) rfl ?_
  refine xw_iconst (n := 11) (show xlook 21 10 = some (10, .iconst 0, 1, 0, 0, 0, 0) from xlk (by decide +kernel)) rfl ?_
  refine xw_istore_n (n := 12) (show xlook 21 11 = some (11, .istore_n 1, 1, 0, 0, 0, 0) from xlk (by decide +kernel)) rfl (ls' := [.ref (98), vi (0)]) (Nat.le_of_ble_eq_true rfl) rfl ?_
  exact t (xPT_fld (k := 4) (xPT_fld (k := 3) hPT xob_3 (by decide) (by decide)) xob_3 (by decide) (by decide))
theorem m21 {X : List Int32} {d : Nat} {F : XF} {Q : XF → Prop}  (hPT : xPT F)  (t : xPT (xup (xup (F) (98) 3 ((-1))) (98) 4 (0)) → xW X d 21 12 [.ref (98), vi (0)] [] (xup (xup (F) (98) 3 ((-1))) (98) 4 (0)) (xqv Q)) : xMV X d 21 [.ref (98)] F Q := by
  show xW X d 21 0 [.ref (98), xU0] [] F (xqv Q)
  exact s21_0 hPT  t

theorem s21_12 {X : List Int32} {d : Nat} {F : XF} {Q : XF → Prop} {x1 : Int} (hPT : xPT F)  (t : inR (x1) ∧ inR ((xln0 (99) : Int)) ∧ (((((xln0 (99) : Int)) ≤ (x1)) → (xPT (F) → xW X d 21 36 [.ref (98), vi (0)] [] (F) (xqv Q))) ∧ (¬ (((xln0 (99) : Int)) ≤ (x1)) → ((0 ≤ (x1) ∧ (x1) < 210) ∧ (xPT (xup (F) (99) (x1) (0)) → xW X d 21 12 [.ref (98), vi (x1 + 1)] [] (xup (F) (99) (x1) (0)) (xqv Q)))))) : xW X d 21 12 [.ref (98), vi (x1)] [] F (xqv Q) := by
  refine xw_iload_n (n := 13) (show xlook 21 12 = some (12, .iload_n 1, 1, 0, 0, 0, 0) from xlk (by decide +kernel)) rfl rfl ?_
  refine xw_aload_n (n := 14) (show xlook 21 13 = some (13, .aload_n 0, 1, 0, 0, 0, 0) from xlk (by decide +kernel)) rfl rfl ?_
  refine xw_getr (q := 99) (show xlook 21 14 = some (14, .getfield 9, 3, 3, 5, 0, 20) from xlk (by decide +kernel)) (by decide) (xobf xob_3 (by decide) (by decide)) rfl (xPT_get (k := 5) (f := 1) hPT xob_3 (by decide)) (by have := (xtg_3_5 _ xob_3.1 xob_3.2).1.1; omega) (n := 17) rfl ?_
  refine xw_alen (show xlook 21 17 = some (17, .arraylength, 1, 0, 0, 0, 0) from xlk (by decide +kernel)) ⟨(xtg_3_5 _ xob_3.1 xob_3.2).1.1, by rw [(xtg_3_5 _ xob_3.1 xob_3.2).1.2]; decide, by rw [(xtg_3_5 _ xob_3.1 xob_3.2).1.2]; decide⟩ (n := 18) rfl ?_
  obtain ⟨q0, q1, t⟩ := t
  refine xw_icmp_ge (n := 21) (m := 34) (show xlook 21 18 = some (18, .if_icmp .ge 16, 3, 34, 0, 0, 0) from xlk (by decide +kernel)) rfl rfl q0 q1 ⟨fun c => ?_, fun c => ?_⟩
  · replace t := t.1 c
    refine xw_iconst (n := 35) (show xlook 21 34 = some (34, .iconst 0, 1, 0, 0, 0, 0) from xlk (by decide +kernel)) rfl ?_
    refine xw_istore_n (n := 36) (show xlook 21 35 = some (35, .istore_n 1, 1, 0, 0, 0, 0) from xlk (by decide +kernel)) rfl (ls' := [.ref (98), vi (0)]) (Nat.le_of_ble_eq_true rfl) rfl ?_
    exact t hPT
  · replace t := t.2 c
    refine xw_aload_n (n := 22) (show xlook 21 21 = some (21, .aload_n 0, 1, 0, 0, 0, 0) from xlk (by decide +kernel)) rfl rfl ?_
    refine xw_getr (q := 99) (show xlook 21 22 = some (22, .getfield 9, 3, 3, 5, 0, 20) from xlk (by decide +kernel)) (by decide) (xobf xob_3 (by decide) (by decide)) rfl (xPT_get (k := 5) (f := 1) hPT xob_3 (by decide)) (by have := (xtg_3_5 _ xob_3.1 xob_3.2).1.1; omega) (n := 25) rfl ?_
    refine xw_iload_n (n := 26) (show xlook 21 25 = some (25, .iload_n 1, 1, 0, 0, 0, 0) from xlk (by decide +kernel)) rfl rfl ?_
    refine xw_iconst (n := 27) (show xlook 21 26 = some (26, .iconst 0, 1, 0, 0, 0, 0) from xlk (by decide +kernel)) rfl ?_
    obtain ⟨q1, t⟩ := t
    refine xw_iast (show xlook 21 27 = some (27, .iastore, 1, 0, 0, 0, 0) from xlk (by decide +kernel)) (xtg_3_5 _ xob_3.1 xob_3.2).1 (by rw [(xtg_3_5 _ xob_3.1 xob_3.2).2]; exact q1) (n := 28) rfl ?_
    refine xw_iinc (n := 31) (show xlook 21 28 = some (28, .iinc 1 1, 3, 0, 0, 0, 0) from xlk (by decide +kernel)) rfl (ls' := [.ref (98), vi (x1 + 1)]) rfl rfl ?_
    refine xw_goto (m := 12) (show xlook 21 31 = some (31, .goto (-19), 3, 12, 0, 0, 0) from xlk (by decide +kernel)) rfl ?_
    exact t (xPT_arr hPT (Or.inl (xtg_3_5 _ xob_3.1 xob_3.2).1.2))

theorem s21_36 {X : List Int32} {d : Nat} {F : XF} {Q : XF → Prop} {x1 : Int} (hPT : xPT F)  (t : inR (x1) ∧ ((((10) ≤ (x1)) → (xPT (F) → Q (F))) ∧ (¬ ((10) ≤ (x1)) → ((0 ≤ (x1) ∧ (x1) < 10) ∧ ((0 ≤ (x1) ∧ (x1) < 10) ∧ ((0 ≤ (x1) ∧ (x1) < 10) ∧ ((0 ≤ (x1) ∧ (x1) < 10) ∧ (xPT (xup (xup (xup (xup (F) (100) (x1) (0)) (101) (x1) (0)) (102) (x1) ((-1))) (103) (x1) ((-1))) → xW X d 21 36 [.ref (98), vi (x1 + 1)] [] (xup (xup (xup (xup (F) (100) (x1) (0)) (101) (x1) (0)) (102) (x1) ((-1))) (103) (x1) ((-1))) (xqv Q))))))))) : xW X d 21 36 [.ref (98), vi (x1)] [] F (xqv Q) := by
  refine xw_iload_n (n := 37) (show xlook 21 36 = some (36, .iload_n 1, 1, 0, 0, 0, 0) from xlk (by decide +kernel)) rfl rfl ?_
  refine xw_bipush (n := 39) (show xlook 21 37 = some (37, .bipush 10, 2, 0, 0, 0, 0) from xlk (by decide +kernel)) rfl (by decide) ?_
  obtain ⟨q0, t⟩ := t
  refine xw_icmp_ge (n := 42) (m := 76) (show xlook 21 39 = some (39, .if_icmp .ge 37, 3, 76, 0, 0, 0) from xlk (by decide +kernel)) rfl rfl q0 ⟨by decide, by decide⟩ ⟨fun c => ?_, fun c => ?_⟩
  · replace t := t.1 c
    exact xw_return hPT (show xlook 21 76 = some (76, .return_, 1, 0, 0, 0, 0) from xlk (by decide +kernel)) rfl (t hPT)
  · replace t := t.2 c
    refine xw_aload_n (n := 43) (show xlook 21 42 = some (42, .aload_n 0, 1, 0, 0, 0, 0) from xlk (by decide +kernel)) rfl rfl ?_
    refine xw_getr (q := 100) (show xlook 21 43 = some (43, .getfield 15, 3, 3, 6, 0, 21) from xlk (by decide +kernel)) (by decide) (xobf xob_3 (by decide) (by decide)) rfl (xPT_get (k := 6) (f := 2) hPT xob_3 (by decide)) (by have := (xtg_3_6 _ xob_3.1 xob_3.2).1.1; omega) (n := 46) rfl ?_
    refine xw_iload_n (n := 47) (show xlook 21 46 = some (46, .iload_n 1, 1, 0, 0, 0, 0) from xlk (by decide +kernel)) rfl rfl ?_
    refine xw_iconst (n := 48) (show xlook 21 47 = some (47, .iconst 0, 1, 0, 0, 0, 0) from xlk (by decide +kernel)) rfl ?_
    obtain ⟨q1, t⟩ := t
    refine xw_iast (show xlook 21 48 = some (48, .iastore, 1, 0, 0, 0, 0) from xlk (by decide +kernel)) (xtg_3_6 _ xob_3.1 xob_3.2).1 (by rw [(xtg_3_6 _ xob_3.1 xob_3.2).2]; exact q1) (n := 49) rfl ?_
    refine xw_aload_n (n := 50) (show xlook 21 49 = some (49, .aload_n 0, 1, 0, 0, 0, 0) from xlk (by decide +kernel)) rfl rfl ?_
    refine xw_getr (q := 101) (show xlook 21 50 = some (50, .getfield 18, 3, 3, 7, 0, 22) from xlk (by decide +kernel)) (by decide) (xobf xob_3 (by decide) (by decide)) rfl (xPT_get (k := 7) (f := 3) (xPT_arr hPT (Or.inl (xtg_3_6 _ xob_3.1 xob_3.2).1.2)) xob_3 (by decide)) (by have := (xtg_3_7 _ xob_3.1 xob_3.2).1.1; omega) (n := 53) rfl ?_
    refine xw_iload_n (n := 54) (show xlook 21 53 = some (53, .iload_n 1, 1, 0, 0, 0, 0) from xlk (by decide +kernel)) rfl rfl ?_
    refine xw_iconst (n := 55) (show xlook 21 54 = some (54, .iconst 0, 1, 0, 0, 0, 0) from xlk (by decide +kernel)) rfl ?_
    obtain ⟨q1, t⟩ := t
    refine xw_iast (show xlook 21 55 = some (55, .iastore, 1, 0, 0, 0, 0) from xlk (by decide +kernel)) (xtg_3_7 _ xob_3.1 xob_3.2).1 (by rw [(xtg_3_7 _ xob_3.1 xob_3.2).2]; exact q1) (n := 56) rfl ?_
    refine xw_aload_n (n := 57) (show xlook 21 56 = some (56, .aload_n 0, 1, 0, 0, 0, 0) from xlk (by decide +kernel)) rfl rfl ?_
    refine xw_getr (q := 102) (show xlook 21 57 = some (57, .getfield 21, 3, 3, 8, 0, 23) from xlk (by decide +kernel)) (by decide) (xobf xob_3 (by decide) (by decide)) rfl (xPT_get (k := 8) (f := 4) (xPT_arr (xPT_arr hPT (Or.inl (xtg_3_6 _ xob_3.1 xob_3.2).1.2)) (Or.inl (xtg_3_7 _ xob_3.1 xob_3.2).1.2)) xob_3 (by decide)) (by have := (xtg_3_8 _ xob_3.1 xob_3.2).1.1; omega) (n := 60) rfl ?_
    refine xw_iload_n (n := 61) (show xlook 21 60 = some (60, .iload_n 1, 1, 0, 0, 0, 0) from xlk (by decide +kernel)) rfl rfl ?_
    refine xw_iconst (n := 62) (show xlook 21 61 = some (61, .iconst (-1), 1, 0, 0, 0, 0) from xlk (by decide +kernel)) rfl ?_
    obtain ⟨q1, t⟩ := t
    refine xw_iast (show xlook 21 62 = some (62, .iastore, 1, 0, 0, 0, 0) from xlk (by decide +kernel)) (xtg_3_8 _ xob_3.1 xob_3.2).1 (by rw [(xtg_3_8 _ xob_3.1 xob_3.2).2]; exact q1) (n := 63) rfl ?_
    refine xw_aload_n (n := 64) (show xlook 21 63 = some (63, .aload_n 0, 1, 0, 0, 0, 0) from xlk (by decide +kernel)) rfl rfl ?_
    refine xw_getr (q := 103) (show xlook 21 64 = some (64, .getfield 24, 3, 3, 9, 0, 24) from xlk (by decide +kernel)) (by decide) (xobf xob_3 (by decide) (by decide)) rfl (xPT_get (k := 9) (f := 5) (xPT_arr (xPT_arr (xPT_arr hPT (Or.inl (xtg_3_6 _ xob_3.1 xob_3.2).1.2)) (Or.inl (xtg_3_7 _ xob_3.1 xob_3.2).1.2)) (Or.inl (xtg_3_8 _ xob_3.1 xob_3.2).1.2)) xob_3 (by decide)) (by have := (xtg_3_9 _ xob_3.1 xob_3.2).1.1; omega) (n := 67) rfl ?_
    refine xw_iload_n (n := 68) (show xlook 21 67 = some (67, .iload_n 1, 1, 0, 0, 0, 0) from xlk (by decide +kernel)) rfl rfl ?_
    refine xw_iconst (n := 69) (show xlook 21 68 = some (68, .iconst (-1), 1, 0, 0, 0, 0) from xlk (by decide +kernel)) rfl ?_
    obtain ⟨q1, t⟩ := t
    refine xw_iast (show xlook 21 69 = some (69, .iastore, 1, 0, 0, 0, 0) from xlk (by decide +kernel)) (xtg_3_9 _ xob_3.1 xob_3.2).1 (by rw [(xtg_3_9 _ xob_3.1 xob_3.2).2]; exact q1) (n := 70) rfl ?_
    refine xw_iinc (n := 73) (show xlook 21 70 = some (70, .iinc 1 1, 3, 0, 0, 0, 0) from xlk (by decide +kernel)) rfl (ls' := [.ref (98), vi (x1 + 1)]) rfl rfl ?_
    refine xw_goto (m := 36) (show xlook 21 73 = some (73, .goto (-37), 3, 36, 0, 0, 0) from xlk (by decide +kernel)) rfl ?_
    exact t (xPT_arr (xPT_arr (xPT_arr (xPT_arr hPT (Or.inl (xtg_3_6 _ xob_3.1 xob_3.2).1.2)) (Or.inl (xtg_3_7 _ xob_3.1 xob_3.2).1.2)) (Or.inl (xtg_3_8 _ xob_3.1 xob_3.2).1.2)) (Or.inl (xtg_3_9 _ xob_3.1 xob_3.2).1.2))

theorem s22_0 {X : List Int32} {d : Nat} {F : XF} {Q : XF → Prop} {o1 : Nat} {o2 : Nat} {w3 : Value} (hPT : xPT F) (h1 : xob 9 o1) (h2 : xob 6 o2) (t : inR ((F) (o1) 6) ∧ ((((1) ≤ ((F) (o1) 6)) → (∃ (j1 : Nat), j1 < d ∧ xMI X j1 49 [.ref (o2), vi (((F) (o1) 6) - (1))] (F) (fun (y1 : Int) (G1 : XF) => (inR (((F) (o2 + 7) 0) - (y1)) ∧ inR ((G1) (98) 3) ∧ ((((((F) (o2 + 7) 0) - (y1)) ≤ ((G1) (98) 3)) → (xPT (G1) → Q (G1))) ∧ (¬ ((((F) (o2 + 7) 0) - (y1)) ≤ ((G1) (98) 3)) → (xPT (xup (xup (G1) (98) 3 (((F) (o2 + 7) 0) - (y1))) (98) 4 ((xup (G1) (98) 3 (((F) (o2 + 7) 0) - (y1))) (o2) 2)) → Q (xup (xup (G1) (98) 3 (((F) (o2 + 7) 0) - (y1))) (98) 4 ((xup (G1) (98) 3 (((F) (o2 + 7) 0) - (y1))) (o2) 2))))))))) ∧ (¬ ((1) ≤ ((F) (o1) 6)) → (xPT (F) → Q (F))))) : xW X d 22 0 [.ref (98), .ref (o1), .ref (o2), w3] [] F (xqv Q) := by
  refine xw_aload_n (n := 1) (show xlook 22 0 = some (0, .aload_n 1, 1, 0, 0, 0, 0) from xlk (by decide +kernel)) rfl rfl ?_
  refine xw_geti (show xlook 22 1 = some (1, .getfield 48, 3, 9, 6, 0, 27) from xlk (by decide +kernel)) (by decide) (xobf h1 (by decide) (by decide)) rfl (n := 4) rfl ?_
  refine xw_iconst (n := 5) (show xlook 22 4 = some (4, .iconst 1, 1, 0, 0, 0, 0) from xlk (by decide +kernel)) rfl ?_
  obtain ⟨q0, t⟩ := t
  refine xw_icmp_ge (n := 8) (m := 9) (show xlook 22 5 = some (5, .if_icmp .ge 4, 3, 9, 0, 0, 0) from xlk (by decide +kernel)) rfl rfl q0 ⟨by decide, by decide⟩ ⟨fun c => ?_, fun c => ?_⟩
  · replace t := t.1 c
    refine xw_aload_n (n := 10) (show xlook 22 9 = some (9, .aload_n 2, 1, 0, 0, 0, 0) from xlk (by decide +kernel)) rfl rfl ?_
    refine xw_getr (q := o2 + 7) (show xlook 22 10 = some (10, .getfield 81, 3, 6, 6, 0, 34) from xlk (by decide +kernel)) (by decide) (xobf h2 (by decide) (by decide)) rfl (xPT_get (k := 6) (f := 7) hPT h2 (by decide)) (by have := (xtg_6_6 _ h2.1 h2.2).1.1; omega) (n := 13) rfl ?_
    refine xw_iconst (n := 14) (show xlook 22 13 = some (13, .iconst 0, 1, 0, 0, 0, 0) from xlk (by decide +kernel)) rfl ?_
    refine xw_iald (show xlook 22 14 = some (14, .iaload, 1, 0, 0, 0, 0) from xlk (by decide +kernel)) (xtg_6_6 _ h2.1 h2.2).1 (by rw [(xtg_6_6 _ h2.1 h2.2).2]; decide) (n := 15) rfl ?_
    refine xw_aload_n (n := 16) (show xlook 22 15 = some (15, .aload_n 2, 1, 0, 0, 0, 0) from xlk (by decide +kernel)) rfl rfl ?_
    refine xw_aload_n (n := 17) (show xlook 22 16 = some (16, .aload_n 1, 1, 0, 0, 0, 0) from xlk (by decide +kernel)) rfl rfl ?_
    refine xw_geti (show xlook 22 17 = some (17, .getfield 48, 3, 9, 6, 0, 27) from xlk (by decide +kernel)) (by decide) (xobf h1 (by decide) (by decide)) rfl (n := 20) rfl ?_
    refine xw_iconst (n := 21) (show xlook 22 20 = some (20, .iconst 1, 1, 0, 0, 0, 0) from xlk (by decide +kernel)) rfl ?_
    refine xw_isub (n := 22) (show xlook 22 21 = some (21, .isub, 1, 0, 0, 0, 0) from xlk (by decide +kernel)) rfl ?_
    obtain ⟨j1, hj1, rr1, G1, hm1, hG1, t⟩ := t
    obtain ⟨y1, rfl, t⟩ := t
    refine xw_callv (dk := j1) (o := o2) (as := [vi (((F) (o1) 6) - (1))]) (show xlook 22 22 = some (22, .invokevirtual 84, 3, 49, 2, 0, 20) from xlk (by decide +kernel)) (by decide) hj1 ⟨Nat.le_of_ble_eq_true rfl, Nat.le_of_ble_eq_true rfl, Nat.le_of_ble_eq_true rfl⟩ ⟨h2.1, h2.2, by decide⟩ rfl hm1 (n := 25) rfl ?_
    show xW X d 22 25 [.ref (98), .ref (o1), .ref (o2), w3] [vi (y1), vi ((F) (o2 + 7) 0)] G1 (xqv Q)
    refine xw_isub (n := 26) (show xlook 22 25 = some (25, .isub, 1, 0, 0, 0, 0) from xlk (by decide +kernel)) rfl ?_
    refine xw_istore_n (n := 27) (show xlook 22 26 = some (26, .istore_n 3, 1, 0, 0, 0, 0) from xlk (by decide +kernel)) rfl (ls' := [.ref (98), .ref (o1), .ref (o2), vi (((F) (o2 + 7) 0) - (y1))]) (Nat.le_of_ble_eq_true rfl) rfl ?_
    refine xw_iload_n (n := 28) (show xlook 22 27 = some (27, .iload_n 3, 1, 0, 0, 0, 0) from xlk (by decide +kernel)) rfl rfl ?_
    refine xw_aload_n (n := 29) (show xlook 22 28 = some (28, .aload_n 0, 1, 0, 0, 0, 0) from xlk (by decide +kernel)) rfl rfl ?_
    refine xw_geti (show xlook 22 29 = some (29, .getfield 75, 3, 3, 3, 0, 32) from xlk (by decide +kernel)) (by decide) (xobf xob_3 (by decide) (by decide)) rfl (n := 32) rfl ?_
    obtain ⟨q0, q1, t⟩ := t
    refine xw_icmp_le (n := 35) (m := 48) (show xlook 22 32 = some (32, .if_icmp .le 16, 3, 48, 0, 0, 0) from xlk (by decide +kernel)) rfl rfl q0 q1 ⟨fun c => ?_, fun c => ?_⟩
    · replace t := t.1 c
      exact xw_return hG1 (show xlook 22 48 = some (48, .return_, 1, 0, 0, 0, 0) from xlk (by decide +kernel)) rfl (t hG1)
    · replace t := t.2 c
      refine xw_aload_n (n := 36) (show xlook 22 35 = some (35, .aload_n 0, 1, 0, 0, 0, 0) from xlk (by decide +kernel)) rfl rfl ?_
      refine xw_iload_n (n := 37) (show xlook 22 36 = some (36, .iload_n 3, 1, 0, 0, 0, 0) from xlk (by decide +kernel)) rfl rfl ?_
      refine xw_puti (show xlook 22 37 = some (37, .putfield 75, 3, 3, 3, 0, 32) from xlk (by decide +kernel)) (xobf xob_3 (by decide) (by decide)) rfl (n := 40) rfl ?_
      refine xw_aload_n (n := 41) (show xlook 22 40 = some (40, .aload_n 0, 1, 0, 0, 0, 0) from xlk (by decide +kernel)) rfl rfl ?_
      refine xw_aload_n (n := 42) (show xlook 22 41 = some (41, .aload_n 2, 1, 0, 0, 0, 0) from xlk (by decide +kernel)) rfl rfl ?_
      refine xw_geti (show xlook 22 42 = some (42, .getfield 62, 3, 6, 2, 0, 29) from xlk (by decide +kernel)) (by decide) (xobf h2 (by decide) (by decide)) rfl (n := 45) rfl ?_
      refine xw_puti (show xlook 22 45 = some (45, .putfield 78, 3, 3, 4, 0, 33) from xlk (by decide +kernel)) (xobf xob_3 (by decide) (by decide)) rfl (n := 48) rfl ?_
      exact xw_return (xPT_fld (k := 4) (xPT_fld (k := 3) hG1 xob_3 (by decide) (by decide)) xob_3 (by decide) (by decide)) (show xlook 22 48 = some (48, .return_, 1, 0, 0, 0, 0) from xlk (by decide +kernel)) rfl (t (xPT_fld (k := 4) (xPT_fld (k := 3) hG1 xob_3 (by decide) (by decide)) xob_3 (by decide) (by decide)))
  · replace t := t.2 c
    exact xw_return hPT (show xlook 22 8 = some (8, .return_, 1, 0, 0, 0, 0) from xlk (by decide +kernel)) rfl (t hPT)
theorem m22 {X : List Int32} {d : Nat} {F : XF} {Q : XF → Prop} {o1 : Nat} {o2 : Nat} (hPT : xPT F) (h1 : xob 9 o1) (h2 : xob 6 o2) (t : inR ((F) (o1) 6) ∧ ((((1) ≤ ((F) (o1) 6)) → (∃ (j1 : Nat), j1 < d ∧ xMI X j1 49 [.ref (o2), vi (((F) (o1) 6) - (1))] (F) (fun (y1 : Int) (G1 : XF) => (inR (((F) (o2 + 7) 0) - (y1)) ∧ inR ((G1) (98) 3) ∧ ((((((F) (o2 + 7) 0) - (y1)) ≤ ((G1) (98) 3)) → (xPT (G1) → Q (G1))) ∧ (¬ ((((F) (o2 + 7) 0) - (y1)) ≤ ((G1) (98) 3)) → (xPT (xup (xup (G1) (98) 3 (((F) (o2 + 7) 0) - (y1))) (98) 4 ((xup (G1) (98) 3 (((F) (o2 + 7) 0) - (y1))) (o2) 2)) → Q (xup (xup (G1) (98) 3 (((F) (o2 + 7) 0) - (y1))) (98) 4 ((xup (G1) (98) 3 (((F) (o2 + 7) 0) - (y1))) (o2) 2))))))))) ∧ (¬ ((1) ≤ ((F) (o1) 6)) → (xPT (F) → Q (F))))) : xMV X d 22 [.ref (98), .ref (o1), .ref (o2)] F Q := by
  show xW X d 22 0 [.ref (98), .ref (o1), .ref (o2), xU0] [] F (xqv Q)
  exact s22_0 hPT h1 h2 t

theorem s23_0 {X : List Int32} {d : Nat} {F : XF} {Q : XF → Prop} {o1 : Nat} {o2 : Nat} {w3 : Value} (hPT : xPT F) (h1 : xob 9 o1) (h2 : xob 6 o2) (t : xPT (F) → xW X d 23 2 [.ref (98), .ref (o1), .ref (o2), vi (0)] [] (F) (xqv Q)) : xW X d 23 0 [.ref (98), .ref (o1), .ref (o2), w3] [] F (xqv Q) := by
  refine xw_iconst (n := 1) (show xlook 23 0 = some (0, .iconst 0, 1, 0, 0, 0, 0) from xlk (by decide +kernel)) rfl ?_
  refine xw_istore_n (n := 2) (show xlook 23 1 = some (1, .istore_n 3, 1, 0, 0, 0, 0) from xlk (by decide +kernel)) rfl (ls' := [.ref (98), .ref (o1), .ref (o2), vi (0)]) (Nat.le_of_ble_eq_true rfl) rfl ?_
  exact t hPT
theorem m23 {X : List Int32} {d : Nat} {F : XF} {Q : XF → Prop} {o1 : Nat} {o2 : Nat} (hPT : xPT F) (h1 : xob 9 o1) (h2 : xob 6 o2) (t : xPT (F) → xW X d 23 2 [.ref (98), .ref (o1), .ref (o2), vi (0)] [] (F) (xqv Q)) : xMV X d 23 [.ref (98), .ref (o1), .ref (o2)] F Q := by
  show xW X d 23 0 [.ref (98), .ref (o1), .ref (o2), xU0] [] F (xqv Q)
  exact s23_0 hPT h1 h2 t

theorem s23_2 {X : List Int32} {d : Nat} {F : XF} {Q : XF → Prop} {o1 : Nat} {o2 : Nat} {x3 : Int} (hPT : xPT F) (h1 : xob 9 o1) (h2 : xob 6 o2) (t : inR (x3) ∧ inR ((F) (o1) 4) ∧ (((((F) (o1) 4) ≤ (x3)) → (xPT (F) → Q (F))) ∧ (¬ (((F) (o1) 4) ≤ (x3)) → (∃ (j1 : Nat), j1 < d ∧ xMI X j1 50 [.ref (o2), vi (x3)] (F) (fun (y1 : Int) (G1 : XF) => (inR (y1) ∧ (((¬ (y1) = (0)) → ((0 ≤ (x3) ∧ (x3) < 10) ∧ ((0 ≤ (x3) ∧ (x3) < 10) ∧ ((0 ≤ (x3) ∧ (x3) < 10) ∧ ((0 ≤ (x3) ∧ (x3) < 10) ∧ (inR ((G1) (100) (x3)) ∧ inR (((G1) (101) (x3)) + (1)) ∧ ((0 ≤ (x3) ∧ (x3) < 10) ∧ ((0 ≤ (x3) ∧ (x3) < 10) ∧ (inR ((G1) (102) (x3)) ∧ (((¬ ((G1) (102) (x3)) = ((-1))) → (xPT (xup (xup (G1) (101) (x3) (((G1) (101) (x3)) + (1))) (100) (x3) (max ((G1) (100) (x3)) (((G1) (101) (x3)) + (1)))) → xW X d 23 79 [.ref (98), .ref (o1), .ref (o2), vi (x3)] [] (xup (xup (G1) (101) (x3) (((G1) (101) (x3)) + (1))) (100) (x3) (max ((G1) (100) (x3)) (((G1) (101) (x3)) + (1)))) (xqv Q))) ∧ (¬ (¬ ((G1) (102) (x3)) = ((-1))) → ((0 ≤ (x3) ∧ (x3) < 10) ∧ (xPT (xup (xup (xup (G1) (101) (x3) (((G1) (101) (x3)) + (1))) (100) (x3) (max ((G1) (100) (x3)) (((G1) (101) (x3)) + (1)))) (102) (x3) ((xup (xup (G1) (101) (x3) (((G1) (101) (x3)) + (1))) (100) (x3) (max ((G1) (100) (x3)) (((G1) (101) (x3)) + (1)))) (o2) 2)) → xW X d 23 79 [.ref (98), .ref (o1), .ref (o2), vi (x3)] [] (xup (xup (xup (G1) (101) (x3) (((G1) (101) (x3)) + (1))) (100) (x3) (max ((G1) (100) (x3)) (((G1) (101) (x3)) + (1)))) (102) (x3) ((xup (xup (G1) (101) (x3) (((G1) (101) (x3)) + (1))) (100) (x3) (max ((G1) (100) (x3)) (((G1) (101) (x3)) + (1)))) (o2) 2)) (xqv Q)))))))))))))) ∧ (¬ (¬ (y1) = (0)) → ((0 ≤ (x3) ∧ (x3) < 10) ∧ (xPT (xup (G1) (101) (x3) (0)) → xW X d 23 2 [.ref (98), .ref (o1), .ref (o2), vi (x3 + 1)] [] (xup (G1) (101) (x3) (0)) (xqv Q))))))))))) : xW X d 23 2 [.ref (98), .ref (o1), .ref (o2), vi (x3)] [] F (xqv Q) := by
  refine xw_iload_n (n := 3) (show xlook 23 2 = some (2, .iload_n 3, 1, 0, 0, 0, 0) from xlk (by decide +kernel)) rfl rfl ?_
  refine xw_aload_n (n := 4) (show xlook 23 3 = some (3, .aload_n 1, 1, 0, 0, 0, 0) from xlk (by decide +kernel)) rfl rfl ?_
  refine xw_geti (show xlook 23 4 = some (4, .getfield 88, 3, 9, 4, 0, 35) from xlk (by decide +kernel)) (by decide) (xobf h1 (by decide) (by decide)) rfl (n := 7) rfl ?_
  obtain ⟨q0, q1, t⟩ := t
  refine xw_icmp_ge (n := 10) (m := 95) (show xlook 23 7 = some (7, .if_icmp .ge 88, 3, 95, 0, 0, 0) from xlk (by decide +kernel)) rfl rfl q0 q1 ⟨fun c => ?_, fun c => ?_⟩
  · replace t := t.1 c
    exact xw_return hPT (show xlook 23 95 = some (95, .return_, 1, 0, 0, 0, 0) from xlk (by decide +kernel)) rfl (t hPT)
  · replace t := t.2 c
    refine xw_aload_n (n := 11) (show xlook 23 10 = some (10, .aload_n 2, 1, 0, 0, 0, 0) from xlk (by decide +kernel)) rfl rfl ?_
    refine xw_iload_n (n := 12) (show xlook 23 11 = some (11, .iload_n 3, 1, 0, 0, 0, 0) from xlk (by decide +kernel)) rfl rfl ?_
    obtain ⟨j1, hj1, rr1, G1, hm1, hG1, t⟩ := t
    obtain ⟨y1, rfl, t⟩ := t
    refine xw_callv (dk := j1) (o := o2) (as := [vi (x3)]) (show xlook 23 12 = some (12, .invokevirtual 91, 3, 50, 2, 0, 21) from xlk (by decide +kernel)) (by decide) hj1 ⟨Nat.le_of_ble_eq_true rfl, Nat.le_of_ble_eq_true rfl, Nat.le_of_ble_eq_true rfl⟩ ⟨h2.1, h2.2, by decide⟩ rfl hm1 (n := 15) rfl ?_
    show xW X d 23 15 [.ref (98), .ref (o1), .ref (o2), vi (x3)] [vi (y1)] G1 (xqv Q)
    obtain ⟨q0, t⟩ := t
    refine xw_if_ne (n := 18) (m := 28) (show xlook 23 15 = some (15, .ifCond .ne 13, 3, 28, 0, 0, 0) from xlk (by decide +kernel)) rfl rfl q0 ⟨fun c => ?_, fun c => ?_⟩
    · replace t := t.1 c
      refine xw_aload_n (n := 29) (show xlook 23 28 = some (28, .aload_n 0, 1, 0, 0, 0, 0) from xlk (by decide +kernel)) rfl rfl ?_
      refine xw_getr (q := 101) (show xlook 23 29 = some (29, .getfield 18, 3, 3, 7, 0, 22) from xlk (by decide +kernel)) (by decide) (xobf xob_3 (by decide) (by decide)) rfl (xPT_get (k := 7) (f := 3) hG1 xob_3 (by decide)) (by have := (xtg_3_7 _ xob_3.1 xob_3.2).1.1; omega) (n := 32) rfl ?_
      refine xw_iload_n (n := 33) (show xlook 23 32 = some (32, .iload_n 3, 1, 0, 0, 0, 0) from xlk (by decide +kernel)) rfl rfl ?_
      refine xw_dup2 (n := 34) (show xlook 23 33 = some (33, .dup2, 1, 0, 0, 0, 0) from xlk (by decide +kernel)) rfl ?_
      obtain ⟨q1, t⟩ := t
      refine xw_iald (show xlook 23 34 = some (34, .iaload, 1, 0, 0, 0, 0) from xlk (by decide +kernel)) (xtg_3_7 _ xob_3.1 xob_3.2).1 (by rw [(xtg_3_7 _ xob_3.1 xob_3.2).2]; exact q1) (n := 35) rfl ?_
      refine xw_iconst (n := 36) (show xlook 23 35 = some (35, .iconst 1, 1, 0, 0, 0, 0) from xlk (by decide +kernel)) rfl ?_
      refine xw_iadd (n := 37) (show xlook 23 36 = some (36, .iadd, 1, 0, 0, 0, 0) from xlk (by decide +kernel)) rfl ?_
      obtain ⟨q1, t⟩ := t
      refine xw_iast (show xlook 23 37 = some (37, .iastore, 1, 0, 0, 0, 0) from xlk (by decide +kernel)) (xtg_3_7 _ xob_3.1 xob_3.2).1 (by rw [(xtg_3_7 _ xob_3.1 xob_3.2).2]; exact q1) (n := 38) rfl ?_
      refine xw_aload_n (n := 39) (show xlook 23 38 = some (38, .aload_n 0, 1, 0, 0, 0, 0) from xlk (by decide +kernel)) rfl rfl ?_
      refine xw_getr (q := 100) (show xlook 23 39 = some (39, .getfield 15, 3, 3, 6, 0, 21) from xlk (by decide +kernel)) (by decide) (xobf xob_3 (by decide) (by decide)) rfl (xPT_get (k := 6) (f := 2) (xPT_arr hG1 (Or.inl (xtg_3_7 _ xob_3.1 xob_3.2).1.2)) xob_3 (by decide)) (by have := (xtg_3_6 _ xob_3.1 xob_3.2).1.1; omega) (n := 42) rfl ?_
      refine xw_iload_n (n := 43) (show xlook 23 42 = some (42, .iload_n 3, 1, 0, 0, 0, 0) from xlk (by decide +kernel)) rfl rfl ?_
      refine xw_aload_n (n := 44) (show xlook 23 43 = some (43, .aload_n 0, 1, 0, 0, 0, 0) from xlk (by decide +kernel)) rfl rfl ?_
      refine xw_getr (q := 100) (show xlook 23 44 = some (44, .getfield 15, 3, 3, 6, 0, 21) from xlk (by decide +kernel)) (by decide) (xobf xob_3 (by decide) (by decide)) rfl (xPT_get (k := 6) (f := 2) (xPT_arr hG1 (Or.inl (xtg_3_7 _ xob_3.1 xob_3.2).1.2)) xob_3 (by decide)) (by have := (xtg_3_6 _ xob_3.1 xob_3.2).1.1; omega) (n := 47) rfl ?_
      refine xw_iload_n (n := 48) (show xlook 23 47 = some (47, .iload_n 3, 1, 0, 0, 0, 0) from xlk (by decide +kernel)) rfl rfl ?_
      obtain ⟨q1, t⟩ := t
      refine xw_iald2 (u := (G1) (100) (x3)) (show xlook 23 48 = some (48, .iaload, 1, 0, 0, 0, 0) from xlk (by decide +kernel)) (xtg_3_6 _ xob_3.1 xob_3.2).1 (by rw [(xtg_3_6 _ xob_3.1 xob_3.2).2]; exact q1) (xup_o (by decide)) (n := 49) rfl ?_
      refine xw_aload_n (n := 50) (show xlook 23 49 = some (49, .aload_n 0, 1, 0, 0, 0, 0) from xlk (by decide +kernel)) rfl rfl ?_
      refine xw_getr (q := 101) (show xlook 23 50 = some (50, .getfield 18, 3, 3, 7, 0, 22) from xlk (by decide +kernel)) (by decide) (xobf xob_3 (by decide) (by decide)) rfl (xPT_get (k := 7) (f := 3) (xPT_arr hG1 (Or.inl (xtg_3_7 _ xob_3.1 xob_3.2).1.2)) xob_3 (by decide)) (by have := (xtg_3_7 _ xob_3.1 xob_3.2).1.1; omega) (n := 53) rfl ?_
      refine xw_iload_n (n := 54) (show xlook 23 53 = some (53, .iload_n 3, 1, 0, 0, 0, 0) from xlk (by decide +kernel)) rfl rfl ?_
      obtain ⟨q1, t⟩ := t
      refine xw_iald2 (u := ((G1) (101) (x3)) + (1)) (show xlook 23 54 = some (54, .iaload, 1, 0, 0, 0, 0) from xlk (by decide +kernel)) (xtg_3_7 _ xob_3.1 xob_3.2).1 (by rw [(xtg_3_7 _ xob_3.1 xob_3.2).2]; exact q1) (xup_s) (n := 55) rfl ?_
      obtain ⟨q0, q1, t⟩ := t
      refine xw_max (show xlook 23 55 = some (55, .invokestatic 95, 3, 1001, 2, 0, 22) from xlk (by decide +kernel)) rfl (Nat.le_of_ble_eq_true rfl) q0 q1 (n := 58) rfl ?_
      obtain ⟨q1, t⟩ := t
      refine xw_iast (show xlook 23 58 = some (58, .iastore, 1, 0, 0, 0, 0) from xlk (by decide +kernel)) (xtg_3_6 _ xob_3.1 xob_3.2).1 (by rw [(xtg_3_6 _ xob_3.1 xob_3.2).2]; exact q1) (n := 59) rfl ?_
      refine xw_aload_n (n := 60) (show xlook 23 59 = some (59, .aload_n 0, 1, 0, 0, 0, 0) from xlk (by decide +kernel)) rfl rfl ?_
      refine xw_getr (q := 102) (show xlook 23 60 = some (60, .getfield 21, 3, 3, 8, 0, 23) from xlk (by decide +kernel)) (by decide) (xobf xob_3 (by decide) (by decide)) rfl (xPT_get (k := 8) (f := 4) (xPT_arr (xPT_arr hG1 (Or.inl (xtg_3_7 _ xob_3.1 xob_3.2).1.2)) (Or.inl (xtg_3_6 _ xob_3.1 xob_3.2).1.2)) xob_3 (by decide)) (by have := (xtg_3_8 _ xob_3.1 xob_3.2).1.1; omega) (n := 63) rfl ?_
      refine xw_iload_n (n := 64) (show xlook 23 63 = some (63, .iload_n 3, 1, 0, 0, 0, 0) from xlk (by decide +kernel)) rfl rfl ?_
      obtain ⟨q1, t⟩ := t
      refine xw_iald2 (u := (G1) (102) (x3)) (show xlook 23 64 = some (64, .iaload, 1, 0, 0, 0, 0) from xlk (by decide +kernel)) (xtg_3_8 _ xob_3.1 xob_3.2).1 (by rw [(xtg_3_8 _ xob_3.1 xob_3.2).2]; exact q1) ((xup_o (by decide)).trans (xup_o (by decide))) (n := 65) rfl ?_
      refine xw_iconst (n := 66) (show xlook 23 65 = some (65, .iconst (-1), 1, 0, 0, 0, 0) from xlk (by decide +kernel)) rfl ?_
      obtain ⟨q0, t⟩ := t
      refine xw_icmp_ne (n := 69) (m := 79) (show xlook 23 66 = some (66, .if_icmp .ne 13, 3, 79, 0, 0, 0) from xlk (by decide +kernel)) rfl rfl q0 ⟨by decide, by decide⟩ ⟨fun c => ?_, fun c => ?_⟩
      · replace t := t.1 c
        exact t (xPT_arr (xPT_arr hG1 (Or.inl (xtg_3_7 _ xob_3.1 xob_3.2).1.2)) (Or.inl (xtg_3_6 _ xob_3.1 xob_3.2).1.2))
      · replace t := t.2 c
        refine xw_aload_n (n := 70) (show xlook 23 69 = some (69, .aload_n 0, 1, 0, 0, 0, 0) from xlk (by decide +kernel)) rfl rfl ?_
        refine xw_getr (q := 102) (show xlook 23 70 = some (70, .getfield 21, 3, 3, 8, 0, 23) from xlk (by decide +kernel)) (by decide) (xobf xob_3 (by decide) (by decide)) rfl (xPT_get (k := 8) (f := 4) (xPT_arr (xPT_arr hG1 (Or.inl (xtg_3_7 _ xob_3.1 xob_3.2).1.2)) (Or.inl (xtg_3_6 _ xob_3.1 xob_3.2).1.2)) xob_3 (by decide)) (by have := (xtg_3_8 _ xob_3.1 xob_3.2).1.1; omega) (n := 73) rfl ?_
        refine xw_iload_n (n := 74) (show xlook 23 73 = some (73, .iload_n 3, 1, 0, 0, 0, 0) from xlk (by decide +kernel)) rfl rfl ?_
        refine xw_aload_n (n := 75) (show xlook 23 74 = some (74, .aload_n 2, 1, 0, 0, 0, 0) from xlk (by decide +kernel)) rfl rfl ?_
        refine xw_geti (show xlook 23 75 = some (75, .getfield 62, 3, 6, 2, 0, 29) from xlk (by decide +kernel)) (by decide) (xobf h2 (by decide) (by decide)) rfl (n := 78) rfl ?_
        obtain ⟨q1, t⟩ := t
        refine xw_iast (show xlook 23 78 = some (78, .iastore, 1, 0, 0, 0, 0) from xlk (by decide +kernel)) (xtg_3_8 _ xob_3.1 xob_3.2).1 (by rw [(xtg_3_8 _ xob_3.1 xob_3.2).2]; exact q1) (n := 79) rfl ?_
        exact t (xPT_arr (xPT_arr (xPT_arr hG1 (Or.inl (xtg_3_7 _ xob_3.1 xob_3.2).1.2)) (Or.inl (xtg_3_6 _ xob_3.1 xob_3.2).1.2)) (Or.inl (xtg_3_8 _ xob_3.1 xob_3.2).1.2))
    · replace t := t.2 c
      refine xw_aload_n (n := 19) (show xlook 23 18 = some (18, .aload_n 0, 1, 0, 0, 0, 0) from xlk (by decide +kernel)) rfl rfl ?_
      refine xw_getr (q := 101) (show xlook 23 19 = some (19, .getfield 18, 3, 3, 7, 0, 22) from xlk (by decide +kernel)) (by decide) (xobf xob_3 (by decide) (by decide)) rfl (xPT_get (k := 7) (f := 3) hG1 xob_3 (by decide)) (by have := (xtg_3_7 _ xob_3.1 xob_3.2).1.1; omega) (n := 22) rfl ?_
      refine xw_iload_n (n := 23) (show xlook 23 22 = some (22, .iload_n 3, 1, 0, 0, 0, 0) from xlk (by decide +kernel)) rfl rfl ?_
      refine xw_iconst (n := 24) (show xlook 23 23 = some (23, .iconst 0, 1, 0, 0, 0, 0) from xlk (by decide +kernel)) rfl ?_
      obtain ⟨q1, t⟩ := t
      refine xw_iast (show xlook 23 24 = some (24, .iastore, 1, 0, 0, 0, 0) from xlk (by decide +kernel)) (xtg_3_7 _ xob_3.1 xob_3.2).1 (by rw [(xtg_3_7 _ xob_3.1 xob_3.2).2]; exact q1) (n := 25) rfl ?_
      refine xw_goto (m := 89) (show xlook 23 25 = some (25, .goto 64, 3, 89, 0, 0, 0) from xlk (by decide +kernel)) rfl ?_
      refine xw_iinc (n := 92) (show xlook 23 89 = some (89, .iinc 3 1, 3, 0, 0, 0, 0) from xlk (by decide +kernel)) rfl (ls' := [.ref (98), .ref (o1), .ref (o2), vi (x3 + 1)]) rfl rfl ?_
      refine xw_goto (m := 2) (show xlook 23 92 = some (92, .goto (-90), 3, 2, 0, 0, 0) from xlk (by decide +kernel)) rfl ?_
      exact t (xPT_arr hG1 (Or.inl (xtg_3_7 _ xob_3.1 xob_3.2).1.2))

theorem s23_79 {X : List Int32} {d : Nat} {F : XF} {Q : XF → Prop} {o1 : Nat} {o2 : Nat} {x3 : Int} (hPT : xPT F) (h1 : xob 9 o1) (h2 : xob 6 o2) (t : (0 ≤ (x3) ∧ (x3) < 10) ∧ (xPT (xup (F) (103) (x3) ((F) (o2) 2)) → xW X d 23 2 [.ref (98), .ref (o1), .ref (o2), vi (x3 + 1)] [] (xup (F) (103) (x3) ((F) (o2) 2)) (xqv Q))) : xW X d 23 79 [.ref (98), .ref (o1), .ref (o2), vi (x3)] [] F (xqv Q) := by
  refine xw_aload_n (n := 80) (show xlook 23 79 = some (79, .aload_n 0, 1, 0, 0, 0, 0) from xlk (by decide +kernel)) rfl rfl ?_
  refine xw_getr (q := 103) (show xlook 23 80 = some (80, .getfield 24, 3, 3, 9, 0, 24) from xlk (by decide +kernel)) (by decide) (xobf xob_3 (by decide) (by decide)) rfl (xPT_get (k := 9) (f := 5) hPT xob_3 (by decide)) (by have := (xtg_3_9 _ xob_3.1 xob_3.2).1.1; omega) (n := 83) rfl ?_
  refine xw_iload_n (n := 84) (show xlook 23 83 = some (83, .iload_n 3, 1, 0, 0, 0, 0) from xlk (by decide +kernel)) rfl rfl ?_
  refine xw_aload_n (n := 85) (show xlook 23 84 = some (84, .aload_n 2, 1, 0, 0, 0, 0) from xlk (by decide +kernel)) rfl rfl ?_
  refine xw_geti (show xlook 23 85 = some (85, .getfield 62, 3, 6, 2, 0, 29) from xlk (by decide +kernel)) (by decide) (xobf h2 (by decide) (by decide)) rfl (n := 88) rfl ?_
  obtain ⟨q1, t⟩ := t
  refine xw_iast (show xlook 23 88 = some (88, .iastore, 1, 0, 0, 0, 0) from xlk (by decide +kernel)) (xtg_3_9 _ xob_3.1 xob_3.2).1 (by rw [(xtg_3_9 _ xob_3.1 xob_3.2).2]; exact q1) (n := 89) rfl ?_
  refine xw_iinc (n := 92) (show xlook 23 89 = some (89, .iinc 3 1, 3, 0, 0, 0, 0) from xlk (by decide +kernel)) rfl (ls' := [.ref (98), .ref (o1), .ref (o2), vi (x3 + 1)]) rfl rfl ?_
  refine xw_goto (m := 2) (show xlook 23 92 = some (92, .goto (-90), 3, 2, 0, 0, 0) from xlk (by decide +kernel)) rfl ?_
  exact t (xPT_arr hPT (Or.inl (xtg_3_9 _ xob_3.1 xob_3.2).1.2))

theorem s25_0 {X : List Int32} {d : Nat} {F : XF} {Q : Int → XF → Prop} {o1 : Nat} {x3 : Int} {w4 : Value} {w5 : Value} {w6 : Value} {w7 : Value} (hPT : xPT F) (h1 : xob 9 o1) (t : xPT (F) → xW X d 25 3 [.ref (128), .ref (o1), .ref (98), vi (x3), vi (0), w5, w6, w7] [] (F) (xqi Q)) : xW X d 25 0 [.ref (128), .ref (o1), .ref (98), vi (x3), w4, w5, w6, w7] [] F (xqi Q) := by
  refine xw_iconst (n := 1) (show xlook 25 0 = some (0, .iconst 0, 1, 0, 0, 0, 0) from xlk (by decide +kernel)) rfl ?_
  refine xw_istore (n := 3) (show xlook 25 1 = some (1, .istore 4, 2, 0, 0, 0, 0) from xlk (by decide +kernel)) rfl (ls' := [.ref (128), .ref (o1), .ref (98), vi (x3), vi (0), w5, w6, w7]) (Nat.le_of_ble_eq_true rfl) rfl ?_
  exact t hPT
theorem m25 {X : List Int32} {d : Nat} {F : XF} {Q : Int → XF → Prop} {o1 : Nat} {x3 : Int} (hPT : xPT F) (h1 : xob 9 o1) (t : xPT (F) → xW X d 25 3 [.ref (128), .ref (o1), .ref (98), vi (x3), vi (0), xU0, xU0, xU0] [] (F) (xqi Q)) : xMI X d 25 [.ref (128), .ref (o1), .ref (98), vi (x3)] F Q := by
  show xW X d 25 0 [.ref (128), .ref (o1), .ref (98), vi (x3), xU0, xU0, xU0, xU0] [] F (xqi Q)
  exact s25_0 hPT h1 t

theorem s25_3 {X : List Int32} {d : Nat} {F : XF} {Q : Int → XF → Prop} {o1 : Nat} {x3 : Int} {x4 : Int} {w5 : Value} {w6 : Value} {w7 : Value} (hPT : xPT F) (h1 : xob 9 o1) (t : inR (x4) ∧ ((((10) ≤ (x4)) → (xPT (F) → xW X d 25 35 [.ref (128), .ref (o1), .ref (98), vi (x3), vi (0), w5, w6, w7] [] (F) (xqi Q))) ∧ (¬ ((10) ≤ (x4)) → ((0 ≤ (x4) ∧ (x4) < 10) ∧ ((0 ≤ (x4) ∧ (x4) < 10) ∧ (xPT (xup (xup (F) (130) (x4) ((-1))) (129) (x4) (0)) → xW X d 25 3 [.ref (128), .ref (o1), .ref (98), vi (x3), vi (x4 + 1), w5, w6, w7] [] (xup (xup (F) (130) (x4) ((-1))) (129) (x4) (0)) (xqi Q))))))) : xW X d 25 3 [.ref (128), .ref (o1), .ref (98), vi (x3), vi (x4), w5, w6, w7] [] F (xqi Q) := by
  refine xw_iload (n := 5) (show xlook 25 3 = some (3, .iload 4, 2, 0, 0, 0, 0) from xlk (by decide +kernel)) rfl rfl ?_
  refine xw_bipush (n := 7) (show xlook 25 5 = some (5, .bipush 10, 2, 0, 0, 0, 0) from xlk (by decide +kernel)) rfl (by decide) ?_
  obtain ⟨q0, t⟩ := t
  refine xw_icmp_ge (n := 10) (m := 32) (show xlook 25 7 = some (7, .if_icmp .ge 25, 3, 32, 0, 0, 0) from xlk (by decide +kernel)) rfl rfl q0 ⟨by decide, by decide⟩ ⟨fun c => ?_, fun c => ?_⟩
  · replace t := t.1 c
    refine xw_iconst (n := 33) (show xlook 25 32 = some (32, .iconst 0, 1, 0, 0, 0, 0) from xlk (by decide +kernel)) rfl ?_
    refine xw_istore (n := 35) (show xlook 25 33 = some (33, .istore 4, 2, 0, 0, 0, 0) from xlk (by decide +kernel)) rfl (ls' := [.ref (128), .ref (o1), .ref (98), vi (x3), vi (0), w5, w6, w7]) (Nat.le_of_ble_eq_true rfl) rfl ?_
    exact t hPT
  · replace t := t.2 c
    refine xw_aload_n (n := 11) (show xlook 25 10 = some (10, .aload_n 0, 1, 0, 0, 0, 0) from xlk (by decide +kernel)) rfl rfl ?_
    refine xw_getr (q := 130) (show xlook 25 11 = some (11, .getfield 15, 3, 4, 1, 0, 37) from xlk (by decide +kernel)) (by decide) (xobf xob_4 (by decide) (by decide)) rfl (xPT_get (k := 1) (f := 2) hPT xob_4 (by decide)) (by have := (xtg_4_1 _ xob_4.1 xob_4.2).1.1; omega) (n := 14) rfl ?_
    refine xw_iload (n := 16) (show xlook 25 14 = some (14, .iload 4, 2, 0, 0, 0, 0) from xlk (by decide +kernel)) rfl rfl ?_
    refine xw_iconst (n := 17) (show xlook 25 16 = some (16, .iconst (-1), 1, 0, 0, 0, 0) from xlk (by decide +kernel)) rfl ?_
    obtain ⟨q1, t⟩ := t
    refine xw_iast (show xlook 25 17 = some (17, .iastore, 1, 0, 0, 0, 0) from xlk (by decide +kernel)) (xtg_4_1 _ xob_4.1 xob_4.2).1 (by rw [(xtg_4_1 _ xob_4.1 xob_4.2).2]; exact q1) (n := 18) rfl ?_
    refine xw_aload_n (n := 19) (show xlook 25 18 = some (18, .aload_n 0, 1, 0, 0, 0, 0) from xlk (by decide +kernel)) rfl rfl ?_
    refine xw_getr (q := 129) (show xlook 25 19 = some (19, .getfield 9, 3, 4, 0, 0, 36) from xlk (by decide +kernel)) (by decide) (xobf xob_4 (by decide) (by decide)) rfl (xPT_get (k := 0) (f := 1) (xPT_arr hPT (Or.inl (xtg_4_1 _ xob_4.1 xob_4.2).1.2)) xob_4 (by decide)) (by have := (xtg_4_0 _ xob_4.1 xob_4.2).1.1; omega) (n := 22) rfl ?_
    refine xw_iload (n := 24) (show xlook 25 22 = some (22, .iload 4, 2, 0, 0, 0, 0) from xlk (by decide +kernel)) rfl rfl ?_
    refine xw_iconst (n := 25) (show xlook 25 24 = some (24, .iconst 0, 1, 0, 0, 0, 0) from xlk (by decide +kernel)) rfl ?_
    obtain ⟨q1, t⟩ := t
    refine xw_iast (show xlook 25 25 = some (25, .iastore, 1, 0, 0, 0, 0) from xlk (by decide +kernel)) (xtg_4_0 _ xob_4.1 xob_4.2).1 (by rw [(xtg_4_0 _ xob_4.1 xob_4.2).2]; exact q1) (n := 26) rfl ?_
    refine xw_iinc (n := 29) (show xlook 25 26 = some (26, .iinc 4 1, 3, 0, 0, 0, 0) from xlk (by decide +kernel)) rfl (ls' := [.ref (128), .ref (o1), .ref (98), vi (x3), vi (x4 + 1), w5, w6, w7]) rfl rfl ?_
    refine xw_goto (m := 3) (show xlook 25 29 = some (29, .goto (-26), 3, 3, 0, 0, 0) from xlk (by decide +kernel)) rfl ?_
    exact t (xPT_arr (xPT_arr hPT (Or.inl (xtg_4_1 _ xob_4.1 xob_4.2).1.2)) (Or.inl (xtg_4_0 _ xob_4.1 xob_4.2).1.2))

theorem s25_35 {X : List Int32} {d : Nat} {F : XF} {Q : Int → XF → Prop} {o1 : Nat} {x3 : Int} {x4 : Int} {w5 : Value} {w6 : Value} {w7 : Value} (hPT : xPT F) (h1 : xob 9 o1) (t : inR (x4) ∧ inR ((F) (o1) 4) ∧ (((((F) (o1) 4) ≤ (x4)) → (xPT (F) → xW X d 25 158 [.ref (128), .ref (o1), .ref (98), vi (x3), vi (0), vi (0), w6, w7] [] (F) (xqi Q))) ∧ (¬ (((F) (o1) 4) ≤ (x4)) → (xPT (F) → xW X d 25 47 [.ref (128), .ref (o1), .ref (98), vi (x3), vi (x4), vi (0), w6, w7] [] (F) (xqi Q))))) : xW X d 25 35 [.ref (128), .ref (o1), .ref (98), vi (x3), vi (x4), w5, w6, w7] [] F (xqi Q) := by
  refine xw_iload (n := 37) (show xlook 25 35 = some (35, .iload 4, 2, 0, 0, 0, 0) from xlk (by decide +kernel)) rfl rfl ?_
  refine xw_aload_n (n := 38) (show xlook 25 37 = some (37, .aload_n 1, 1, 0, 0, 0, 0) from xlk (by decide +kernel)) rfl rfl ?_
  refine xw_geti (show xlook 25 38 = some (38, .getfield 18, 3, 9, 4, 0, 38) from xlk (by decide +kernel)) (by decide) (xobf h1 (by decide) (by decide)) rfl (n := 41) rfl ?_
  obtain ⟨q0, q1, t⟩ := t
  refine xw_icmp_ge (n := 44) (m := 152) (show xlook 25 41 = some (41, .if_icmp .ge 111, 3, 152, 0, 0, 0) from xlk (by decide +kernel)) rfl rfl q0 q1 ⟨fun c => ?_, fun c => ?_⟩
  · replace t := t.1 c
    refine xw_iconst (n := 153) (show xlook 25 152 = some (152, .iconst 0, 1, 0, 0, 0, 0) from xlk (by decide +kernel)) rfl ?_
    refine xw_istore (n := 155) (show xlook 25 153 = some (153, .istore 4, 2, 0, 0, 0, 0) from xlk (by decide +kernel)) rfl (ls' := [.ref (128), .ref (o1), .ref (98), vi (x3), vi (0), w5, w6, w7]) (Nat.le_of_ble_eq_true rfl) rfl ?_
    refine xw_iconst (n := 156) (show xlook 25 155 = some (155, .iconst 0, 1, 0, 0, 0, 0) from xlk (by decide +kernel)) rfl ?_
    refine xw_istore (n := 158) (show xlook 25 156 = some (156, .istore 5, 2, 0, 0, 0, 0) from xlk (by decide +kernel)) rfl (ls' := [.ref (128), .ref (o1), .ref (98), vi (x3), vi (0), vi (0), w6, w7]) (Nat.le_of_ble_eq_true rfl) rfl ?_
    exact t hPT
  · replace t := t.2 c
    refine xw_iconst (n := 45) (show xlook 25 44 = some (44, .iconst 0, 1, 0, 0, 0, 0) from xlk (by decide +kernel)) rfl ?_
    refine xw_istore (n := 47) (show xlook 25 45 = some (45, .istore 5, 2, 0, 0, 0, 0) from xlk (by decide +kernel)) rfl (ls' := [.ref (128), .ref (o1), .ref (98), vi (x3), vi (x4), vi (0), w6, w7]) (Nat.le_of_ble_eq_true rfl) rfl ?_
    exact t hPT

theorem s25_47 {X : List Int32} {d : Nat} {F : XF} {Q : Int → XF → Prop} {o1 : Nat} {x3 : Int} {x4 : Int} {x5 : Int} {w6 : Value} {w7 : Value} (hPT : xPT F) (h1 : xob 9 o1) (t : inR (x5) ∧ inR ((F) (o1) 4) ∧ (((((F) (o1) 4) ≤ (x5)) → (xPT (F) → xW X d 25 35 [.ref (128), .ref (o1), .ref (98), vi (x3), vi (x4 + 1), vi (x5), w6, w7] [] (F) (xqi Q))) ∧ (¬ (((F) (o1) 4) ≤ (x5)) → ((0 ≤ (x5) ∧ (x5) < 10) ∧ ((0 ≤ (x4) ∧ (x4) < 10) ∧ ((0 ≤ (x5 : Int) ∧ (x5 : Int) < 10) ∧ ((0 ≤ (x4 : Int) ∧ (x4 : Int) < 10) ∧ (inR (((F) (o1 + 1 + 6 + (x5 : Int).toNat) 0) - ((F) (o1 + 1 + 6 + (x4 : Int).toNat) 0)) ∧ ((0 ≤ (x5) ∧ (x5) < 10) ∧ (inR ((F) (102) (x5)) ∧ (((((F) (102) (x5)) = ((-1))) → (xPT (F) → xW X d 25 47 [.ref (128), .ref (o1), .ref (98), vi (x3), vi (x4), vi (x5 + 1), vi ((((F) (102) (x5)) - ((F) (103) (x4))) - (1)), vi ((if 0 ≤ (((F) (o1 + 1 + 6 + (x5 : Int).toNat) 0) - ((F) (o1 + 1 + 6 + (x4 : Int).toNat) 0)) then (((F) (o1 + 1 + 6 + (x5 : Int).toNat) 0) - ((F) (o1 + 1 + 6 + (x4 : Int).toNat) 0)) else 0 - (((F) (o1 + 1 + 6 + (x5 : Int).toNat) 0) - ((F) (o1 + 1 + 6 + (x4 : Int).toNat) 0))))] [] (F) (xqi Q))) ∧ (¬ (((F) (102) (x5)) = ((-1))) → (inR ((((F) (102) (x5)) - ((F) (103) (x4))) - (1)) ∧ (((((((F) (102) (x5)) - ((F) (103) (x4))) - (1)) ≤ (0)) → (xPT (F) → xW X d 25 47 [.ref (128), .ref (o1), .ref (98), vi (x3), vi (x4), vi (x5 + 1), vi ((((F) (102) (x5)) - ((F) (103) (x4))) - (1)), vi ((if 0 ≤ (((F) (o1 + 1 + 6 + (x5 : Int).toNat) 0) - ((F) (o1 + 1 + 6 + (x4 : Int).toNat) 0)) then (((F) (o1 + 1 + 6 + (x5 : Int).toNat) 0) - ((F) (o1 + 1 + 6 + (x4 : Int).toNat) 0)) else 0 - (((F) (o1 + 1 + 6 + (x5 : Int).toNat) 0) - ((F) (o1 + 1 + 6 + (x4 : Int).toNat) 0))))] [] (F) (xqi Q))) ∧ (¬ (((((F) (102) (x5)) - ((F) (103) (x4))) - (1)) ≤ (0)) → (inR ((if 0 ≤ (((F) (o1 + 1 + 6 + (x5 : Int).toNat) 0) - ((F) (o1 + 1 + 6 + (x4 : Int).toNat) 0)) then (((F) (o1 + 1 + 6 + (x5 : Int).toNat) 0) - ((F) (o1 + 1 + 6 + (x4 : Int).toNat) 0)) else 0 - (((F) (o1 + 1 + 6 + (x5 : Int).toNat) 0) - ((F) (o1 + 1 + 6 + (x4 : Int).toNat) 0)))) ∧ inR ((x3) * ((((F) (102) (x5)) - ((F) (103) (x4))) - (1))) ∧ (((((x3) * ((((F) (102) (x5)) - ((F) (103) (x4))) - (1))) < ((if 0 ≤ (((F) (o1 + 1 + 6 + (x5 : Int).toNat) 0) - ((F) (o1 + 1 + 6 + (x4 : Int).toNat) 0)) then (((F) (o1 + 1 + 6 + (x5 : Int).toNat) 0) - ((F) (o1 + 1 + 6 + (x4 : Int).toNat) 0)) else 0 - (((F) (o1 + 1 + 6 + (x5 : Int).toNat) 0) - ((F) (o1 + 1 + 6 + (x4 : Int).toNat) 0))))) → (xPT (F) → xW X d 25 47 [.ref (128), .ref (o1), .ref (98), vi (x3), vi (x4), vi (x5 + 1), vi ((((F) (102) (x5)) - ((F) (103) (x4))) - (1)), vi ((if 0 ≤ (((F) (o1 + 1 + 6 + (x5 : Int).toNat) 0) - ((F) (o1 + 1 + 6 + (x4 : Int).toNat) 0)) then (((F) (o1 + 1 + 6 + (x5 : Int).toNat) 0) - ((F) (o1 + 1 + 6 + (x4 : Int).toNat) 0)) else 0 - (((F) (o1 + 1 + 6 + (x5 : Int).toNat) 0) - ((F) (o1 + 1 + 6 + (x4 : Int).toNat) 0))))] [] (F) (xqi Q))) ∧ (¬ (((x3) * ((((F) (102) (x5)) - ((F) (103) (x4))) - (1))) < ((if 0 ≤ (((F) (o1 + 1 + 6 + (x5 : Int).toNat) 0) - ((F) (o1 + 1 + 6 + (x4 : Int).toNat) 0)) then (((F) (o1 + 1 + 6 + (x5 : Int).toNat) 0) - ((F) (o1 + 1 + 6 + (x4 : Int).toNat) 0)) else 0 - (((F) (o1 + 1 + 6 + (x5 : Int).toNat) 0) - ((F) (o1 + 1 + 6 + (x4 : Int).toNat) 0))))) → ((0 ≤ (x4) ∧ (x4) < 10) ∧ ((0 ≤ (x4) ∧ (x4) < 10) ∧ (xPT (xup (F) (129) (x4) (xior ((F) (129) (x4)) (xshl (1) (x5)))) → xW X d 25 47 [.ref (128), .ref (o1), .ref (98), vi (x3), vi (x4), vi (x5 + 1), vi ((((F) (102) (x5)) - ((F) (103) (x4))) - (1)), vi ((if 0 ≤ (((F) (o1 + 1 + 6 + (x5 : Int).toNat) 0) - ((F) (o1 + 1 + 6 + (x4 : Int).toNat) 0)) then (((F) (o1 + 1 + 6 + (x5 : Int).toNat) 0) - ((F) (o1 + 1 + 6 + (x4 : Int).toNat) 0)) else 0 - (((F) (o1 + 1 + 6 + (x5 : Int).toNat) 0) - ((F) (o1 + 1 + 6 + (x4 : Int).toNat) 0))))] [] (xup (F) (129) (x4) (xior ((F) (129) (x4)) (xshl (1) (x5)))) (xqi Q)))))))))))))))))))))) : xW X d 25 47 [.ref (128), .ref (o1), .ref (98), vi (x3), vi (x4), vi (x5), w6, w7] [] F (xqi Q) := by
  refine xw_iload (n := 49) (show xlook 25 47 = some (47, .iload 5, 2, 0, 0, 0, 0) from xlk (by decide +kernel)) rfl rfl ?_
  refine xw_aload_n (n := 50) (show xlook 25 49 = some (49, .aload_n 1, 1, 0, 0, 0, 0) from xlk (by decide +kernel)) rfl rfl ?_
  refine xw_geti (show xlook 25 50 = some (50, .getfield 18, 3, 9, 4, 0, 38) from xlk (by decide +kernel)) (by decide) (xobf h1 (by decide) (by decide)) rfl (n := 53) rfl ?_
  obtain ⟨q0, q1, t⟩ := t
  refine xw_icmp_ge (n := 56) (m := 146) (show xlook 25 53 = some (53, .if_icmp .ge 93, 3, 146, 0, 0, 0) from xlk (by decide +kernel)) rfl rfl q0 q1 ⟨fun c => ?_, fun c => ?_⟩
  · replace t := t.1 c
    refine xw_iinc (n := 149) (show xlook 25 146 = some (146, .iinc 4 1, 3, 0, 0, 0, 0) from xlk (by decide +kernel)) rfl (ls' := [.ref (128), .ref (o1), .ref (98), vi (x3), vi (x4 + 1), vi (x5), w6, w7]) rfl rfl ?_
    refine xw_goto (m := 35) (show xlook 25 149 = some (149, .goto (-114), 3, 35, 0, 0, 0) from xlk (by decide +kernel)) rfl ?_
    exact t hPT
  · replace t := t.2 c
    refine xw_aload_n (n := 57) (show xlook 25 56 = some (56, .aload_n 2, 1, 0, 0, 0, 0) from xlk (by decide +kernel)) rfl rfl ?_
    refine xw_getr (q := 102) (show xlook 25 57 = some (57, .getfield 24, 3, 3, 8, 0, 39) from xlk (by decide +kernel)) (by decide) (xobf xob_3 (by decide) (by decide)) rfl (xPT_get (k := 8) (f := 4) hPT xob_3 (by decide)) (by have := (xtg_3_8 _ xob_3.1 xob_3.2).1.1; omega) (n := 60) rfl ?_
    refine xw_iload (n := 62) (show xlook 25 60 = some (60, .iload 5, 2, 0, 0, 0, 0) from xlk (by decide +kernel)) rfl rfl ?_
    obtain ⟨q1, t⟩ := t
    refine xw_iald (show xlook 25 62 = some (62, .iaload, 1, 0, 0, 0, 0) from xlk (by decide +kernel)) (xtg_3_8 _ xob_3.1 xob_3.2).1 (by rw [(xtg_3_8 _ xob_3.1 xob_3.2).2]; exact q1) (n := 63) rfl ?_
    refine xw_aload_n (n := 64) (show xlook 25 63 = some (63, .aload_n 2, 1, 0, 0, 0, 0) from xlk (by decide +kernel)) rfl rfl ?_
    refine xw_getr (q := 103) (show xlook 25 64 = some (64, .getfield 29, 3, 3, 9, 0, 40) from xlk (by decide +kernel)) (by decide) (xobf xob_3 (by decide) (by decide)) rfl (xPT_get (k := 9) (f := 5) hPT xob_3 (by decide)) (by have := (xtg_3_9 _ xob_3.1 xob_3.2).1.1; omega) (n := 67) rfl ?_
    refine xw_iload (n := 69) (show xlook 25 67 = some (67, .iload 4, 2, 0, 0, 0, 0) from xlk (by decide +kernel)) rfl rfl ?_
    obtain ⟨q1, t⟩ := t
    refine xw_iald (show xlook 25 69 = some (69, .iaload, 1, 0, 0, 0, 0) from xlk (by decide +kernel)) (xtg_3_9 _ xob_3.1 xob_3.2).1 (by rw [(xtg_3_9 _ xob_3.1 xob_3.2).2]; exact q1) (n := 70) rfl ?_
    refine xw_isub (n := 71) (show xlook 25 70 = some (70, .isub, 1, 0, 0, 0, 0) from xlk (by decide +kernel)) rfl ?_
    refine xw_iconst (n := 72) (show xlook 25 71 = some (71, .iconst 1, 1, 0, 0, 0, 0) from xlk (by decide +kernel)) rfl ?_
    refine xw_isub (n := 73) (show xlook 25 72 = some (72, .isub, 1, 0, 0, 0, 0) from xlk (by decide +kernel)) rfl ?_
    refine xw_istore (n := 75) (show xlook 25 73 = some (73, .istore 6, 2, 0, 0, 0, 0) from xlk (by decide +kernel)) rfl (ls' := [.ref (128), .ref (o1), .ref (98), vi (x3), vi (x4), vi (x5), vi ((((F) (102) (x5)) - ((F) (103) (x4))) - (1)), w7]) (Nat.le_of_ble_eq_true rfl) rfl ?_
    refine xw_aload_n (n := 76) (show xlook 25 75 = some (75, .aload_n 1, 1, 0, 0, 0, 0) from xlk (by decide +kernel)) rfl rfl ?_
    refine xw_getr (q := o1 + 1) (show xlook 25 76 = some (76, .getfield 32, 3, 9, 5, 0, 41) from xlk (by decide +kernel)) (by decide) (xobf h1 (by decide) (by decide)) rfl (xPT_get (k := 5) (f := 1) hPT h1 (by decide)) (by have := (xtg_9_5 _ h1.1 h1.2).1.1; omega) (n := 79) rfl ?_
    refine xw_iload (n := 81) (show xlook 25 79 = some (79, .iload 5, 2, 0, 0, 0, 0) from xlk (by decide +kernel)) rfl rfl ?_
    obtain ⟨q1, t⟩ := t
    have hb1 : xob 1 (o1 + 1 + 6 + (x5 : Int).toNat) := xel15 _ (xtg_9_5 _ h1.1 h1.2).1.1 (xtg_9_5 _ h1.1 h1.2).1.2 _ (xidx10 q1)
    refine xw_aald (q := o1 + 1 + 6 + (x5 : Int).toNat) (show xlook 25 81 = some (81, .aaload, 1, 0, 0, 0, 0) from xlk (by decide +kernel)) ⟨(xtg_9_5 _ h1.1 h1.2).1.1, (Or.inl (xtg_9_5 _ h1.1 h1.2).1.2)⟩ (by rw [xln15 _ (xtg_9_5 _ h1.1 h1.2).1.1 (Or.inl (xtg_9_5 _ h1.1 h1.2).1.2)]; exact q1) (xPT_el hPT (Or.inl (xtg_9_5 _ h1.1 h1.2).1) q1.1 q1.2) (by have := hb1.1; omega) (n := 82) rfl ?_
    refine xw_geti (show xlook 25 82 = some (82, .getfield 36, 3, 1, 0, 0, 42) from xlk (by decide +kernel)) (by decide) (xobf hb1 (by decide) (by decide)) rfl (n := 85) rfl ?_
    refine xw_aload_n (n := 86) (show xlook 25 85 = some (85, .aload_n 1, 1, 0, 0, 0, 0) from xlk (by decide +kernel)) rfl rfl ?_
    refine xw_getr (q := o1 + 1) (show xlook 25 86 = some (86, .getfield 32, 3, 9, 5, 0, 41) from xlk (by decide +kernel)) (by decide) (xobf h1 (by decide) (by decide)) rfl (xPT_get (k := 5) (f := 1) hPT h1 (by decide)) (by have := (xtg_9_5 _ h1.1 h1.2).1.1; omega) (n := 89) rfl ?_
    refine xw_iload (n := 91) (show xlook 25 89 = some (89, .iload 4, 2, 0, 0, 0, 0) from xlk (by decide +kernel)) rfl rfl ?_
    obtain ⟨q1, t⟩ := t
    have hb2 : xob 1 (o1 + 1 + 6 + (x4 : Int).toNat) := xel15 _ (xtg_9_5 _ h1.1 h1.2).1.1 (xtg_9_5 _ h1.1 h1.2).1.2 _ (xidx10 q1)
    refine xw_aald (q := o1 + 1 + 6 + (x4 : Int).toNat) (show xlook 25 91 = some (91, .aaload, 1, 0, 0, 0, 0) from xlk (by decide +kernel)) ⟨(xtg_9_5 _ h1.1 h1.2).1.1, (Or.inl (xtg_9_5 _ h1.1 h1.2).1.2)⟩ (by rw [xln15 _ (xtg_9_5 _ h1.1 h1.2).1.1 (Or.inl (xtg_9_5 _ h1.1 h1.2).1.2)]; exact q1) (xPT_el hPT (Or.inl (xtg_9_5 _ h1.1 h1.2).1) q1.1 q1.2) (by have := hb2.1; omega) (n := 92) rfl ?_
    refine xw_geti (show xlook 25 92 = some (92, .getfield 36, 3, 1, 0, 0, 42) from xlk (by decide +kernel)) (by decide) (xobf hb2 (by decide) (by decide)) rfl (n := 95) rfl ?_
    refine xw_isub (n := 96) (show xlook 25 95 = some (95, .isub, 1, 0, 0, 0, 0) from xlk (by decide +kernel)) rfl ?_
    obtain ⟨q0, t⟩ := t
    refine xw_abs (show xlook 25 96 = some (96, .invokestatic 41, 3, 1003, 1, 0, 24) from xlk (by decide +kernel)) rfl (Nat.le_of_ble_eq_true rfl) q0 (n := 99) rfl ?_
    refine xw_istore (n := 101) (show xlook 25 99 = some (99, .istore 7, 2, 0, 0, 0, 0) from xlk (by decide +kernel)) rfl (ls' := [.ref (128), .ref (o1), .ref (98), vi (x3), vi (x4), vi (x5), vi ((((F) (102) (x5)) - ((F) (103) (x4))) - (1)), vi ((if 0 ≤ (((F) (o1 + 1 + 6 + (x5 : Int).toNat) 0) - ((F) (o1 + 1 + 6 + (x4 : Int).toNat) 0)) then (((F) (o1 + 1 + 6 + (x5 : Int).toNat) 0) - ((F) (o1 + 1 + 6 + (x4 : Int).toNat) 0)) else 0 - (((F) (o1 + 1 + 6 + (x5 : Int).toNat) 0) - ((F) (o1 + 1 + 6 + (x4 : Int).toNat) 0))))]) (Nat.le_of_ble_eq_true rfl) rfl ?_
    refine xw_aload_n (n := 102) (show xlook 25 101 = some (101, .aload_n 2, 1, 0, 0, 0, 0) from xlk (by decide +kernel)) rfl rfl ?_
    refine xw_getr (q := 102) (show xlook 25 102 = some (102, .getfield 24, 3, 3, 8, 0, 39) from xlk (by decide +kernel)) (by decide) (xobf xob_3 (by decide) (by decide)) rfl (xPT_get (k := 8) (f := 4) hPT xob_3 (by decide)) (by have := (xtg_3_8 _ xob_3.1 xob_3.2).1.1; omega) (n := 105) rfl ?_
    refine xw_iload (n := 107) (show xlook 25 105 = some (105, .iload 5, 2, 0, 0, 0, 0) from xlk (by decide +kernel)) rfl rfl ?_
    obtain ⟨q1, t⟩ := t
    refine xw_iald (show xlook 25 107 = some (107, .iaload, 1, 0, 0, 0, 0) from xlk (by decide +kernel)) (xtg_3_8 _ xob_3.1 xob_3.2).1 (by rw [(xtg_3_8 _ xob_3.1 xob_3.2).2]; exact q1) (n := 108) rfl ?_
    refine xw_iconst (n := 109) (show xlook 25 108 = some (108, .iconst (-1), 1, 0, 0, 0, 0) from xlk (by decide +kernel)) rfl ?_
    obtain ⟨q0, t⟩ := t
    refine xw_icmp_eq (n := 112) (m := 140) (show xlook 25 109 = some (109, .if_icmp .eq 31, 3, 140, 0, 0, 0) from xlk (by decide +kernel)) rfl rfl q0 ⟨by decide, by decide⟩ ⟨fun c => ?_, fun c => ?_⟩
    · replace t := t.1 c
      refine xw_iinc (n := 143) (show xlook 25 140 = some (140, .iinc 5 1, 3, 0, 0, 0, 0) from xlk (by decide +kernel)) rfl (ls' := [.ref (128), .ref (o1), .ref (98), vi (x3), vi (x4), vi (x5 + 1), vi ((((F) (102) (x5)) - ((F) (103) (x4))) - (1)), vi ((if 0 ≤ (((F) (o1 + 1 + 6 + (x5 : Int).toNat) 0) - ((F) (o1 + 1 + 6 + (x4 : Int).toNat) 0)) then (((F) (o1 + 1 + 6 + (x5 : Int).toNat) 0) - ((F) (o1 + 1 + 6 + (x4 : Int).toNat) 0)) else 0 - (((F) (o1 + 1 + 6 + (x5 : Int).toNat) 0) - ((F) (o1 + 1 + 6 + (x4 : Int).toNat) 0))))]) rfl rfl ?_
      refine xw_goto (m := 47) (show xlook 25 143 = some (143, .goto (-96), 3, 47, 0, 0, 0) from xlk (by decide +kernel)) rfl ?_
      exact t hPT
    · replace t := t.2 c
      refine xw_iload (n := 114) (show xlook 25 112 = some (112, .iload 6, 2, 0, 0, 0, 0) from xlk (by decide +kernel)) rfl rfl ?_
      obtain ⟨q0, t⟩ := t
      refine xw_if_le (n := 117) (m := 140) (show xlook 25 114 = some (114, .ifCond .le 26, 3, 140, 0, 0, 0) from xlk (by decide +kernel)) rfl rfl q0 ⟨fun c => ?_, fun c => ?_⟩
      · replace t := t.1 c
        refine xw_iinc (n := 143) (show xlook 25 140 = some (140, .iinc 5 1, 3, 0, 0, 0, 0) from xlk (by decide +kernel)) rfl (ls' := [.ref (128), .ref (o1), .ref (98), vi (x3), vi (x4), vi (x5 + 1), vi ((((F) (102) (x5)) - ((F) (103) (x4))) - (1)), vi ((if 0 ≤ (((F) (o1 + 1 + 6 + (x5 : Int).toNat) 0) - ((F) (o1 + 1 + 6 + (x4 : Int).toNat) 0)) then (((F) (o1 + 1 + 6 + (x5 : Int).toNat) 0) - ((F) (o1 + 1 + 6 + (x4 : Int).toNat) 0)) else 0 - (((F) (o1 + 1 + 6 + (x5 : Int).toNat) 0) - ((F) (o1 + 1 + 6 + (x4 : Int).toNat) 0))))]) rfl rfl ?_
        refine xw_goto (m := 47) (show xlook 25 143 = some (143, .goto (-96), 3, 47, 0, 0, 0) from xlk (by decide +kernel)) rfl ?_
        exact t hPT
      · replace t := t.2 c
        refine xw_iload (n := 119) (show xlook 25 117 = some (117, .iload 7, 2, 0, 0, 0, 0) from xlk (by decide +kernel)) rfl rfl ?_
        refine xw_iload_n (n := 120) (show xlook 25 119 = some (119, .iload_n 3, 1, 0, 0, 0, 0) from xlk (by decide +kernel)) rfl rfl ?_
        refine xw_iload (n := 122) (show xlook 25 120 = some (120, .iload 6, 2, 0, 0, 0, 0) from xlk (by decide +kernel)) rfl rfl ?_
        refine xw_imul (n := 123) (show xlook 25 122 = some (122, .imul, 1, 0, 0, 0, 0) from xlk (by decide +kernel)) rfl ?_
        obtain ⟨q0, q1, t⟩ := t
        refine xw_icmp_gt (n := 126) (m := 140) (show xlook 25 123 = some (123, .if_icmp .gt 17, 3, 140, 0, 0, 0) from xlk (by decide +kernel)) rfl rfl q0 q1 ⟨fun c => ?_, fun c => ?_⟩
        · replace t := t.1 c
          refine xw_iinc (n := 143) (show xlook 25 140 = some (140, .iinc 5 1, 3, 0, 0, 0, 0) from xlk (by decide +kernel)) rfl (ls' := [.ref (128), .ref (o1), .ref (98), vi (x3), vi (x4), vi (x5 + 1), vi ((((F) (102) (x5)) - ((F) (103) (x4))) - (1)), vi ((if 0 ≤ (((F) (o1 + 1 + 6 + (x5 : Int).toNat) 0) - ((F) (o1 + 1 + 6 + (x4 : Int).toNat) 0)) then (((F) (o1 + 1 + 6 + (x5 : Int).toNat) 0) - ((F) (o1 + 1 + 6 + (x4 : Int).toNat) 0)) else 0 - (((F) (o1 + 1 + 6 + (x5 : Int).toNat) 0) - ((F) (o1 + 1 + 6 + (x4 : Int).toNat) 0))))]) rfl rfl ?_
          refine xw_goto (m := 47) (show xlook 25 143 = some (143, .goto (-96), 3, 47, 0, 0, 0) from xlk (by decide +kernel)) rfl ?_
          exact t hPT
        · replace t := t.2 c
          refine xw_aload_n (n := 127) (show xlook 25 126 = some (126, .aload_n 0, 1, 0, 0, 0, 0) from xlk (by decide +kernel)) rfl rfl ?_
          refine xw_getr (q := 129) (show xlook 25 127 = some (127, .getfield 9, 3, 4, 0, 0, 36) from xlk (by decide +kernel)) (by decide) (xobf xob_4 (by decide) (by decide)) rfl (xPT_get (k := 0) (f := 1) hPT xob_4 (by decide)) (by have := (xtg_4_0 _ xob_4.1 xob_4.2).1.1; omega) (n := 130) rfl ?_
          refine xw_iload (n := 132) (show xlook 25 130 = some (130, .iload 4, 2, 0, 0, 0, 0) from xlk (by decide +kernel)) rfl rfl ?_
          refine xw_dup2 (n := 133) (show xlook 25 132 = some (132, .dup2, 1, 0, 0, 0, 0) from xlk (by decide +kernel)) rfl ?_
          obtain ⟨q1, t⟩ := t
          refine xw_iald (show xlook 25 133 = some (133, .iaload, 1, 0, 0, 0, 0) from xlk (by decide +kernel)) (xtg_4_0 _ xob_4.1 xob_4.2).1 (by rw [(xtg_4_0 _ xob_4.1 xob_4.2).2]; exact q1) (n := 134) rfl ?_
          refine xw_iconst (n := 135) (show xlook 25 134 = some (134, .iconst 1, 1, 0, 0, 0, 0) from xlk (by decide +kernel)) rfl ?_
          refine xw_iload (n := 137) (show xlook 25 135 = some (135, .iload 5, 2, 0, 0, 0, 0) from xlk (by decide +kernel)) rfl rfl ?_
          refine xw_ishl (n := 138) (show xlook 25 137 = some (137, .ishl, 1, 0, 0, 0, 0) from xlk (by decide +kernel)) rfl ?_
          refine xw_ior (n := 139) (show xlook 25 138 = some (138, .ior, 1, 0, 0, 0, 0) from xlk (by decide +kernel)) rfl ?_
          obtain ⟨q1, t⟩ := t
          refine xw_iast (show xlook 25 139 = some (139, .iastore, 1, 0, 0, 0, 0) from xlk (by decide +kernel)) (xtg_4_0 _ xob_4.1 xob_4.2).1 (by rw [(xtg_4_0 _ xob_4.1 xob_4.2).2]; exact q1) (n := 140) rfl ?_
          refine xw_iinc (n := 143) (show xlook 25 140 = some (140, .iinc 5 1, 3, 0, 0, 0, 0) from xlk (by decide +kernel)) rfl (ls' := [.ref (128), .ref (o1), .ref (98), vi (x3), vi (x4), vi (x5 + 1), vi ((((F) (102) (x5)) - ((F) (103) (x4))) - (1)), vi ((if 0 ≤ (((F) (o1 + 1 + 6 + (x5 : Int).toNat) 0) - ((F) (o1 + 1 + 6 + (x4 : Int).toNat) 0)) then (((F) (o1 + 1 + 6 + (x5 : Int).toNat) 0) - ((F) (o1 + 1 + 6 + (x4 : Int).toNat) 0)) else 0 - (((F) (o1 + 1 + 6 + (x5 : Int).toNat) 0) - ((F) (o1 + 1 + 6 + (x4 : Int).toNat) 0))))]) rfl rfl ?_
          refine xw_goto (m := 47) (show xlook 25 143 = some (143, .goto (-96), 3, 47, 0, 0, 0) from xlk (by decide +kernel)) rfl ?_
          exact t (xPT_arr hPT (Or.inl (xtg_4_0 _ xob_4.1 xob_4.2).1.2))

theorem s25_158 {X : List Int32} {d : Nat} {F : XF} {Q : Int → XF → Prop} {o1 : Nat} {x3 : Int} {x4 : Int} {x5 : Int} {w6 : Value} {w7 : Value} (hPT : xPT F) (h1 : xob 9 o1) (t : inR (x5) ∧ inR ((F) (o1) 4) ∧ (((((F) (o1) 4) ≤ (x5)) → (xPT (F) → Q (x4) (F))) ∧ (¬ (((F) (o1) 4) ≤ (x5)) → ((0 ≤ (x5) ∧ (x5) < 10) ∧ (inR ((F) (102) (x5)) ∧ (((((F) (102) (x5)) = ((-1))) → (xPT (xup (F) (128) 2 (0)) → xW X d 25 158 [.ref (128), .ref (o1), .ref (98), vi (x3), vi (x4), vi (x5 + 1), w6, w7] [] (xup (F) (128) 2 (0)) (xqi Q))) ∧ (¬ (((F) (102) (x5)) = ((-1))) → (∃ (j1 : Nat), j1 < d ∧ xMI X j1 26 [.ref (128), vi (x5), vi (0)] (xup (F) (128) 2 (0)) (fun (y1 : Int) (G1 : XF) => (inR (y1) ∧ (((¬ (y1) = (0)) → (xPT (G1) → xW X d 25 158 [.ref (128), .ref (o1), .ref (98), vi (x3), vi (x4), vi (x5 + 1), w6, w7] [] (G1) (xqi Q))) ∧ (¬ (¬ (y1) = (0)) → (xPT (G1) → xW X d 25 158 [.ref (128), .ref (o1), .ref (98), vi (x3), vi (x4 + 1), vi (x5 + 1), w6, w7] [] (G1) (xqi Q)))))))))))))) : xW X d 25 158 [.ref (128), .ref (o1), .ref (98), vi (x3), vi (x4), vi (x5), w6, w7] [] F (xqi Q) := by
  refine xw_iload (n := 160) (show xlook 25 158 = some (158, .iload 5, 2, 0, 0, 0, 0) from xlk (by decide +kernel)) rfl rfl ?_
  refine xw_aload_n (n := 161) (show xlook 25 160 = some (160, .aload_n 1, 1, 0, 0, 0, 0) from xlk (by decide +kernel)) rfl rfl ?_
  refine xw_geti (show xlook 25 161 = some (161, .getfield 18, 3, 9, 4, 0, 38) from xlk (by decide +kernel)) (by decide) (xobf h1 (by decide) (by decide)) rfl (n := 164) rfl ?_
  obtain ⟨q0, q1, t⟩ := t
  refine xw_icmp_ge (n := 167) (m := 202) (show xlook 25 164 = some (164, .if_icmp .ge 38, 3, 202, 0, 0, 0) from xlk (by decide +kernel)) rfl rfl q0 q1 ⟨fun c => ?_, fun c => ?_⟩
  · replace t := t.1 c
    refine xw_iload (n := 204) (show xlook 25 202 = some (202, .iload 4, 2, 0, 0, 0, 0) from xlk (by decide +kernel)) rfl rfl ?_
    exact xw_ireturn hPT (show xlook 25 204 = some (204, .ireturn, 1, 0, 0, 0, 0) from xlk (by decide +kernel)) rfl (t hPT)
  · replace t := t.2 c
    refine xw_aload_n (n := 168) (show xlook 25 167 = some (167, .aload_n 0, 1, 0, 0, 0, 0) from xlk (by decide +kernel)) rfl rfl ?_
    refine xw_iconst (n := 169) (show xlook 25 168 = some (168, .iconst 0, 1, 0, 0, 0, 0) from xlk (by decide +kernel)) rfl ?_
    refine xw_puti (show xlook 25 169 = some (169, .putfield 47, 3, 4, 2, 0, 43) from xlk (by decide +kernel)) (xobf xob_4 (by decide) (by decide)) rfl (n := 172) rfl ?_
    refine xw_aload_n (n := 173) (show xlook 25 172 = some (172, .aload_n 2, 1, 0, 0, 0, 0) from xlk (by decide +kernel)) rfl rfl ?_
    refine xw_getr (q := 102) (show xlook 25 173 = some (173, .getfield 24, 3, 3, 8, 0, 39) from xlk (by decide +kernel)) (by decide) (xobf xob_3 (by decide) (by decide)) rfl (xPT_get (k := 8) (f := 4) (xPT_fld (k := 2) hPT xob_4 (by decide) (by decide)) xob_3 (by decide)) (by have := (xtg_3_8 _ xob_3.1 xob_3.2).1.1; omega) (n := 176) rfl ?_
    refine xw_iload (n := 178) (show xlook 25 176 = some (176, .iload 5, 2, 0, 0, 0, 0) from xlk (by decide +kernel)) rfl rfl ?_
    obtain ⟨q1, t⟩ := t
    refine xw_iald2 (u := (F) (102) (x5)) (show xlook 25 178 = some (178, .iaload, 1, 0, 0, 0, 0) from xlk (by decide +kernel)) (xtg_3_8 _ xob_3.1 xob_3.2).1 (by rw [(xtg_3_8 _ xob_3.1 xob_3.2).2]; exact q1) (xup_o (by decide)) (n := 179) rfl ?_
    refine xw_iconst (n := 180) (show xlook 25 179 = some (179, .iconst (-1), 1, 0, 0, 0, 0) from xlk (by decide +kernel)) rfl ?_
    obtain ⟨q0, t⟩ := t
    refine xw_icmp_eq (n := 183) (m := 196) (show xlook 25 180 = some (180, .if_icmp .eq 16, 3, 196, 0, 0, 0) from xlk (by decide +kernel)) rfl rfl q0 ⟨by decide, by decide⟩ ⟨fun c => ?_, fun c => ?_⟩
    · replace t := t.1 c
      refine xw_iinc (n := 199) (show xlook 25 196 = some (196, .iinc 5 1, 3, 0, 0, 0, 0) from xlk (by decide +kernel)) rfl (ls' := [.ref (128), .ref (o1), .ref (98), vi (x3), vi (x4), vi (x5 + 1), w6, w7]) rfl rfl ?_
      refine xw_goto (m := 158) (show xlook 25 199 = some (199, .goto (-41), 3, 158, 0, 0, 0) from xlk (by decide +kernel)) rfl ?_
      exact t (xPT_fld (k := 2) hPT xob_4 (by decide) (by decide))
    · replace t := t.2 c
      refine xw_aload_n (n := 184) (show xlook 25 183 = some (183, .aload_n 0, 1, 0, 0, 0, 0) from xlk (by decide +kernel)) rfl rfl ?_
      refine xw_iload (n := 186) (show xlook 25 184 = some (184, .iload 5, 2, 0, 0, 0, 0) from xlk (by decide +kernel)) rfl rfl ?_
      refine xw_iconst (n := 187) (show xlook 25 186 = some (186, .iconst 0, 1, 0, 0, 0, 0) from xlk (by decide +kernel)) rfl ?_
      obtain ⟨j1, hj1, rr1, G1, hm1, hG1, t⟩ := t
      obtain ⟨y1, rfl, t⟩ := t
      refine xw_callv (dk := j1) (o := 128) (as := [vi (x5), vi (0)]) (show xlook 25 187 = some (187, .invokevirtual 50, 3, 26, 3, 0, 25) from xlk (by decide +kernel)) (by decide) hj1 ⟨Nat.le_of_ble_eq_true rfl, Nat.le_of_ble_eq_true rfl, Nat.le_of_ble_eq_true rfl⟩ ⟨xob_4.1, xob_4.2, by decide⟩ rfl hm1 (n := 190) rfl ?_
      show xW X d 25 190 [.ref (128), .ref (o1), .ref (98), vi (x3), vi (x4), vi (x5), w6, w7] [vi (y1)] G1 (xqi Q)
      obtain ⟨q0, t⟩ := t
      refine xw_if_ne (n := 193) (m := 196) (show xlook 25 190 = some (190, .ifCond .ne 6, 3, 196, 0, 0, 0) from xlk (by decide +kernel)) rfl rfl q0 ⟨fun c => ?_, fun c => ?_⟩
      · replace t := t.1 c
        refine xw_iinc (n := 199) (show xlook 25 196 = some (196, .iinc 5 1, 3, 0, 0, 0, 0) from xlk (by decide +kernel)) rfl (ls' := [.ref (128), .ref (o1), .ref (98), vi (x3), vi (x4), vi (x5 + 1), w6, w7]) rfl rfl ?_
        refine xw_goto (m := 158) (show xlook 25 199 = some (199, .goto (-41), 3, 158, 0, 0, 0) from xlk (by decide +kernel)) rfl ?_
        exact t hG1
      · replace t := t.2 c
        refine xw_iinc (n := 196) (show xlook 25 193 = some (193, .iinc 4 1, 3, 0, 0, 0, 0) from xlk (by decide +kernel)) rfl (ls' := [.ref (128), .ref (o1), .ref (98), vi (x3), vi (x4 + 1), vi (x5), w6, w7]) rfl rfl ?_
        refine xw_iinc (n := 199) (show xlook 25 196 = some (196, .iinc 5 1, 3, 0, 0, 0, 0) from xlk (by decide +kernel)) rfl (ls' := [.ref (128), .ref (o1), .ref (98), vi (x3), vi (x4 + 1), vi (x5 + 1), w6, w7]) rfl rfl ?_
        refine xw_goto (m := 158) (show xlook 25 199 = some (199, .goto (-41), 3, 158, 0, 0, 0) from xlk (by decide +kernel)) rfl ?_
        exact t hG1

theorem s26_0 {X : List Int32} {d : Nat} {F : XF} {Q : Int → XF → Prop} {x1 : Int} {x2 : Int} {w3 : Value} (hPT : xPT F)  (t : inR (x2) ∧ ((((10) < (x2)) → (xPT (F) → Q (0) (F))) ∧ (¬ ((10) < (x2)) → (inR (x1) ∧ ((((x1) < (0)) → (xPT (F) → Q (0) (F))) ∧ (¬ ((x1) < (0)) → (inR (x1) ∧ ((((x1) < (10)) → (xPT (F) → xW X d 26 20 [.ref (128), vi (x1), vi (x2), vi (0)] [] (F) (xqi Q))) ∧ (¬ ((x1) < (10)) → (xPT (F) → Q (0) (F))))))))))) : xW X d 26 0 [.ref (128), vi (x1), vi (x2), w3] [] F (xqi Q) := by
  refine xw_iload_n (n := 1) (show xlook 26 0 = some (0, .iload_n 2, 1, 0, 0, 0, 0) from xlk (by decide +kernel)) rfl rfl ?_
  refine xw_bipush (n := 3) (show xlook 26 1 = some (1, .bipush 10, 2, 0, 0, 0, 0) from xlk (by decide +kernel)) rfl (by decide) ?_
  obtain ⟨q0, t⟩ := t
  refine xw_icmp_gt (n := 6) (m := 16) (show xlook 26 3 = some (3, .if_icmp .gt 13, 3, 16, 0, 0, 0) from xlk (by decide +kernel)) rfl rfl q0 ⟨by decide, by decide⟩ ⟨fun c => ?_, fun c => ?_⟩
  · replace t := t.1 c
    refine xw_iconst (n := 17) (show xlook 26 16 = some (16, .iconst 0, 1, 0, 0, 0, 0) from xlk (by decide +kernel)) rfl ?_
    exact xw_zreturn hPT (show xlook 26 17 = some (17, .ireturn, 1, 0, 0, 0, 0) from xlk (by decide +kernel)) rfl (by decide) (t hPT)
  · replace t := t.2 c
    refine xw_iload_n (n := 7) (show xlook 26 6 = some (6, .iload_n 1, 1, 0, 0, 0, 0) from xlk (by decide +kernel)) rfl rfl ?_
    obtain ⟨q0, t⟩ := t
    refine xw_if_lt (n := 10) (m := 16) (show xlook 26 7 = some (7, .ifCond .lt 9, 3, 16, 0, 0, 0) from xlk (by decide +kernel)) rfl rfl q0 ⟨fun c => ?_, fun c => ?_⟩
    · replace t := t.1 c
      refine xw_iconst (n := 17) (show xlook 26 16 = some (16, .iconst 0, 1, 0, 0, 0, 0) from xlk (by decide +kernel)) rfl ?_
      exact xw_zreturn hPT (show xlook 26 17 = some (17, .ireturn, 1, 0, 0, 0, 0) from xlk (by decide +kernel)) rfl (by decide) (t hPT)
    · replace t := t.2 c
      refine xw_iload_n (n := 11) (show xlook 26 10 = some (10, .iload_n 1, 1, 0, 0, 0, 0) from xlk (by decide +kernel)) rfl rfl ?_
      refine xw_bipush (n := 13) (show xlook 26 11 = some (11, .bipush 10, 2, 0, 0, 0, 0) from xlk (by decide +kernel)) rfl (by decide) ?_
      obtain ⟨q0, t⟩ := t
      refine xw_icmp_lt (n := 16) (m := 18) (show xlook 26 13 = some (13, .if_icmp .lt 5, 3, 18, 0, 0, 0) from xlk (by decide +kernel)) rfl rfl q0 ⟨by decide, by decide⟩ ⟨fun c => ?_, fun c => ?_⟩
      · replace t := t.1 c
        refine xw_iconst (n := 19) (show xlook 26 18 = some (18, .iconst 0, 1, 0, 0, 0, 0) from xlk (by decide +kernel)) rfl ?_
        refine xw_istore_n (n := 20) (show xlook 26 19 = some (19, .istore_n 3, 1, 0, 0, 0, 0) from xlk (by decide +kernel)) rfl (ls' := [.ref (128), vi (x1), vi (x2), vi (0)]) (Nat.le_of_ble_eq_true rfl) rfl ?_
        exact t hPT
      · replace t := t.2 c
        refine xw_iconst (n := 17) (show xlook 26 16 = some (16, .iconst 0, 1, 0, 0, 0, 0) from xlk (by decide +kernel)) rfl ?_
        exact xw_zreturn hPT (show xlook 26 17 = some (17, .ireturn, 1, 0, 0, 0, 0) from xlk (by decide +kernel)) rfl (by decide) (t hPT)
theorem m26 {X : List Int32} {d : Nat} {F : XF} {Q : Int → XF → Prop} {x1 : Int} {x2 : Int} (hPT : xPT F)  (t : inR (x2) ∧ ((((10) < (x2)) → (xPT (F) → Q (0) (F))) ∧ (¬ ((10) < (x2)) → (inR (x1) ∧ ((((x1) < (0)) → (xPT (F) → Q (0) (F))) ∧ (¬ ((x1) < (0)) → (inR (x1) ∧ ((((x1) < (10)) → (xPT (F) → xW X d 26 20 [.ref (128), vi (x1), vi (x2), vi (0)] [] (F) (xqi Q))) ∧ (¬ ((x1) < (10)) → (xPT (F) → Q (0) (F))))))))))) : xMI X d 26 [.ref (128), vi (x1), vi (x2)] F Q := by
  show xW X d 26 0 [.ref (128), vi (x1), vi (x2), xU0] [] F (xqi Q)
  exact s26_0 hPT  t

theorem s26_20 {X : List Int32} {d : Nat} {F : XF} {Q : Int → XF → Prop} {x1 : Int} {x2 : Int} {x3 : Int} (hPT : xPT F)  (t : inR (x3) ∧ ((((10) ≤ (x3)) → (xPT (F) → Q (0) (F))) ∧ (¬ ((10) ≤ (x3)) → ((0 ≤ (x1) ∧ (x1) < 10) ∧ (inR (xand (xshr (xand ((F) (129) (x1)) (xxor ((F) (128) 2) ((-1)))) (x3)) (1)) ∧ ((((xand (xshr (xand ((F) (129) (x1)) (xxor ((F) (128) 2) ((-1)))) (x3)) (1)) = (0)) → (xPT (F) → xW X d 26 20 [.ref (128), vi (x1), vi (x2), vi (x3 + 1)] [] (F) (xqi Q))) ∧ (¬ ((xand (xshr (xand ((F) (129) (x1)) (xxor ((F) (128) 2) ((-1)))) (x3)) (1)) = (0)) → ((0 ≤ (x3) ∧ (x3) < 10) ∧ (inR ((F) (130) (x3)) ∧ (((((F) (130) (x3)) = ((-1))) → ((0 ≤ (x3) ∧ (x3) < 10) ∧ (xPT (xup (xup (F) (128) 2 (xior ((F) (128) 2) (xshl (1) (x3)))) (130) (x3) (x1)) → Q (1) (xup (xup (F) (128) 2 (xior ((F) (128) 2) (xshl (1) (x3)))) (130) (x3) (x1))))) ∧ (¬ (((F) (130) (x3)) = ((-1))) → ((0 ≤ (x3) ∧ (x3) < 10) ∧ (∃ (j1 : Nat), j1 < d ∧ xMI X j1 26 [.ref (128), vi ((F) (130) (x3)), vi ((x2) + (1))] (xup (F) (128) 2 (xior ((F) (128) 2) (xshl (1) (x3)))) (fun (y1 : Int) (G1 : XF) => (inR (y1) ∧ ((((y1) = (0)) → (xPT (G1) → xW X d 26 20 [.ref (128), vi (x1), vi (x2), vi (x3 + 1)] [] (G1) (xqi Q))) ∧ (¬ ((y1) = (0)) → ((0 ≤ (x3) ∧ (x3) < 10) ∧ (xPT (xup (G1) (130) (x3) (x1)) → Q (1) (xup (G1) (130) (x3) (x1))))))))))))))))))))) : xW X d 26 20 [.ref (128), vi (x1), vi (x2), vi (x3)] [] F (xqi Q) := by
  refine xw_iload_n (n := 21) (show xlook 26 20 = some (20, .iload_n 3, 1, 0, 0, 0, 0) from xlk (by decide +kernel)) rfl rfl ?_
  refine xw_bipush (n := 23) (show xlook 26 21 = some (21, .bipush 10, 2, 0, 0, 0, 0) from xlk (by decide +kernel)) rfl (by decide) ?_
  obtain ⟨q0, t⟩ := t
  refine xw_icmp_ge (n := 26) (m := 99) (show xlook 26 23 = some (23, .if_icmp .ge 76, 3, 99, 0, 0, 0) from xlk (by decide +kernel)) rfl rfl q0 ⟨by decide, by decide⟩ ⟨fun c => ?_, fun c => ?_⟩
  · replace t := t.1 c
    refine xw_iconst (n := 100) (show xlook 26 99 = some (99, .iconst 0, 1, 0, 0, 0, 0) from xlk (by decide +kernel)) rfl ?_
    exact xw_zreturn hPT (show xlook 26 100 = some (100, .ireturn, 1, 0, 0, 0, 0) from xlk (by decide +kernel)) rfl (by decide) (t hPT)
  · replace t := t.2 c
    refine xw_aload_n (n := 27) (show xlook 26 26 = some (26, .aload_n 0, 1, 0, 0, 0, 0) from xlk (by decide +kernel)) rfl rfl ?_
    refine xw_getr (q := 129) (show xlook 26 27 = some (27, .getfield 9, 3, 4, 0, 0, 36) from xlk (by decide +kernel)) (by decide) (xobf xob_4 (by decide) (by decide)) rfl (xPT_get (k := 0) (f := 1) hPT xob_4 (by decide)) (by have := (xtg_4_0 _ xob_4.1 xob_4.2).1.1; omega) (n := 30) rfl ?_
    refine xw_iload_n (n := 31) (show xlook 26 30 = some (30, .iload_n 1, 1, 0, 0, 0, 0) from xlk (by decide +kernel)) rfl rfl ?_
    obtain ⟨q1, t⟩ := t
    refine xw_iald (show xlook 26 31 = some (31, .iaload, 1, 0, 0, 0, 0) from xlk (by decide +kernel)) (xtg_4_0 _ xob_4.1 xob_4.2).1 (by rw [(xtg_4_0 _ xob_4.1 xob_4.2).2]; exact q1) (n := 32) rfl ?_
    refine xw_aload_n (n := 33) (show xlook 26 32 = some (32, .aload_n 0, 1, 0, 0, 0, 0) from xlk (by decide +kernel)) rfl rfl ?_
    refine xw_geti (show xlook 26 33 = some (33, .getfield 47, 3, 4, 2, 0, 43) from xlk (by decide +kernel)) (by decide) (xobf xob_4 (by decide) (by decide)) rfl (n := 36) rfl ?_
    refine xw_iconst (n := 37) (show xlook 26 36 = some (36, .iconst (-1), 1, 0, 0, 0, 0) from xlk (by decide +kernel)) rfl ?_
    refine xw_ixor (n := 38) (show xlook 26 37 = some (37, .ixor, 1, 0, 0, 0, 0) from xlk (by decide +kernel)) rfl ?_
    refine xw_iand (n := 39) (show xlook 26 38 = some (38, .iand, 1, 0, 0, 0, 0) from xlk (by decide +kernel)) rfl ?_
    refine xw_iload_n (n := 40) (show xlook 26 39 = some (39, .iload_n 3, 1, 0, 0, 0, 0) from xlk (by decide +kernel)) rfl rfl ?_
    refine xw_ishr (n := 41) (show xlook 26 40 = some (40, .ishr, 1, 0, 0, 0, 0) from xlk (by decide +kernel)) rfl ?_
    refine xw_iconst (n := 42) (show xlook 26 41 = some (41, .iconst 1, 1, 0, 0, 0, 0) from xlk (by decide +kernel)) rfl ?_
    refine xw_iand (n := 43) (show xlook 26 42 = some (42, .iand, 1, 0, 0, 0, 0) from xlk (by decide +kernel)) rfl ?_
    obtain ⟨q0, t⟩ := t
    refine xw_if_eq (n := 46) (m := 93) (show xlook 26 43 = some (43, .ifCond .eq 50, 3, 93, 0, 0, 0) from xlk (by decide +kernel)) rfl rfl q0 ⟨fun c => ?_, fun c => ?_⟩
    · replace t := t.1 c
      refine xw_iinc (n := 96) (show xlook 26 93 = some (93, .iinc 3 1, 3, 0, 0, 0, 0) from xlk (by decide +kernel)) rfl (ls' := [.ref (128), vi (x1), vi (x2), vi (x3 + 1)]) rfl rfl ?_
      refine xw_goto (m := 20) (show xlook 26 96 = some (96, .goto (-76), 3, 20, 0, 0, 0) from xlk (by decide +kernel)) rfl ?_
      exact t hPT
    · replace t := t.2 c
      refine xw_aload_n (n := 47) (show xlook 26 46 = some (46, .aload_n 0, 1, 0, 0, 0, 0) from xlk (by decide +kernel)) rfl rfl ?_
      refine xw_dupr (n := 48) (show xlook 26 47 = some (47, .dup, 1, 0, 0, 0, 0) from xlk (by decide +kernel)) rfl ?_
      refine xw_geti (show xlook 26 48 = some (48, .getfield 47, 3, 4, 2, 0, 43) from xlk (by decide +kernel)) (by decide) (xobf xob_4 (by decide) (by decide)) rfl (n := 51) rfl ?_
      refine xw_iconst (n := 52) (show xlook 26 51 = some (51, .iconst 1, 1, 0, 0, 0, 0) from xlk (by decide +kernel)) rfl ?_
      refine xw_iload_n (n := 53) (show xlook 26 52 = some (52, .iload_n 3, 1, 0, 0, 0, 0) from xlk (by decide +kernel)) rfl rfl ?_
      refine xw_ishl (n := 54) (show xlook 26 53 = some (53, .ishl, 1, 0, 0, 0, 0) from xlk (by decide +kernel)) rfl ?_
      refine xw_ior (n := 55) (show xlook 26 54 = some (54, .ior, 1, 0, 0, 0, 0) from xlk (by decide +kernel)) rfl ?_
      refine xw_puti (show xlook 26 55 = some (55, .putfield 47, 3, 4, 2, 0, 43) from xlk (by decide +kernel)) (xobf xob_4 (by decide) (by decide)) rfl (n := 58) rfl ?_
      refine xw_aload_n (n := 59) (show xlook 26 58 = some (58, .aload_n 0, 1, 0, 0, 0, 0) from xlk (by decide +kernel)) rfl rfl ?_
      refine xw_getr (q := 130) (show xlook 26 59 = some (59, .getfield 15, 3, 4, 1, 0, 37) from xlk (by decide +kernel)) (by decide) (xobf xob_4 (by decide) (by decide)) rfl (xPT_get (k := 1) (f := 2) (xPT_fld (k := 2) hPT xob_4 (by decide) (by decide)) xob_4 (by decide)) (by have := (xtg_4_1 _ xob_4.1 xob_4.2).1.1; omega) (n := 62) rfl ?_
      refine xw_iload_n (n := 63) (show xlook 26 62 = some (62, .iload_n 3, 1, 0, 0, 0, 0) from xlk (by decide +kernel)) rfl rfl ?_
      obtain ⟨q1, t⟩ := t
      refine xw_iald2 (u := (F) (130) (x3)) (show xlook 26 63 = some (63, .iaload, 1, 0, 0, 0, 0) from xlk (by decide +kernel)) (xtg_4_1 _ xob_4.1 xob_4.2).1 (by rw [(xtg_4_1 _ xob_4.1 xob_4.2).2]; exact q1) (xup_o (by decide)) (n := 64) rfl ?_
      refine xw_iconst (n := 65) (show xlook 26 64 = some (64, .iconst (-1), 1, 0, 0, 0, 0) from xlk (by decide +kernel)) rfl ?_
      obtain ⟨q0, t⟩ := t
      refine xw_icmp_eq (n := 68) (m := 84) (show xlook 26 65 = some (65, .if_icmp .eq 19, 3, 84, 0, 0, 0) from xlk (by decide +kernel)) rfl rfl q0 ⟨by decide, by decide⟩ ⟨fun c => ?_, fun c => ?_⟩
      · replace t := t.1 c
        refine xw_aload_n (n := 85) (show xlook 26 84 = some (84, .aload_n 0, 1, 0, 0, 0, 0) from xlk (by decide +kernel)) rfl rfl ?_
        refine xw_getr (q := 130) (show xlook 26 85 = some (85, .getfield 15, 3, 4, 1, 0, 37) from xlk (by decide +kernel)) (by decide) (xobf xob_4 (by decide) (by decide)) rfl (xPT_get (k := 1) (f := 2) (xPT_fld (k := 2) hPT xob_4 (by decide) (by decide)) xob_4 (by decide)) (by have := (xtg_4_1 _ xob_4.1 xob_4.2).1.1; omega) (n := 88) rfl ?_
        refine xw_iload_n (n := 89) (show xlook 26 88 = some (88, .iload_n 3, 1, 0, 0, 0, 0) from xlk (by decide +kernel)) rfl rfl ?_
        refine xw_iload_n (n := 90) (show xlook 26 89 = some (89, .iload_n 1, 1, 0, 0, 0, 0) from xlk (by decide +kernel)) rfl rfl ?_
        obtain ⟨q1, t⟩ := t
        refine xw_iast (show xlook 26 90 = some (90, .iastore, 1, 0, 0, 0, 0) from xlk (by decide +kernel)) (xtg_4_1 _ xob_4.1 xob_4.2).1 (by rw [(xtg_4_1 _ xob_4.1 xob_4.2).2]; exact q1) (n := 91) rfl ?_
        refine xw_iconst (n := 92) (show xlook 26 91 = some (91, .iconst 1, 1, 0, 0, 0, 0) from xlk (by decide +kernel)) rfl ?_
        exact xw_zreturn (xPT_arr (xPT_fld (k := 2) hPT xob_4 (by decide) (by decide)) (Or.inl (xtg_4_1 _ xob_4.1 xob_4.2).1.2)) (show xlook 26 92 = some (92, .ireturn, 1, 0, 0, 0, 0) from xlk (by decide +kernel)) rfl (by decide) (t (xPT_arr (xPT_fld (k := 2) hPT xob_4 (by decide) (by decide)) (Or.inl (xtg_4_1 _ xob_4.1 xob_4.2).1.2)))
      · replace t := t.2 c
        refine xw_aload_n (n := 69) (show xlook 26 68 = some (68, .aload_n 0, 1, 0, 0, 0, 0) from xlk (by decide +kernel)) rfl rfl ?_
        refine xw_aload_n (n := 70) (show xlook 26 69 = some (69, .aload_n 0, 1, 0, 0, 0, 0) from xlk (by decide +kernel)) rfl rfl ?_
        refine xw_getr (q := 130) (show xlook 26 70 = some (70, .getfield 15, 3, 4, 1, 0, 37) from xlk (by decide +kernel)) (by decide) (xobf xob_4 (by decide) (by decide)) rfl (xPT_get (k := 1) (f := 2) (xPT_fld (k := 2) hPT xob_4 (by decide) (by decide)) xob_4 (by decide)) (by have := (xtg_4_1 _ xob_4.1 xob_4.2).1.1; omega) (n := 73) rfl ?_
        refine xw_iload_n (n := 74) (show xlook 26 73 = some (73, .iload_n 3, 1, 0, 0, 0, 0) from xlk (by decide +kernel)) rfl rfl ?_
        obtain ⟨q1, t⟩ := t
        refine xw_iald2 (u := (F) (130) (x3)) (show xlook 26 74 = some (74, .iaload, 1, 0, 0, 0, 0) from xlk (by decide +kernel)) (xtg_4_1 _ xob_4.1 xob_4.2).1 (by rw [(xtg_4_1 _ xob_4.1 xob_4.2).2]; exact q1) (xup_o (by decide)) (n := 75) rfl ?_
        refine xw_iload_n (n := 76) (show xlook 26 75 = some (75, .iload_n 2, 1, 0, 0, 0, 0) from xlk (by decide +kernel)) rfl rfl ?_
        refine xw_iconst (n := 77) (show xlook 26 76 = some (76, .iconst 1, 1, 0, 0, 0, 0) from xlk (by decide +kernel)) rfl ?_
        refine xw_iadd (n := 78) (show xlook 26 77 = some (77, .iadd, 1, 0, 0, 0, 0) from xlk (by decide +kernel)) rfl ?_
        obtain ⟨j1, hj1, rr1, G1, hm1, hG1, t⟩ := t
        obtain ⟨y1, rfl, t⟩ := t
        refine xw_callv (dk := j1) (o := 128) (as := [vi ((F) (130) (x3)), vi ((x2) + (1))]) (show xlook 26 78 = some (78, .invokevirtual 50, 3, 26, 3, 0, 25) from xlk (by decide +kernel)) (by decide) hj1 ⟨Nat.le_of_ble_eq_true rfl, Nat.le_of_ble_eq_true rfl, Nat.le_of_ble_eq_true rfl⟩ ⟨xob_4.1, xob_4.2, by decide⟩ rfl hm1 (n := 81) rfl ?_
        show xW X d 26 81 [.ref (128), vi (x1), vi (x2), vi (x3)] [vi (y1)] G1 (xqi Q)
        obtain ⟨q0, t⟩ := t
        refine xw_if_eq (n := 84) (m := 93) (show xlook 26 81 = some (81, .ifCond .eq 12, 3, 93, 0, 0, 0) from xlk (by decide +kernel)) rfl rfl q0 ⟨fun c => ?_, fun c => ?_⟩
        · replace t := t.1 c
          refine xw_iinc (n := 96) (show xlook 26 93 = some (93, .iinc 3 1, 3, 0, 0, 0, 0) from xlk (by decide +kernel)) rfl (ls' := [.ref (128), vi (x1), vi (x2), vi (x3 + 1)]) rfl rfl ?_
          refine xw_goto (m := 20) (show xlook 26 96 = some (96, .goto (-76), 3, 20, 0, 0, 0) from xlk (by decide +kernel)) rfl ?_
          exact t hG1
        · replace t := t.2 c
          refine xw_aload_n (n := 85) (show xlook 26 84 = some (84, .aload_n 0, 1, 0, 0, 0, 0) from xlk (by decide +kernel)) rfl rfl ?_
          refine xw_getr (q := 130) (show xlook 26 85 = some (85, .getfield 15, 3, 4, 1, 0, 37) from xlk (by decide +kernel)) (by decide) (xobf xob_4 (by decide) (by decide)) rfl (xPT_get (k := 1) (f := 2) hG1 xob_4 (by decide)) (by have := (xtg_4_1 _ xob_4.1 xob_4.2).1.1; omega) (n := 88) rfl ?_
          refine xw_iload_n (n := 89) (show xlook 26 88 = some (88, .iload_n 3, 1, 0, 0, 0, 0) from xlk (by decide +kernel)) rfl rfl ?_
          refine xw_iload_n (n := 90) (show xlook 26 89 = some (89, .iload_n 1, 1, 0, 0, 0, 0) from xlk (by decide +kernel)) rfl rfl ?_
          obtain ⟨q1, t⟩ := t
          refine xw_iast (show xlook 26 90 = some (90, .iastore, 1, 0, 0, 0, 0) from xlk (by decide +kernel)) (xtg_4_1 _ xob_4.1 xob_4.2).1 (by rw [(xtg_4_1 _ xob_4.1 xob_4.2).2]; exact q1) (n := 91) rfl ?_
          refine xw_iconst (n := 92) (show xlook 26 91 = some (91, .iconst 1, 1, 0, 0, 0, 0) from xlk (by decide +kernel)) rfl ?_
          exact xw_zreturn (xPT_arr hG1 (Or.inl (xtg_4_1 _ xob_4.1 xob_4.2).1.2)) (show xlook 26 92 = some (92, .ireturn, 1, 0, 0, 0, 0) from xlk (by decide +kernel)) rfl (by decide) (t (xPT_arr hG1 (Or.inl (xtg_4_1 _ xob_4.1 xob_4.2).1.2)))

theorem s28_0 {X : List Int32} {d : Nat} {F : XF} {Q : XF → Prop} {x1 : Int} {w2 : Value} (hPT : xPT F)  (t : xPT (F) → xW X d 28 3 [.ref (18), vi (x1), vi (24)] [] (F) (xqv Q)) : xW X d 28 0 [.ref (18), vi (x1), w2] [] F (xqv Q) := by
  refine xw_bipush (n := 2) (show xlook 28 0 = some (0, .bipush 24, 2, 0, 0, 0, 0) from xlk (by decide +kernel)) rfl (by decide) ?_
  refine xw_istore_n (n := 3) (show xlook 28 2 = some (2, .istore_n 2, 1, 0, 0, 0, 0) from xlk (by decide +kernel)) rfl (ls' := [.ref (18), vi (x1), vi (24)]) (Nat.le_of_ble_eq_true rfl) rfl ?_
  exact t hPT
theorem m28 {X : List Int32} {d : Nat} {F : XF} {Q : XF → Prop} {x1 : Int} (hPT : xPT F)  (t : xPT (F) → xW X d 28 3 [.ref (18), vi (x1), vi (24)] [] (F) (xqv Q)) : xMV X d 28 [.ref (18), vi (x1)] F Q := by
  show xW X d 28 0 [.ref (18), vi (x1), xU0] [] F (xqv Q)
  exact s28_0 hPT  t

theorem s28_3 {X : List Int32} {d : Nat} {F : XF} {Q : XF → Prop} {x1 : Int} {x2 : Int} (hPT : xPT F)  (t : inR (x2) ∧ ((((x2) < (0)) → (xPT (F) → Q (F))) ∧ (¬ ((x2) < (0)) → (inR ((F) (18) 0) ∧ ((((600) ≤ ((F) (18) 0)) → (xPT (F) → xW X d 28 3 [.ref (18), vi (x1), vi (x2 + (-8))] [] (F) (xqv Q))) ∧ (¬ ((600) ≤ ((F) (18) 0)) → ((0 ≤ ((F) (18) 0) ∧ ((F) (18) 0) < 600) ∧ (xPT (xup (xup (F) (19) ((F) (18) 0) (xand (xush (x1) (x2)) (255))) (18) 0 (((F) (18) 0) + (1))) → xW X d 28 3 [.ref (18), vi (x1), vi (x2 + (-8))] [] (xup (xup (F) (19) ((F) (18) 0) (xand (xush (x1) (x2)) (255))) (18) 0 (((F) (18) 0) + (1))) (xqv Q))))))))) : xW X d 28 3 [.ref (18), vi (x1), vi (x2)] [] F (xqv Q) := by
  refine xw_iload_n (n := 4) (show xlook 28 3 = some (3, .iload_n 2, 1, 0, 0, 0, 0) from xlk (by decide +kernel)) rfl rfl ?_
  obtain ⟨q0, t⟩ := t
  refine xw_if_lt (n := 7) (m := 49) (show xlook 28 4 = some (4, .ifCond .lt 45, 3, 49, 0, 0, 0) from xlk (by decide +kernel)) rfl rfl q0 ⟨fun c => ?_, fun c => ?_⟩
  · replace t := t.1 c
    exact xw_return hPT (show xlook 28 49 = some (49, .return_, 1, 0, 0, 0, 0) from xlk (by decide +kernel)) rfl (t hPT)
  · replace t := t.2 c
    refine xw_aload_n (n := 8) (show xlook 28 7 = some (7, .aload_n 0, 1, 0, 0, 0, 0) from xlk (by decide +kernel)) rfl rfl ?_
    refine xw_geti (show xlook 28 8 = some (8, .getfield 26, 3, 5, 0, 0, 47) from xlk (by decide +kernel)) (by decide) (xobf xob_5 (by decide) (by decide)) rfl (n := 11) rfl ?_
    refine xw_sipush (n := 14) (show xlook 28 11 = some (11, .sipush 600, 3, 0, 0, 0, 0) from xlk (by decide +kernel)) rfl (by decide) ?_
    obtain ⟨q0, t⟩ := t
    refine xw_icmp_ge (n := 17) (m := 43) (show xlook 28 14 = some (14, .if_icmp .ge 29, 3, 43, 0, 0, 0) from xlk (by decide +kernel)) rfl rfl q0 ⟨by decide, by decide⟩ ⟨fun c => ?_, fun c => ?_⟩
    · replace t := t.1 c
      refine xw_iinc (n := 46) (show xlook 28 43 = some (43, .iinc 2 (-8), 3, 0, 0, 0, 0) from xlk (by decide +kernel)) rfl (ls' := [.ref (18), vi (x1), vi (x2 + (-8))]) rfl rfl ?_
      refine xw_goto (m := 3) (show xlook 28 46 = some (46, .goto (-43), 3, 3, 0, 0, 0) from xlk (by decide +kernel)) rfl ?_
      exact t hPT
    · replace t := t.2 c
      refine xw_aload_n (n := 18) (show xlook 28 17 = some (17, .aload_n 0, 1, 0, 0, 0, 0) from xlk (by decide +kernel)) rfl rfl ?_
      refine xw_getr (q := 19) (show xlook 28 18 = some (18, .getfield 15, 3, 5, 4, 0, 45) from xlk (by decide +kernel)) (by decide) (xobf xob_5 (by decide) (by decide)) rfl (xPT_get (k := 4) (f := 1) hPT xob_5 (by decide)) (by have := (xtg_5_4 _ xob_5.1 xob_5.2).1.1; omega) (n := 21) rfl ?_
      refine xw_aload_n (n := 22) (show xlook 28 21 = some (21, .aload_n 0, 1, 0, 0, 0, 0) from xlk (by decide +kernel)) rfl rfl ?_
      refine xw_geti (show xlook 28 22 = some (22, .getfield 26, 3, 5, 0, 0, 47) from xlk (by decide +kernel)) (by decide) (xobf xob_5 (by decide) (by decide)) rfl (n := 25) rfl ?_
      refine xw_iload_n (n := 26) (show xlook 28 25 = some (25, .iload_n 1, 1, 0, 0, 0, 0) from xlk (by decide +kernel)) rfl rfl ?_
      refine xw_iload_n (n := 27) (show xlook 28 26 = some (26, .iload_n 2, 1, 0, 0, 0, 0) from xlk (by decide +kernel)) rfl rfl ?_
      refine xw_iushr (n := 28) (show xlook 28 27 = some (27, .iushr, 1, 0, 0, 0, 0) from xlk (by decide +kernel)) rfl ?_
      refine xw_sipush (n := 31) (show xlook 28 28 = some (28, .sipush 255, 3, 0, 0, 0, 0) from xlk (by decide +kernel)) rfl (by decide) ?_
      refine xw_iand (n := 32) (show xlook 28 31 = some (31, .iand, 1, 0, 0, 0, 0) from xlk (by decide +kernel)) rfl ?_
      obtain ⟨q1, t⟩ := t
      refine xw_iast (show xlook 28 32 = some (32, .iastore, 1, 0, 0, 0, 0) from xlk (by decide +kernel)) (xtg_5_4 _ xob_5.1 xob_5.2).1 (by rw [(xtg_5_4 _ xob_5.1 xob_5.2).2]; exact q1) (n := 33) rfl ?_
      refine xw_aload_n (n := 34) (show xlook 28 33 = some (33, .aload_n 0, 1, 0, 0, 0, 0) from xlk (by decide +kernel)) rfl rfl ?_
      refine xw_dupr (n := 35) (show xlook 28 34 = some (34, .dup, 1, 0, 0, 0, 0) from xlk (by decide +kernel)) rfl ?_
      refine xw_geti2 (u := (F) (18) 0) (show xlook 28 35 = some (35, .getfield 26, 3, 5, 0, 0, 47) from xlk (by decide +kernel)) (by decide) (xobf xob_5 (by decide) (by decide)) rfl (xup_o (by decide)) (n := 38) rfl ?_
      refine xw_iconst (n := 39) (show xlook 28 38 = some (38, .iconst 1, 1, 0, 0, 0, 0) from xlk (by decide +kernel)) rfl ?_
      refine xw_iadd (n := 40) (show xlook 28 39 = some (39, .iadd, 1, 0, 0, 0, 0) from xlk (by decide +kernel)) rfl ?_
      refine xw_puti (show xlook 28 40 = some (40, .putfield 26, 3, 5, 0, 0, 47) from xlk (by decide +kernel)) (xobf xob_5 (by decide) (by decide)) rfl (n := 43) rfl ?_
      refine xw_iinc (n := 46) (show xlook 28 43 = some (43, .iinc 2 (-8), 3, 0, 0, 0, 0) from xlk (by decide +kernel)) rfl (ls' := [.ref (18), vi (x1), vi (x2 + (-8))]) rfl rfl ?_
      refine xw_goto (m := 3) (show xlook 28 46 = some (46, .goto (-43), 3, 3, 0, 0, 0) from xlk (by decide +kernel)) rfl ?_
      exact t (xPT_fld (k := 0) (xPT_arr hPT (Or.inl (xtg_5_4 _ xob_5.1 xob_5.2).1.2)) xob_5 (by decide) (by decide))

theorem s29_0 {X : List Int32} {d : Nat} {F : XF} {Q : XF → Prop} {x1 : Int} (hPT : xPT F)  (t : inR (x1) ∧ inR ((F) (18) 0) ∧ (∃ t1 : Nat, (xup (xup (F) (18) 6 (min (x1) ((F) (18) 0))) (18) 0 (0)) (18) 5 = (t1 : Int) ∧ xob 9 t1 ∧ (∃ (j2 : Nat), j2 < d ∧ xMV X j2 71 [.ref (t1)] (xup (xup (F) (18) 6 (min (x1) ((F) (18) 0))) (18) 0 (0)) (fun (G2 : XF) => (∃ (j3 : Nat), j3 < d ∧ xMV X j3 32 [.ref (18)] (xup (xup (xup (xup (xup (G2) (18) 1 (0)) (18) 2 ((-1))) (18) 3 (0)) (18) 7 (0)) (18) 11 (0)) (fun (G3 : XF) => (xPT (G3) → xW X d 29 53 [.ref (18), vi (x1)] [] (G3) (xqv Q)))))))) : xW X d 29 0 [.ref (18), vi (x1)] [] F (xqv Q) := by
  refine xw_aload_n (n := 1) (show xlook 29 0 = some (0, .aload_n 0, 1, 0, 0, 0, 0) from xlk (by decide +kernel)) rfl rfl ?_
  refine xw_iload_n (n := 2) (show xlook 29 1 = some (1, .iload_n 1, 1, 0, 0, 0, 0) from xlk (by decide +kernel)) rfl rfl ?_
  refine xw_aload_n (n := 3) (show xlook 29 2 = some (2, .aload_n 0, 1, 0, 0, 0, 0) from xlk (by decide +kernel)) rfl rfl ?_
  refine xw_geti (show xlook 29 3 = some (3, .getfield 26, 3, 5, 0, 0, 47) from xlk (by decide +kernel)) (by decide) (xobf xob_5 (by decide) (by decide)) rfl (n := 6) rfl ?_
  obtain ⟨q0, q1, t⟩ := t
  refine xw_min (show xlook 29 6 = some (6, .invokestatic 29, 3, 1002, 2, 0, 28) from xlk (by decide +kernel)) rfl (Nat.le_of_ble_eq_true rfl) q0 q1 (n := 9) rfl ?_
  refine xw_puti (show xlook 29 9 = some (9, .putfield 35, 3, 5, 6, 0, 48) from xlk (by decide +kernel)) (xobf xob_5 (by decide) (by decide)) rfl (n := 12) rfl ?_
  refine xw_aload_n (n := 13) (show xlook 29 12 = some (12, .aload_n 0, 1, 0, 0, 0, 0) from xlk (by decide +kernel)) rfl rfl ?_
  refine xw_iconst (n := 14) (show xlook 29 13 = some (13, .iconst 0, 1, 0, 0, 0, 0) from xlk (by decide +kernel)) rfl ?_
  refine xw_puti (show xlook 29 14 = some (14, .putfield 26, 3, 5, 0, 0, 47) from xlk (by decide +kernel)) (xobf xob_5 (by decide) (by decide)) rfl (n := 17) rfl ?_
  refine xw_aload_n (n := 18) (show xlook 29 17 = some (17, .aload_n 0, 1, 0, 0, 0, 0) from xlk (by decide +kernel)) rfl rfl ?_
  obtain ⟨t1, q1, ht1, t⟩ := t
  refine xw_getr (q := t1) (show xlook 29 18 = some (18, .getfield 22, 3, 5, 5, 0, 46) from xlk (by decide +kernel)) (by decide) (xobf xob_5 (by decide) (by decide)) rfl q1 (by have := ht1.1; omega) (n := 21) rfl ?_
  obtain ⟨j2, hj2, rr2, G2, hm2, hG2, t⟩ := t
  obtain ⟨rfl, t⟩ := t
  refine xw_callv (dk := j2) (o := t1) (as := []) (show xlook 29 21 = some (21, .invokevirtual 38, 3, 71, 1, 0, 29) from xlk (by decide +kernel)) (by decide) hj2 ⟨Nat.le_of_ble_eq_true rfl, Nat.le_of_ble_eq_true rfl, Nat.le_of_ble_eq_true rfl⟩ ⟨ht1.1, ht1.2, by decide⟩ rfl hm2 (n := 24) rfl ?_
  show xW X d 29 24 [.ref (18), vi (x1)] [] G2 (xqv Q)
  refine xw_aload_n (n := 25) (show xlook 29 24 = some (24, .aload_n 0, 1, 0, 0, 0, 0) from xlk (by decide +kernel)) rfl rfl ?_
  refine xw_iconst (n := 26) (show xlook 29 25 = some (25, .iconst 0, 1, 0, 0, 0, 0) from xlk (by decide +kernel)) rfl ?_
  refine xw_puti (show xlook 29 26 = some (26, .putfield 41, 3, 5, 1, 0, 49) from xlk (by decide +kernel)) (xobf xob_5 (by decide) (by decide)) rfl (n := 29) rfl ?_
  refine xw_aload_n (n := 30) (show xlook 29 29 = some (29, .aload_n 0, 1, 0, 0, 0, 0) from xlk (by decide +kernel)) rfl rfl ?_
  refine xw_iconst (n := 31) (show xlook 29 30 = some (30, .iconst (-1), 1, 0, 0, 0, 0) from xlk (by decide +kernel)) rfl ?_
  refine xw_puti (show xlook 29 31 = some (31, .putfield 9, 3, 5, 2, 0, 44) from xlk (by decide +kernel)) (xobf xob_5 (by decide) (by decide)) rfl (n := 34) rfl ?_
  refine xw_aload_n (n := 35) (show xlook 29 34 = some (34, .aload_n 0, 1, 0, 0, 0, 0) from xlk (by decide +kernel)) rfl rfl ?_
  refine xw_iconst (n := 36) (show xlook 29 35 = some (35, .iconst 0, 1, 0, 0, 0, 0) from xlk (by decide +kernel)) rfl ?_
  refine xw_puti (show xlook 29 36 = some (36, .putfield 44, 3, 5, 3, 0, 50) from xlk (by decide +kernel)) (xobf xob_5 (by decide) (by decide)) rfl (n := 39) rfl ?_
  refine xw_aload_n (n := 40) (show xlook 29 39 = some (39, .aload_n 0, 1, 0, 0, 0, 0) from xlk (by decide +kernel)) rfl rfl ?_
  refine xw_iconst (n := 41) (show xlook 29 40 = some (40, .iconst 0, 1, 0, 0, 0, 0) from xlk (by decide +kernel)) rfl ?_
  refine xw_puti (show xlook 29 41 = some (41, .putfield 47, 3, 5, 7, 0, 51) from xlk (by decide +kernel)) (xobf xob_5 (by decide) (by decide)) rfl (n := 44) rfl ?_
  refine xw_aload_n (n := 45) (show xlook 29 44 = some (44, .aload_n 0, 1, 0, 0, 0, 0) from xlk (by decide +kernel)) rfl rfl ?_
  refine xw_iconst (n := 46) (show xlook 29 45 = some (45, .iconst 0, 1, 0, 0, 0, 0) from xlk (by decide +kernel)) rfl ?_
  refine xw_puti (show xlook 29 46 = some (46, .putfield 50, 3, 5, 11, 0, 52) from xlk (by decide +kernel)) (xobf xob_5 (by decide) (by decide)) rfl (n := 49) rfl ?_
  refine xw_aload_n (n := 50) (show xlook 29 49 = some (49, .aload_n 0, 1, 0, 0, 0, 0) from xlk (by decide +kernel)) rfl rfl ?_
  obtain ⟨j3, hj3, rr3, G3, hm3, hG3, t⟩ := t
  obtain ⟨rfl, t⟩ := t
  refine xw_callv (dk := j3) (o := 18) (as := []) (show xlook 29 50 = some (50, .invokevirtual 53, 3, 32, 1, 0, 30) from xlk (by decide +kernel)) (by decide) hj3 ⟨Nat.le_of_ble_eq_true rfl, Nat.le_of_ble_eq_true rfl, Nat.le_of_ble_eq_true rfl⟩ ⟨xob_5.1, xob_5.2, by decide⟩ rfl hm3 (n := 53) rfl ?_
  show xW X d 29 53 [.ref (18), vi (x1)] [] G3 (xqv Q)
  exact t hG3
theorem m29 {X : List Int32} {d : Nat} {F : XF} {Q : XF → Prop} {x1 : Int} (hPT : xPT F)  (t : inR (x1) ∧ inR ((F) (18) 0) ∧ (∃ t1 : Nat, (xup (xup (F) (18) 6 (min (x1) ((F) (18) 0))) (18) 0 (0)) (18) 5 = (t1 : Int) ∧ xob 9 t1 ∧ (∃ (j2 : Nat), j2 < d ∧ xMV X j2 71 [.ref (t1)] (xup (xup (F) (18) 6 (min (x1) ((F) (18) 0))) (18) 0 (0)) (fun (G2 : XF) => (∃ (j3 : Nat), j3 < d ∧ xMV X j3 32 [.ref (18)] (xup (xup (xup (xup (xup (G2) (18) 1 (0)) (18) 2 ((-1))) (18) 3 (0)) (18) 7 (0)) (18) 11 (0)) (fun (G3 : XF) => (xPT (G3) → xW X d 29 53 [.ref (18), vi (x1)] [] (G3) (xqv Q)))))))) : xMV X d 29 [.ref (18), vi (x1)] F Q := by
  show xW X d 29 0 [.ref (18), vi (x1)] [] F (xqv Q)
  exact s29_0 hPT  t

theorem s29_53 {X : List Int32} {d : Nat} {F : XF} {Q : XF → Prop} {x1 : Int} (hPT : xPT F)  (t : inR ((F) (18) 1) ∧ (((¬ ((F) (18) 1) = (0)) → (xPT (F) → Q (F))) ∧ (¬ (¬ ((F) (18) 1) = (0)) → (inR ((F) (18) 8) ∧ (((((F) (18) 8) = (0)) → (xPT (F) → Q (F))) ∧ (¬ (((F) (18) 8) = (0)) → (inR ((F) (18) 3) ∧ ((((600) ≤ ((F) (18) 3)) → (xPT (F) → Q (F))) ∧ (¬ ((600) ≤ ((F) (18) 3)) → (∃ (j1 : Nat), j1 < d ∧ xMV X j1 39 [.ref (18)] (F) (fun (G1 : XF) => (xPT (xup (G1) (18) 3 (((G1) (18) 3) + (1))) → xW X d 29 53 [.ref (18), vi (x1)] [] (xup (G1) (18) 3 (((G1) (18) 3) + (1))) (xqv Q))))))))))))) : xW X d 29 53 [.ref (18), vi (x1)] [] F (xqv Q) := by
  refine xw_aload_n (n := 54) (show xlook 29 53 = some (53, .aload_n 0, 1, 0, 0, 0, 0) from xlk (by decide +kernel)) rfl rfl ?_
  refine xw_geti (show xlook 29 54 = some (54, .getfield 41, 3, 5, 1, 0, 49) from xlk (by decide +kernel)) (by decide) (xobf xob_5 (by decide) (by decide)) rfl (n := 57) rfl ?_
  obtain ⟨q0, t⟩ := t
  refine xw_if_ne (n := 60) (m := 94) (show xlook 29 57 = some (57, .ifCond .ne 37, 3, 94, 0, 0, 0) from xlk (by decide +kernel)) rfl rfl q0 ⟨fun c => ?_, fun c => ?_⟩
  · replace t := t.1 c
    exact xw_return hPT (show xlook 29 94 = some (94, .return_, 1, 0, 0, 0, 0) from xlk (by decide +kernel)) rfl (t hPT)
  · replace t := t.2 c
    refine xw_aload_n (n := 61) (show xlook 29 60 = some (60, .aload_n 0, 1, 0, 0, 0, 0) from xlk (by decide +kernel)) rfl rfl ?_
    refine xw_geti (show xlook 29 61 = some (61, .getfield 56, 3, 5, 8, 0, 53) from xlk (by decide +kernel)) (by decide) (xobf xob_5 (by decide) (by decide)) rfl (n := 64) rfl ?_
    obtain ⟨q0, t⟩ := t
    refine xw_if_eq (n := 67) (m := 94) (show xlook 29 64 = some (64, .ifCond .eq 30, 3, 94, 0, 0, 0) from xlk (by decide +kernel)) rfl rfl q0 ⟨fun c => ?_, fun c => ?_⟩
    · replace t := t.1 c
      exact xw_return hPT (show xlook 29 94 = some (94, .return_, 1, 0, 0, 0, 0) from xlk (by decide +kernel)) rfl (t hPT)
    · replace t := t.2 c
      refine xw_aload_n (n := 68) (show xlook 29 67 = some (67, .aload_n 0, 1, 0, 0, 0, 0) from xlk (by decide +kernel)) rfl rfl ?_
      refine xw_geti (show xlook 29 68 = some (68, .getfield 44, 3, 5, 3, 0, 50) from xlk (by decide +kernel)) (by decide) (xobf xob_5 (by decide) (by decide)) rfl (n := 71) rfl ?_
      refine xw_sipush (n := 74) (show xlook 29 71 = some (71, .sipush 600, 3, 0, 0, 0, 0) from xlk (by decide +kernel)) rfl (by decide) ?_
      obtain ⟨q0, t⟩ := t
      refine xw_icmp_ge (n := 77) (m := 94) (show xlook 29 74 = some (74, .if_icmp .ge 20, 3, 94, 0, 0, 0) from xlk (by decide +kernel)) rfl rfl q0 ⟨by decide, by decide⟩ ⟨fun c => ?_, fun c => ?_⟩
      · replace t := t.1 c
        exact xw_return hPT (show xlook 29 94 = some (94, .return_, 1, 0, 0, 0, 0) from xlk (by decide +kernel)) rfl (t hPT)
      · replace t := t.2 c
        refine xw_aload_n (n := 78) (show xlook 29 77 = some (77, .aload_n 0, 1, 0, 0, 0, 0) from xlk (by decide +kernel)) rfl rfl ?_
        obtain ⟨j1, hj1, rr1, G1, hm1, hG1, t⟩ := t
        obtain ⟨rfl, t⟩ := t
        refine xw_callv (dk := j1) (o := 18) (as := []) (show xlook 29 78 = some (78, .invokevirtual 59, 3, 39, 1, 0, 31) from xlk (by decide +kernel)) (by decide) hj1 ⟨Nat.le_of_ble_eq_true rfl, Nat.le_of_ble_eq_true rfl, Nat.le_of_ble_eq_true rfl⟩ ⟨xob_5.1, xob_5.2, by decide⟩ rfl hm1 (n := 81) rfl ?_
        show xW X d 29 81 [.ref (18), vi (x1)] [] G1 (xqv Q)
        refine xw_aload_n (n := 82) (show xlook 29 81 = some (81, .aload_n 0, 1, 0, 0, 0, 0) from xlk (by decide +kernel)) rfl rfl ?_
        refine xw_dupr (n := 83) (show xlook 29 82 = some (82, .dup, 1, 0, 0, 0, 0) from xlk (by decide +kernel)) rfl ?_
        refine xw_geti (show xlook 29 83 = some (83, .getfield 44, 3, 5, 3, 0, 50) from xlk (by decide +kernel)) (by decide) (xobf xob_5 (by decide) (by decide)) rfl (n := 86) rfl ?_
        refine xw_iconst (n := 87) (show xlook 29 86 = some (86, .iconst 1, 1, 0, 0, 0, 0) from xlk (by decide +kernel)) rfl ?_
        refine xw_iadd (n := 88) (show xlook 29 87 = some (87, .iadd, 1, 0, 0, 0, 0) from xlk (by decide +kernel)) rfl ?_
        refine xw_puti (show xlook 29 88 = some (88, .putfield 44, 3, 5, 3, 0, 50) from xlk (by decide +kernel)) (xobf xob_5 (by decide) (by decide)) rfl (n := 91) rfl ?_
        refine xw_goto (m := 53) (show xlook 29 91 = some (91, .goto (-38), 3, 53, 0, 0, 0) from xlk (by decide +kernel)) rfl ?_
        exact t (xPT_fld (k := 3) hG1 xob_5 (by decide) (by decide))

theorem s30_0 {X : List Int32} {d : Nat} {F : XF} {Q : Nat → XF → Prop} {o1 : Nat} {w2 : Value} (hPT : xPT F) (h1 : xob 9 o1) (t : ∃ t1 : Nat, (F) (18) 5 = (t1 : Int) ∧ xob 9 t1 ∧ (xPT (xup (F) (18) 5 (o1)) → Q (t1) (xup (F) (18) 5 (o1)))) : xW X d 30 0 [.ref (18), .ref (o1), w2] [] F (xqr Q) := by
  refine xw_aload_n (n := 1) (show xlook 30 0 = some (0, .aload_n 0, 1, 0, 0, 0, 0) from xlk (by decide +kernel)) rfl rfl ?_
  obtain ⟨t1, q1, ht1, t⟩ := t
  refine xw_getr (q := t1) (show xlook 30 1 = some (1, .getfield 22, 3, 5, 5, 0, 46) from xlk (by decide +kernel)) (by decide) (xobf xob_5 (by decide) (by decide)) rfl q1 (by have := ht1.1; omega) (n := 4) rfl ?_
  refine xw_astore_n (n := 5) (show xlook 30 4 = some (4, .astore_n 2, 1, 0, 0, 0, 0) from xlk (by decide +kernel)) rfl (ls' := [.ref (18), .ref (o1), .ref (t1)]) (Nat.le_of_ble_eq_true rfl) rfl ?_
  refine xw_aload_n (n := 6) (show xlook 30 5 = some (5, .aload_n 0, 1, 0, 0, 0, 0) from xlk (by decide +kernel)) rfl rfl ?_
  refine xw_aload_n (n := 7) (show xlook 30 6 = some (6, .aload_n 1, 1, 0, 0, 0, 0) from xlk (by decide +kernel)) rfl rfl ?_
  refine xw_putr (q := o1) (show xlook 30 7 = some (7, .putfield 22, 3, 5, 5, 0, 46) from xlk (by decide +kernel)) (xobf xob_5 (by decide) (by decide)) rfl (by have := h1.1; omega) (n := 10) rfl ?_
  refine xw_aload_n (n := 11) (show xlook 30 10 = some (10, .aload_n 2, 1, 0, 0, 0, 0) from xlk (by decide +kernel)) rfl rfl ?_
  exact xw_areturn (xPT_fld (k := 5) hPT xob_5 (by decide) (by decide)) (show xlook 30 11 = some (11, .areturn, 1, 0, 0, 0, 0) from xlk (by decide +kernel)) rfl rfl ht1 (t (xPT_fld (k := 5) hPT xob_5 (by decide) (by decide)))
theorem m30 {X : List Int32} {d : Nat} {F : XF} {Q : Nat → XF → Prop} {o1 : Nat} (hPT : xPT F) (h1 : xob 9 o1) (t : ∃ t1 : Nat, (F) (18) 5 = (t1 : Int) ∧ xob 9 t1 ∧ (xPT (xup (F) (18) 5 (o1)) → Q (t1) (xup (F) (18) 5 (o1)))) : xMR X d 30 [.ref (18), .ref (o1)] F Q := by
  show xW X d 30 0 [.ref (18), .ref (o1), xU0] [] F (xqr Q)
  exact s30_0 hPT h1 t

theorem s31_0 {X : List Int32} {d : Nat} {F : XF} {Q : XF → Prop} {x1 : Int} {x2 : Int} (hPT : xPT F)  (t : inR ((F) (18) 1) ∧ (((¬ ((F) (18) 1) = (0)) → (xPT (F) → Q (F))) ∧ (¬ (¬ ((F) (18) 1) = (0)) → (xPT (xup (xup (F) (18) 1 (x1)) (18) 2 (x2)) → Q (xup (xup (F) (18) 1 (x1)) (18) 2 (x2)))))) : xW X d 31 0 [.ref (18), vi (x1), vi (x2)] [] F (xqv Q) := by
  refine xw_aload_n (n := 1) (show xlook 31 0 = some (0, .aload_n 0, 1, 0, 0, 0, 0) from xlk (by decide +kernel)) rfl rfl ?_
  refine xw_geti (show xlook 31 1 = some (1, .getfield 41, 3, 5, 1, 0, 49) from xlk (by decide +kernel)) (by decide) (xobf xob_5 (by decide) (by decide)) rfl (n := 4) rfl ?_
  obtain ⟨q0, t⟩ := t
  refine xw_if_ne (n := 7) (m := 17) (show xlook 31 4 = some (4, .ifCond .ne 13, 3, 17, 0, 0, 0) from xlk (by decide +kernel)) rfl rfl q0 ⟨fun c => ?_, fun c => ?_⟩
  · replace t := t.1 c
    exact xw_return hPT (show xlook 31 17 = some (17, .return_, 1, 0, 0, 0, 0) from xlk (by decide +kernel)) rfl (t hPT)
  · replace t := t.2 c
    refine xw_aload_n (n := 8) (show xlook 31 7 = some (7, .aload_n 0, 1, 0, 0, 0, 0) from xlk (by decide +kernel)) rfl rfl ?_
    refine xw_iload_n (n := 9) (show xlook 31 8 = some (8, .iload_n 1, 1, 0, 0, 0, 0) from xlk (by decide +kernel)) rfl rfl ?_
    refine xw_puti (show xlook 31 9 = some (9, .putfield 41, 3, 5, 1, 0, 49) from xlk (by decide +kernel)) (xobf xob_5 (by decide) (by decide)) rfl (n := 12) rfl ?_
    refine xw_aload_n (n := 13) (show xlook 31 12 = some (12, .aload_n 0, 1, 0, 0, 0, 0) from xlk (by decide +kernel)) rfl rfl ?_
    refine xw_iload_n (n := 14) (show xlook 31 13 = some (13, .iload_n 2, 1, 0, 0, 0, 0) from xlk (by decide +kernel)) rfl rfl ?_
    refine xw_puti (show xlook 31 14 = some (14, .putfield 9, 3, 5, 2, 0, 44) from xlk (by decide +kernel)) (xobf xob_5 (by decide) (by decide)) rfl (n := 17) rfl ?_
    exact xw_return (xPT_fld (k := 2) (xPT_fld (k := 1) hPT xob_5 (by decide) (by decide)) xob_5 (by decide) (by decide)) (show xlook 31 17 = some (17, .return_, 1, 0, 0, 0, 0) from xlk (by decide +kernel)) rfl (t (xPT_fld (k := 2) (xPT_fld (k := 1) hPT xob_5 (by decide) (by decide)) xob_5 (by decide) (by decide)))
theorem m31 {X : List Int32} {d : Nat} {F : XF} {Q : XF → Prop} {x1 : Int} {x2 : Int} (hPT : xPT F)  (t : inR ((F) (18) 1) ∧ (((¬ ((F) (18) 1) = (0)) → (xPT (F) → Q (F))) ∧ (¬ (¬ ((F) (18) 1) = (0)) → (xPT (xup (xup (F) (18) 1 (x1)) (18) 2 (x2)) → Q (xup (xup (F) (18) 1 (x1)) (18) 2 (x2)))))) : xMV X d 31 [.ref (18), vi (x1), vi (x2)] F Q := by
  show xW X d 31 0 [.ref (18), vi (x1), vi (x2)] [] F (xqv Q)
  exact s31_0 hPT  t

theorem s32_0 {X : List Int32} {d : Nat} {F : XF} {Q : XF → Prop}  (hPT : xPT F)  (t : inR ((F) (18) 11) ∧ inR ((F) (18) 6) ∧ (((((F) (18) 6) ≤ ((F) (18) 11)) → (xPT (F) → xW X d 32 38 [.ref (18)] [] (F) (xqv Q))) ∧ (¬ (((F) (18) 6) ≤ ((F) (18) 11)) → ((0 ≤ ((F) (18) 11) ∧ ((F) (18) 11) < 600) ∧ (inR ((F) (19) ((F) (18) 11)) ∧ (((¬ ((F) (19) ((F) (18) 11)) = (32)) → (xPT (F) → xW X d 32 38 [.ref (18)] [] (F) (xqv Q))) ∧ (¬ (¬ ((F) (19) ((F) (18) 11)) = (32)) → (xPT (xup (F) (18) 11 (((F) (18) 11) + (1))) → xW X d 32 0 [.ref (18)] [] (xup (F) (18) 11 (((F) (18) 11) + (1))) (xqv Q))))))))) : xW X d 32 0 [.ref (18)] [] F (xqv Q) := by
  refine xw_aload_n (n := 1) (show xlook 32 0 = some (0, .aload_n 0, 1, 0, 0, 0, 0) from xlk (by decide +kernel)) rfl rfl ?_
  refine xw_geti (show xlook 32 1 = some (1, .getfield 50, 3, 5, 11, 0, 52) from xlk (by decide +kernel)) (by decide) (xobf xob_5 (by decide) (by decide)) rfl (n := 4) rfl ?_
  refine xw_aload_n (n := 5) (show xlook 32 4 = some (4, .aload_n 0, 1, 0, 0, 0, 0) from xlk (by decide +kernel)) rfl rfl ?_
  refine xw_geti (show xlook 32 5 = some (5, .getfield 35, 3, 5, 6, 0, 48) from xlk (by decide +kernel)) (by decide) (xobf xob_5 (by decide) (by decide)) rfl (n := 8) rfl ?_
  obtain ⟨q0, q1, t⟩ := t
  refine xw_icmp_ge (n := 11) (m := 38) (show xlook 32 8 = some (8, .if_icmp .ge 30, 3, 38, 0, 0, 0) from xlk (by decide +kernel)) rfl rfl q0 q1 ⟨fun c => ?_, fun c => ?_⟩
  · replace t := t.1 c
    exact t hPT
  · replace t := t.2 c
    refine xw_aload_n (n := 12) (show xlook 32 11 = some (11, .aload_n 0, 1, 0, 0, 0, 0) from xlk (by decide +kernel)) rfl rfl ?_
    refine xw_getr (q := 19) (show xlook 32 12 = some (12, .getfield 15, 3, 5, 4, 0, 45) from xlk (by decide +kernel)) (by decide) (xobf xob_5 (by decide) (by decide)) rfl (xPT_get (k := 4) (f := 1) hPT xob_5 (by decide)) (by have := (xtg_5_4 _ xob_5.1 xob_5.2).1.1; omega) (n := 15) rfl ?_
    refine xw_aload_n (n := 16) (show xlook 32 15 = some (15, .aload_n 0, 1, 0, 0, 0, 0) from xlk (by decide +kernel)) rfl rfl ?_
    refine xw_geti (show xlook 32 16 = some (16, .getfield 50, 3, 5, 11, 0, 52) from xlk (by decide +kernel)) (by decide) (xobf xob_5 (by decide) (by decide)) rfl (n := 19) rfl ?_
    obtain ⟨q1, t⟩ := t
    refine xw_iald (show xlook 32 19 = some (19, .iaload, 1, 0, 0, 0, 0) from xlk (by decide +kernel)) (xtg_5_4 _ xob_5.1 xob_5.2).1 (by rw [(xtg_5_4 _ xob_5.1 xob_5.2).2]; exact q1) (n := 20) rfl ?_
    refine xw_bipush (n := 22) (show xlook 32 20 = some (20, .bipush 32, 2, 0, 0, 0, 0) from xlk (by decide +kernel)) rfl (by decide) ?_
    obtain ⟨q0, t⟩ := t
    refine xw_icmp_ne (n := 25) (m := 38) (show xlook 32 22 = some (22, .if_icmp .ne 16, 3, 38, 0, 0, 0) from xlk (by decide +kernel)) rfl rfl q0 ⟨by decide, by decide⟩ ⟨fun c => ?_, fun c => ?_⟩
    · replace t := t.1 c
      exact t hPT
    · replace t := t.2 c
      refine xw_aload_n (n := 26) (show xlook 32 25 = some (25, .aload_n 0, 1, 0, 0, 0, 0) from xlk (by decide +kernel)) rfl rfl ?_
      refine xw_dupr (n := 27) (show xlook 32 26 = some (26, .dup, 1, 0, 0, 0, 0) from xlk (by decide +kernel)) rfl ?_
      refine xw_geti (show xlook 32 27 = some (27, .getfield 50, 3, 5, 11, 0, 52) from xlk (by decide +kernel)) (by decide) (xobf xob_5 (by decide) (by decide)) rfl (n := 30) rfl ?_
      refine xw_iconst (n := 31) (show xlook 32 30 = some (30, .iconst 1, 1, 0, 0, 0, 0) from xlk (by decide +kernel)) rfl ?_
      refine xw_iadd (n := 32) (show xlook 32 31 = some (31, .iadd, 1, 0, 0, 0, 0) from xlk (by decide +kernel)) rfl ?_
      refine xw_puti (show xlook 32 32 = some (32, .putfield 50, 3, 5, 11, 0, 52) from xlk (by decide +kernel)) (xobf xob_5 (by decide) (by decide)) rfl (n := 35) rfl ?_
      refine xw_goto (m := 0) (show xlook 32 35 = some (35, .goto (-35), 3, 0, 0, 0, 0) from xlk (by decide +kernel)) rfl ?_
      exact t (xPT_fld (k := 11) hPT xob_5 (by decide) (by decide))
theorem m32 {X : List Int32} {d : Nat} {F : XF} {Q : XF → Prop}  (hPT : xPT F)  (t : inR ((F) (18) 11) ∧ inR ((F) (18) 6) ∧ (((((F) (18) 6) ≤ ((F) (18) 11)) → (xPT (F) → xW X d 32 38 [.ref (18)] [] (F) (xqv Q))) ∧ (¬ (((F) (18) 6) ≤ ((F) (18) 11)) → ((0 ≤ ((F) (18) 11) ∧ ((F) (18) 11) < 600) ∧ (inR ((F) (19) ((F) (18) 11)) ∧ (((¬ ((F) (19) ((F) (18) 11)) = (32)) → (xPT (F) → xW X d 32 38 [.ref (18)] [] (F) (xqv Q))) ∧ (¬ (¬ ((F) (19) ((F) (18) 11)) = (32)) → (xPT (xup (F) (18) 11 (((F) (18) 11) + (1))) → xW X d 32 0 [.ref (18)] [] (xup (F) (18) 11 (((F) (18) 11) + (1))) (xqv Q))))))))) : xMV X d 32 [.ref (18)] F Q := by
  show xW X d 32 0 [.ref (18)] [] F (xqv Q)
  exact s32_0 hPT  t

theorem s32_38 {X : List Int32} {d : Nat} {F : XF} {Q : XF → Prop}  (hPT : xPT F)  (t : inR ((F) (18) 11) ∧ inR ((F) (18) 6) ∧ (((((F) (18) 11) < ((F) (18) 6)) → ((0 ≤ ((F) (18) 11) ∧ ((F) (18) 11) < 600) ∧ (∃ (j1 : Nat), j1 < d ∧ xMI X j1 33 [vi ((F) (19) ((F) (18) 11))] (xup (xup (F) (18) 9 ((F) (18) 11)) (18) 10 (0)) (fun (y1 : Int) (G1 : XF) => (inR (y1) ∧ ((((y1) = (0)) → ((0 ≤ ((G1) (18) 11) ∧ ((G1) (18) 11) < 600) ∧ (∃ (j2 : Nat), j2 < d ∧ xMI X j2 34 [vi ((G1) (19) ((G1) (18) 11))] (G1) (fun (y2 : Int) (G2 : XF) => (inR (y2) ∧ ((((y2) = (0)) → ((0 ≤ ((G2) (18) 11) ∧ ((G2) (18) 11) < 600) ∧ (xPT (xup (xup (xup (G2) (18) 8 (3)) (18) 10 ((G2) (19) ((G2) (18) 11))) (18) 11 (((G2) (18) 11) + (1))) → Q (xup (xup (xup (G2) (18) 8 (3)) (18) 10 ((G2) (19) ((G2) (18) 11))) (18) 11 (((G2) (18) 11) + (1)))))) ∧ (¬ ((y2) = (0)) → (xPT (xup (G2) (18) 8 (2)) → xW X d 32 186 [.ref (18)] [] (xup (G2) (18) 8 (2)) (xqv Q))))))))) ∧ (¬ ((y1) = (0)) → (xPT (xup (G1) (18) 8 (1)) → xW X d 32 90 [.ref (18)] [] (xup (G1) (18) 8 (1)) (xqv Q))))))))) ∧ (¬ (((F) (18) 11) < ((F) (18) 6)) → (xPT (xup (xup (xup (F) (18) 9 ((F) (18) 11)) (18) 10 (0)) (18) 8 (0)) → Q (xup (xup (xup (F) (18) 9 ((F) (18) 11)) (18) 10 (0)) (18) 8 (0)))))) : xW X d 32 38 [.ref (18)] [] F (xqv Q) := by
  refine xw_aload_n (n := 39) (show xlook 32 38 = some (38, .aload_n 0, 1, 0, 0, 0, 0) from xlk (by decide +kernel)) rfl rfl ?_
  refine xw_aload_n (n := 40) (show xlook 32 39 = some (39, .aload_n 0, 1, 0, 0, 0, 0) from xlk (by decide +kernel)) rfl rfl ?_
  refine xw_geti (show xlook 32 40 = some (40, .getfield 50, 3, 5, 11, 0, 52) from xlk (by decide +kernel)) (by decide) (xobf xob_5 (by decide) (by decide)) rfl (n := 43) rfl ?_
  refine xw_puti (show xlook 32 43 = some (43, .putfield 62, 3, 5, 9, 0, 54) from xlk (by decide +kernel)) (xobf xob_5 (by decide) (by decide)) rfl (n := 46) rfl ?_
  refine xw_aload_n (n := 47) (show xlook 32 46 = some (46, .aload_n 0, 1, 0, 0, 0, 0) from xlk (by decide +kernel)) rfl rfl ?_
  refine xw_iconst (n := 48) (show xlook 32 47 = some (47, .iconst 0, 1, 0, 0, 0, 0) from xlk (by decide +kernel)) rfl ?_
  refine xw_puti (show xlook 32 48 = some (48, .putfield 65, 3, 5, 10, 0, 55) from xlk (by decide +kernel)) (xobf xob_5 (by decide) (by decide)) rfl (n := 51) rfl ?_
  refine xw_aload_n (n := 52) (show xlook 32 51 = some (51, .aload_n 0, 1, 0, 0, 0, 0) from xlk (by decide +kernel)) rfl rfl ?_
  refine xw_geti2 (u := (F) (18) 11) (show xlook 32 52 = some (52, .getfield 50, 3, 5, 11, 0, 52) from xlk (by decide +kernel)) (by decide) (xobf xob_5 (by decide) (by decide)) rfl ((xup_i (by decide)).trans (xup_i (by decide))) (n := 55) rfl ?_
  refine xw_aload_n (n := 56) (show xlook 32 55 = some (55, .aload_n 0, 1, 0, 0, 0, 0) from xlk (by decide +kernel)) rfl rfl ?_
  refine xw_geti2 (u := (F) (18) 6) (show xlook 32 56 = some (56, .getfield 35, 3, 5, 6, 0, 48) from xlk (by decide +kernel)) (by decide) (xobf xob_5 (by decide) (by decide)) rfl ((xup_i (by decide)).trans (xup_i (by decide))) (n := 59) rfl ?_
  obtain ⟨q0, q1, t⟩ := t
  refine xw_icmp_lt (n := 62) (m := 70) (show xlook 32 59 = some (59, .if_icmp .lt 11, 3, 70, 0, 0, 0) from xlk (by decide +kernel)) rfl rfl q0 q1 ⟨fun c => ?_, fun c => ?_⟩
  · replace t := t.1 c
    refine xw_aload_n (n := 71) (show xlook 32 70 = some (70, .aload_n 0, 1, 0, 0, 0, 0) from xlk (by decide +kernel)) rfl rfl ?_
    refine xw_getr (q := 19) (show xlook 32 71 = some (71, .getfield 15, 3, 5, 4, 0, 45) from xlk (by decide +kernel)) (by decide) (xobf xob_5 (by decide) (by decide)) rfl (xPT_get (k := 4) (f := 1) (xPT_fld (k := 10) (xPT_fld (k := 9) hPT xob_5 (by decide) (by decide)) xob_5 (by decide) (by decide)) xob_5 (by decide)) (by have := (xtg_5_4 _ xob_5.1 xob_5.2).1.1; omega) (n := 74) rfl ?_
    refine xw_aload_n (n := 75) (show xlook 32 74 = some (74, .aload_n 0, 1, 0, 0, 0, 0) from xlk (by decide +kernel)) rfl rfl ?_
    refine xw_geti2 (u := (F) (18) 11) (show xlook 32 75 = some (75, .getfield 50, 3, 5, 11, 0, 52) from xlk (by decide +kernel)) (by decide) (xobf xob_5 (by decide) (by decide)) rfl ((xup_i (by decide)).trans (xup_i (by decide))) (n := 78) rfl ?_
    obtain ⟨q1, t⟩ := t
    refine xw_iald2 (u := (F) (19) ((F) (18) 11)) (show xlook 32 78 = some (78, .iaload, 1, 0, 0, 0, 0) from xlk (by decide +kernel)) (xtg_5_4 _ xob_5.1 xob_5.2).1 (by rw [(xtg_5_4 _ xob_5.1 xob_5.2).2]; exact q1) ((xup_o (by decide)).trans (xup_o (by decide))) (n := 79) rfl ?_
    obtain ⟨j1, hj1, rr1, G1, hm1, hG1, t⟩ := t
    obtain ⟨y1, rfl, t⟩ := t
    refine xw_calls (dk := j1) (as := [vi ((F) (19) ((F) (18) 11))]) (show xlook 32 79 = some (79, .invokestatic 68, 3, 33, 1, 0, 32) from xlk (by decide +kernel)) (by decide) hj1 ⟨Nat.le_of_ble_eq_true rfl, Nat.le_of_ble_eq_true rfl, Nat.le_of_ble_eq_true rfl, by decide⟩ rfl hm1 (n := 82) rfl ?_
    show xW X d 32 82 [.ref (18)] [vi (y1)] G1 (xqv Q)
    obtain ⟨q0, t⟩ := t
    refine xw_if_eq (n := 85) (m := 166) (show xlook 32 82 = some (82, .ifCond .eq 84, 3, 166, 0, 0, 0) from xlk (by decide +kernel)) rfl rfl q0 ⟨fun c => ?_, fun c => ?_⟩
    · replace t := t.1 c
      refine xw_aload_n (n := 167) (show xlook 32 166 = some (166, .aload_n 0, 1, 0, 0, 0, 0) from xlk (by decide +kernel)) rfl rfl ?_
      refine xw_getr (q := 19) (show xlook 32 167 = some (167, .getfield 15, 3, 5, 4, 0, 45) from xlk (by decide +kernel)) (by decide) (xobf xob_5 (by decide) (by decide)) rfl (xPT_get (k := 4) (f := 1) hG1 xob_5 (by decide)) (by have := (xtg_5_4 _ xob_5.1 xob_5.2).1.1; omega) (n := 170) rfl ?_
      refine xw_aload_n (n := 171) (show xlook 32 170 = some (170, .aload_n 0, 1, 0, 0, 0, 0) from xlk (by decide +kernel)) rfl rfl ?_
      refine xw_geti (show xlook 32 171 = some (171, .getfield 50, 3, 5, 11, 0, 52) from xlk (by decide +kernel)) (by decide) (xobf xob_5 (by decide) (by decide)) rfl (n := 174) rfl ?_
      obtain ⟨q1, t⟩ := t
      refine xw_iald (show xlook 32 174 = some (174, .iaload, 1, 0, 0, 0, 0) from xlk (by decide +kernel)) (xtg_5_4 _ xob_5.1 xob_5.2).1 (by rw [(xtg_5_4 _ xob_5.1 xob_5.2).2]; exact q1) (n := 175) rfl ?_
      obtain ⟨j2, hj2, rr2, G2, hm2, hG2, t⟩ := t
      obtain ⟨y2, rfl, t⟩ := t
      refine xw_calls (dk := j2) (as := [vi ((G1) (19) ((G1) (18) 11))]) (show xlook 32 175 = some (175, .invokestatic 72, 3, 34, 1, 0, 33) from xlk (by decide +kernel)) (by decide) hj2 ⟨Nat.le_of_ble_eq_true rfl, Nat.le_of_ble_eq_true rfl, Nat.le_of_ble_eq_true rfl, by decide⟩ rfl hm2 (n := 178) rfl ?_
      show xW X d 32 178 [.ref (18)] [vi (y2)] G2 (xqv Q)
      obtain ⟨q0, t⟩ := t
      refine xw_if_eq (n := 181) (m := 225) (show xlook 32 178 = some (178, .ifCond .eq 47, 3, 225, 0, 0, 0) from xlk (by decide +kernel)) rfl rfl q0 ⟨fun c => ?_, fun c => ?_⟩
      · replace t := t.1 c
        refine xw_aload_n (n := 226) (show xlook 32 225 = some (225, .aload_n 0, 1, 0, 0, 0, 0) from xlk (by decide +kernel)) rfl rfl ?_
        refine xw_iconst (n := 227) (show xlook 32 226 = some (226, .iconst 3, 1, 0, 0, 0, 0) from xlk (by decide +kernel)) rfl ?_
        refine xw_puti (show xlook 32 227 = some (227, .putfield 56, 3, 5, 8, 0, 53) from xlk (by decide +kernel)) (xobf xob_5 (by decide) (by decide)) rfl (n := 230) rfl ?_
        refine xw_aload_n (n := 231) (show xlook 32 230 = some (230, .aload_n 0, 1, 0, 0, 0, 0) from xlk (by decide +kernel)) rfl rfl ?_
        refine xw_aload_n (n := 232) (show xlook 32 231 = some (231, .aload_n 0, 1, 0, 0, 0, 0) from xlk (by decide +kernel)) rfl rfl ?_
        refine xw_getr (q := 19) (show xlook 32 232 = some (232, .getfield 15, 3, 5, 4, 0, 45) from xlk (by decide +kernel)) (by decide) (xobf xob_5 (by decide) (by decide)) rfl (xPT_get (k := 4) (f := 1) (xPT_fld (k := 8) hG2 xob_5 (by decide) (by decide)) xob_5 (by decide)) (by have := (xtg_5_4 _ xob_5.1 xob_5.2).1.1; omega) (n := 235) rfl ?_
        refine xw_aload_n (n := 236) (show xlook 32 235 = some (235, .aload_n 0, 1, 0, 0, 0, 0) from xlk (by decide +kernel)) rfl rfl ?_
        refine xw_geti2 (u := (G2) (18) 11) (show xlook 32 236 = some (236, .getfield 50, 3, 5, 11, 0, 52) from xlk (by decide +kernel)) (by decide) (xobf xob_5 (by decide) (by decide)) rfl (xup_i (by decide)) (n := 239) rfl ?_
        obtain ⟨q1, t⟩ := t
        refine xw_iald2 (u := (G2) (19) ((G2) (18) 11)) (show xlook 32 239 = some (239, .iaload, 1, 0, 0, 0, 0) from xlk (by decide +kernel)) (xtg_5_4 _ xob_5.1 xob_5.2).1 (by rw [(xtg_5_4 _ xob_5.1 xob_5.2).2]; exact q1) (xup_o (by decide)) (n := 240) rfl ?_
        refine xw_puti (show xlook 32 240 = some (240, .putfield 65, 3, 5, 10, 0, 55) from xlk (by decide +kernel)) (xobf xob_5 (by decide) (by decide)) rfl (n := 243) rfl ?_
        refine xw_aload_n (n := 244) (show xlook 32 243 = some (243, .aload_n 0, 1, 0, 0, 0, 0) from xlk (by decide +kernel)) rfl rfl ?_
        refine xw_dupr (n := 245) (show xlook 32 244 = some (244, .dup, 1, 0, 0, 0, 0) from xlk (by decide +kernel)) rfl ?_
        refine xw_geti2 (u := (G2) (18) 11) (show xlook 32 245 = some (245, .getfield 50, 3, 5, 11, 0, 52) from xlk (by decide +kernel)) (by decide) (xobf xob_5 (by decide) (by decide)) rfl ((xup_i (by decide)).trans (xup_i (by decide))) (n := 248) rfl ?_
        refine xw_iconst (n := 249) (show xlook 32 248 = some (248, .iconst 1, 1, 0, 0, 0, 0) from xlk (by decide +kernel)) rfl ?_
        refine xw_iadd (n := 250) (show xlook 32 249 = some (249, .iadd, 1, 0, 0, 0, 0) from xlk (by decide +kernel)) rfl ?_
        refine xw_puti (show xlook 32 250 = some (250, .putfield 50, 3, 5, 11, 0, 52) from xlk (by decide +kernel)) (xobf xob_5 (by decide) (by decide)) rfl (n := 253) rfl ?_
        exact xw_return (xPT_fld (k := 11) (xPT_fld (k := 10) (xPT_fld (k := 8) hG2 xob_5 (by decide) (by decide)) xob_5 (by decide) (by decide)) xob_5 (by decide) (by decide)) (show xlook 32 253 = some (253, .return_, 1, 0, 0, 0, 0) from xlk (by decide +kernel)) rfl (t (xPT_fld (k := 11) (xPT_fld (k := 10) (xPT_fld (k := 8) hG2 xob_5 (by decide) (by decide)) xob_5 (by decide) (by decide)) xob_5 (by decide) (by decide)))
      · replace t := t.2 c
        refine xw_aload_n (n := 182) (show xlook 32 181 = some (181, .aload_n 0, 1, 0, 0, 0, 0) from xlk (by decide +kernel)) rfl rfl ?_
        refine xw_iconst (n := 183) (show xlook 32 182 = some (182, .iconst 2, 1, 0, 0, 0, 0) from xlk (by decide +kernel)) rfl ?_
        refine xw_puti (show xlook 32 183 = some (183, .putfield 56, 3, 5, 8, 0, 53) from xlk (by decide +kernel)) (xobf xob_5 (by decide) (by decide)) rfl (n := 186) rfl ?_
        exact t (xPT_fld (k := 8) hG2 xob_5 (by decide) (by decide))
    · replace t := t.2 c
      refine xw_aload_n (n := 86) (show xlook 32 85 = some (85, .aload_n 0, 1, 0, 0, 0, 0) from xlk (by decide +kernel)) rfl rfl ?_
      refine xw_iconst (n := 87) (show xlook 32 86 = some (86, .iconst 1, 1, 0, 0, 0, 0) from xlk (by decide +kernel)) rfl ?_
      refine xw_puti (show xlook 32 87 = some (87, .putfield 56, 3, 5, 8, 0, 53) from xlk (by decide +kernel)) (xobf xob_5 (by decide) (by decide)) rfl (n := 90) rfl ?_
      exact t (xPT_fld (k := 8) hG1 xob_5 (by decide) (by decide))
  · replace t := t.2 c
    refine xw_aload_n (n := 63) (show xlook 32 62 = some (62, .aload_n 0, 1, 0, 0, 0, 0) from xlk (by decide +kernel)) rfl rfl ?_
    refine xw_iconst (n := 64) (show xlook 32 63 = some (63, .iconst 0, 1, 0, 0, 0, 0) from xlk (by decide +kernel)) rfl ?_
    refine xw_puti (show xlook 32 64 = some (64, .putfield 56, 3, 5, 8, 0, 53) from xlk (by decide +kernel)) (xobf xob_5 (by decide) (by decide)) rfl (n := 67) rfl ?_
    refine xw_goto (m := 253) (show xlook 32 67 = some (67, .goto 186, 3, 253, 0, 0, 0) from xlk (by decide +kernel)) rfl ?_
    exact xw_return (xPT_fld (k := 8) (xPT_fld (k := 10) (xPT_fld (k := 9) hPT xob_5 (by decide) (by decide)) xob_5 (by decide) (by decide)) xob_5 (by decide) (by decide)) (show xlook 32 253 = some (253, .return_, 1, 0, 0, 0, 0) from xlk (by decide +kernel)) rfl (t (xPT_fld (k := 8) (xPT_fld (k := 10) (xPT_fld (k := 9) hPT xob_5 (by decide) (by decide)) xob_5 (by decide) (by decide)) xob_5 (by decide) (by decide)))

theorem s32_90 {X : List Int32} {d : Nat} {F : XF} {Q : XF → Prop}  (hPT : xPT F)  (t : inR ((F) (18) 11) ∧ inR ((F) (18) 6) ∧ (((((F) (18) 6) ≤ ((F) (18) 11)) → (xPT (F) → Q (F))) ∧ (¬ (((F) (18) 6) ≤ ((F) (18) 11)) → ((0 ≤ ((F) (18) 11) ∧ ((F) (18) 11) < 600) ∧ (∃ (j1 : Nat), j1 < d ∧ xMI X j1 33 [vi ((F) (19) ((F) (18) 11))] (F) (fun (y1 : Int) (G1 : XF) => (inR (y1) ∧ ((((y1) = (0)) → (xPT (G1) → Q (G1))) ∧ (¬ ((y1) = (0)) → (inR (((G1) (18) 11) - ((G1) (18) 9)) ∧ ((((4) ≤ (((G1) (18) 11) - ((G1) (18) 9))) → (xPT (xup (G1) (18) 11 (((G1) (18) 11) + (1))) → xW X d 32 90 [.ref (18)] [] (xup (G1) (18) 11 (((G1) (18) 11) + (1))) (xqv Q))) ∧ (¬ ((4) ≤ (((G1) (18) 11) - ((G1) (18) 9))) → ((0 ≤ ((G1) (18) 11) ∧ ((G1) (18) 11) < 600) ∧ (xPT (xup (xup (G1) (18) 10 (((((G1) (18) 10) * (10)) + ((G1) (19) ((G1) (18) 11))) - (48))) (18) 11 (((G1) (18) 11) + (1))) → xW X d 32 90 [.ref (18)] [] (xup (xup (G1) (18) 10 (((((G1) (18) 10) * (10)) + ((G1) (19) ((G1) (18) 11))) - (48))) (18) 11 (((G1) (18) 11) + (1))) (xqv Q))))))))))))))) : xW X d 32 90 [.ref (18)] [] F (xqv Q) := by
  refine xw_aload_n (n := 91) (show xlook 32 90 = some (90, .aload_n 0, 1, 0, 0, 0, 0) from xlk (by decide +kernel)) rfl rfl ?_
  refine xw_geti (show xlook 32 91 = some (91, .getfield 50, 3, 5, 11, 0, 52) from xlk (by decide +kernel)) (by decide) (xobf xob_5 (by decide) (by decide)) rfl (n := 94) rfl ?_
  refine xw_aload_n (n := 95) (show xlook 32 94 = some (94, .aload_n 0, 1, 0, 0, 0, 0) from xlk (by decide +kernel)) rfl rfl ?_
  refine xw_geti (show xlook 32 95 = some (95, .getfield 35, 3, 5, 6, 0, 48) from xlk (by decide +kernel)) (by decide) (xobf xob_5 (by decide) (by decide)) rfl (n := 98) rfl ?_
  obtain ⟨q0, q1, t⟩ := t
  refine xw_icmp_ge (n := 101) (m := 253) (show xlook 32 98 = some (98, .if_icmp .ge 155, 3, 253, 0, 0, 0) from xlk (by decide +kernel)) rfl rfl q0 q1 ⟨fun c => ?_, fun c => ?_⟩
  · replace t := t.1 c
    exact xw_return hPT (show xlook 32 253 = some (253, .return_, 1, 0, 0, 0, 0) from xlk (by decide +kernel)) rfl (t hPT)
  · replace t := t.2 c
    refine xw_aload_n (n := 102) (show xlook 32 101 = some (101, .aload_n 0, 1, 0, 0, 0, 0) from xlk (by decide +kernel)) rfl rfl ?_
    refine xw_getr (q := 19) (show xlook 32 102 = some (102, .getfield 15, 3, 5, 4, 0, 45) from xlk (by decide +kernel)) (by decide) (xobf xob_5 (by decide) (by decide)) rfl (xPT_get (k := 4) (f := 1) hPT xob_5 (by decide)) (by have := (xtg_5_4 _ xob_5.1 xob_5.2).1.1; omega) (n := 105) rfl ?_
    refine xw_aload_n (n := 106) (show xlook 32 105 = some (105, .aload_n 0, 1, 0, 0, 0, 0) from xlk (by decide +kernel)) rfl rfl ?_
    refine xw_geti (show xlook 32 106 = some (106, .getfield 50, 3, 5, 11, 0, 52) from xlk (by decide +kernel)) (by decide) (xobf xob_5 (by decide) (by decide)) rfl (n := 109) rfl ?_
    obtain ⟨q1, t⟩ := t
    refine xw_iald (show xlook 32 109 = some (109, .iaload, 1, 0, 0, 0, 0) from xlk (by decide +kernel)) (xtg_5_4 _ xob_5.1 xob_5.2).1 (by rw [(xtg_5_4 _ xob_5.1 xob_5.2).2]; exact q1) (n := 110) rfl ?_
    obtain ⟨j1, hj1, rr1, G1, hm1, hG1, t⟩ := t
    obtain ⟨y1, rfl, t⟩ := t
    refine xw_calls (dk := j1) (as := [vi ((F) (19) ((F) (18) 11))]) (show xlook 32 110 = some (110, .invokestatic 68, 3, 33, 1, 0, 32) from xlk (by decide +kernel)) (by decide) hj1 ⟨Nat.le_of_ble_eq_true rfl, Nat.le_of_ble_eq_true rfl, Nat.le_of_ble_eq_true rfl, by decide⟩ rfl hm1 (n := 113) rfl ?_
    show xW X d 32 113 [.ref (18)] [vi (y1)] G1 (xqv Q)
    obtain ⟨q0, t⟩ := t
    refine xw_if_eq (n := 116) (m := 253) (show xlook 32 113 = some (113, .ifCond .eq 140, 3, 253, 0, 0, 0) from xlk (by decide +kernel)) rfl rfl q0 ⟨fun c => ?_, fun c => ?_⟩
    · replace t := t.1 c
      exact xw_return hG1 (show xlook 32 253 = some (253, .return_, 1, 0, 0, 0, 0) from xlk (by decide +kernel)) rfl (t hG1)
    · replace t := t.2 c
      refine xw_aload_n (n := 117) (show xlook 32 116 = some (116, .aload_n 0, 1, 0, 0, 0, 0) from xlk (by decide +kernel)) rfl rfl ?_
      refine xw_geti (show xlook 32 117 = some (117, .getfield 50, 3, 5, 11, 0, 52) from xlk (by decide +kernel)) (by decide) (xobf xob_5 (by decide) (by decide)) rfl (n := 120) rfl ?_
      refine xw_aload_n (n := 121) (show xlook 32 120 = some (120, .aload_n 0, 1, 0, 0, 0, 0) from xlk (by decide +kernel)) rfl rfl ?_
      refine xw_geti (show xlook 32 121 = some (121, .getfield 62, 3, 5, 9, 0, 54) from xlk (by decide +kernel)) (by decide) (xobf xob_5 (by decide) (by decide)) rfl (n := 124) rfl ?_
      refine xw_isub (n := 125) (show xlook 32 124 = some (124, .isub, 1, 0, 0, 0, 0) from xlk (by decide +kernel)) rfl ?_
      refine xw_iconst (n := 126) (show xlook 32 125 = some (125, .iconst 4, 1, 0, 0, 0, 0) from xlk (by decide +kernel)) rfl ?_
      obtain ⟨q0, t⟩ := t
      refine xw_icmp_ge (n := 129) (m := 153) (show xlook 32 126 = some (126, .if_icmp .ge 27, 3, 153, 0, 0, 0) from xlk (by decide +kernel)) rfl rfl q0 ⟨by decide, by decide⟩ ⟨fun c => ?_, fun c => ?_⟩
      · replace t := t.1 c
        refine xw_aload_n (n := 154) (show xlook 32 153 = some (153, .aload_n 0, 1, 0, 0, 0, 0) from xlk (by decide +kernel)) rfl rfl ?_
        refine xw_dupr (n := 155) (show xlook 32 154 = some (154, .dup, 1, 0, 0, 0, 0) from xlk (by decide +kernel)) rfl ?_
        refine xw_geti (show xlook 32 155 = some (155, .getfield 50, 3, 5, 11, 0, 52) from xlk (by decide +kernel)) (by decide) (xobf xob_5 (by decide) (by decide)) rfl (n := 158) rfl ?_
        refine xw_iconst (n := 159) (show xlook 32 158 = some (158, .iconst 1, 1, 0, 0, 0, 0) from xlk (by decide +kernel)) rfl ?_
        refine xw_iadd (n := 160) (show xlook 32 159 = some (159, .iadd, 1, 0, 0, 0, 0) from xlk (by decide +kernel)) rfl ?_
        refine xw_puti (show xlook 32 160 = some (160, .putfield 50, 3, 5, 11, 0, 52) from xlk (by decide +kernel)) (xobf xob_5 (by decide) (by decide)) rfl (n := 163) rfl ?_
        refine xw_goto (m := 90) (show xlook 32 163 = some (163, .goto (-73), 3, 90, 0, 0, 0) from xlk (by decide +kernel)) rfl ?_
        exact t (xPT_fld (k := 11) hG1 xob_5 (by decide) (by decide))
      · replace t := t.2 c
        refine xw_aload_n (n := 130) (show xlook 32 129 = some (129, .aload_n 0, 1, 0, 0, 0, 0) from xlk (by decide +kernel)) rfl rfl ?_
        refine xw_aload_n (n := 131) (show xlook 32 130 = some (130, .aload_n 0, 1, 0, 0, 0, 0) from xlk (by decide +kernel)) rfl rfl ?_
        refine xw_geti (show xlook 32 131 = some (131, .getfield 65, 3, 5, 10, 0, 55) from xlk (by decide +kernel)) (by decide) (xobf xob_5 (by decide) (by decide)) rfl (n := 134) rfl ?_
        refine xw_bipush (n := 136) (show xlook 32 134 = some (134, .bipush 10, 2, 0, 0, 0, 0) from xlk (by decide +kernel)) rfl (by decide) ?_
        refine xw_imul (n := 137) (show xlook 32 136 = some (136, .imul, 1, 0, 0, 0, 0) from xlk (by decide +kernel)) rfl ?_
        refine xw_aload_n (n := 138) (show xlook 32 137 = some (137, .aload_n 0, 1, 0, 0, 0, 0) from xlk (by decide +kernel)) rfl rfl ?_
        refine xw_getr (q := 19) (show xlook 32 138 = some (138, .getfield 15, 3, 5, 4, 0, 45) from xlk (by decide +kernel)) (by decide) (xobf xob_5 (by decide) (by decide)) rfl (xPT_get (k := 4) (f := 1) hG1 xob_5 (by decide)) (by have := (xtg_5_4 _ xob_5.1 xob_5.2).1.1; omega) (n := 141) rfl ?_
        refine xw_aload_n (n := 142) (show xlook 32 141 = some (141, .aload_n 0, 1, 0, 0, 0, 0) from xlk (by decide +kernel)) rfl rfl ?_
        refine xw_geti (show xlook 32 142 = some (142, .getfield 50, 3, 5, 11, 0, 52) from xlk (by decide +kernel)) (by decide) (xobf xob_5 (by decide) (by decide)) rfl (n := 145) rfl ?_
        obtain ⟨q1, t⟩ := t
        refine xw_iald (show xlook 32 145 = some (145, .iaload, 1, 0, 0, 0, 0) from xlk (by decide +kernel)) (xtg_5_4 _ xob_5.1 xob_5.2).1 (by rw [(xtg_5_4 _ xob_5.1 xob_5.2).2]; exact q1) (n := 146) rfl ?_
        refine xw_iadd (n := 147) (show xlook 32 146 = some (146, .iadd, 1, 0, 0, 0, 0) from xlk (by decide +kernel)) rfl ?_
        refine xw_bipush (n := 149) (show xlook 32 147 = some (147, .bipush 48, 2, 0, 0, 0, 0) from xlk (by decide +kernel)) rfl (by decide) ?_
        refine xw_isub (n := 150) (show xlook 32 149 = some (149, .isub, 1, 0, 0, 0, 0) from xlk (by decide +kernel)) rfl ?_
        refine xw_puti (show xlook 32 150 = some (150, .putfield 65, 3, 5, 10, 0, 55) from xlk (by decide +kernel)) (xobf xob_5 (by decide) (by decide)) rfl (n := 153) rfl ?_
        refine xw_aload_n (n := 154) (show xlook 32 153 = some (153, .aload_n 0, 1, 0, 0, 0, 0) from xlk (by decide +kernel)) rfl rfl ?_
        refine xw_dupr (n := 155) (show xlook 32 154 = some (154, .dup, 1, 0, 0, 0, 0) from xlk (by decide +kernel)) rfl ?_
        refine xw_geti2 (u := (G1) (18) 11) (show xlook 32 155 = some (155, .getfield 50, 3, 5, 11, 0, 52) from xlk (by decide +kernel)) (by decide) (xobf xob_5 (by decide) (by decide)) rfl (xup_i (by decide)) (n := 158) rfl ?_
        refine xw_iconst (n := 159) (show xlook 32 158 = some (158, .iconst 1, 1, 0, 0, 0, 0) from xlk (by decide +kernel)) rfl ?_
        refine xw_iadd (n := 160) (show xlook 32 159 = some (159, .iadd, 1, 0, 0, 0, 0) from xlk (by decide +kernel)) rfl ?_
        refine xw_puti (show xlook 32 160 = some (160, .putfield 50, 3, 5, 11, 0, 52) from xlk (by decide +kernel)) (xobf xob_5 (by decide) (by decide)) rfl (n := 163) rfl ?_
        refine xw_goto (m := 90) (show xlook 32 163 = some (163, .goto (-73), 3, 90, 0, 0, 0) from xlk (by decide +kernel)) rfl ?_
        exact t (xPT_fld (k := 11) (xPT_fld (k := 10) hG1 xob_5 (by decide) (by decide)) xob_5 (by decide) (by decide))

theorem s32_186 {X : List Int32} {d : Nat} {F : XF} {Q : XF → Prop}  (hPT : xPT F)  (t : inR ((F) (18) 11) ∧ inR ((F) (18) 6) ∧ (((((F) (18) 6) ≤ ((F) (18) 11)) → (xPT (F) → Q (F))) ∧ (¬ (((F) (18) 6) ≤ ((F) (18) 11)) → ((0 ≤ ((F) (18) 11) ∧ ((F) (18) 11) < 600) ∧ (∃ (j1 : Nat), j1 < d ∧ xMI X j1 34 [vi ((F) (19) ((F) (18) 11))] (F) (fun (y1 : Int) (G1 : XF) => (inR (y1) ∧ ((((y1) = (0)) → (xPT (G1) → Q (G1))) ∧ (¬ ((y1) = (0)) → (xPT (xup (G1) (18) 11 (((G1) (18) 11) + (1))) → xW X d 32 186 [.ref (18)] [] (xup (G1) (18) 11 (((G1) (18) 11) + (1))) (xqv Q))))))))))) : xW X d 32 186 [.ref (18)] [] F (xqv Q) := by
  refine xw_aload_n (n := 187) (show xlook 32 186 = some (186, .aload_n 0, 1, 0, 0, 0, 0) from xlk (by decide +kernel)) rfl rfl ?_
  refine xw_geti (show xlook 32 187 = some (187, .getfield 50, 3, 5, 11, 0, 52) from xlk (by decide +kernel)) (by decide) (xobf xob_5 (by decide) (by decide)) rfl (n := 190) rfl ?_
  refine xw_aload_n (n := 191) (show xlook 32 190 = some (190, .aload_n 0, 1, 0, 0, 0, 0) from xlk (by decide +kernel)) rfl rfl ?_
  refine xw_geti (show xlook 32 191 = some (191, .getfield 35, 3, 5, 6, 0, 48) from xlk (by decide +kernel)) (by decide) (xobf xob_5 (by decide) (by decide)) rfl (n := 194) rfl ?_
  obtain ⟨q0, q1, t⟩ := t
  refine xw_icmp_ge (n := 197) (m := 253) (show xlook 32 194 = some (194, .if_icmp .ge 59, 3, 253, 0, 0, 0) from xlk (by decide +kernel)) rfl rfl q0 q1 ⟨fun c => ?_, fun c => ?_⟩
  · replace t := t.1 c
    exact xw_return hPT (show xlook 32 253 = some (253, .return_, 1, 0, 0, 0, 0) from xlk (by decide +kernel)) rfl (t hPT)
  · replace t := t.2 c
    refine xw_aload_n (n := 198) (show xlook 32 197 = some (197, .aload_n 0, 1, 0, 0, 0, 0) from xlk (by decide +kernel)) rfl rfl ?_
    refine xw_getr (q := 19) (show xlook 32 198 = some (198, .getfield 15, 3, 5, 4, 0, 45) from xlk (by decide +kernel)) (by decide) (xobf xob_5 (by decide) (by decide)) rfl (xPT_get (k := 4) (f := 1) hPT xob_5 (by decide)) (by have := (xtg_5_4 _ xob_5.1 xob_5.2).1.1; omega) (n := 201) rfl ?_
    refine xw_aload_n (n := 202) (show xlook 32 201 = some (201, .aload_n 0, 1, 0, 0, 0, 0) from xlk (by decide +kernel)) rfl rfl ?_
    refine xw_geti (show xlook 32 202 = some (202, .getfield 50, 3, 5, 11, 0, 52) from xlk (by decide +kernel)) (by decide) (xobf xob_5 (by decide) (by decide)) rfl (n := 205) rfl ?_
    obtain ⟨q1, t⟩ := t
    refine xw_iald (show xlook 32 205 = some (205, .iaload, 1, 0, 0, 0, 0) from xlk (by decide +kernel)) (xtg_5_4 _ xob_5.1 xob_5.2).1 (by rw [(xtg_5_4 _ xob_5.1 xob_5.2).2]; exact q1) (n := 206) rfl ?_
    obtain ⟨j1, hj1, rr1, G1, hm1, hG1, t⟩ := t
    obtain ⟨y1, rfl, t⟩ := t
    refine xw_calls (dk := j1) (as := [vi ((F) (19) ((F) (18) 11))]) (show xlook 32 206 = some (206, .invokestatic 72, 3, 34, 1, 0, 33) from xlk (by decide +kernel)) (by decide) hj1 ⟨Nat.le_of_ble_eq_true rfl, Nat.le_of_ble_eq_true rfl, Nat.le_of_ble_eq_true rfl, by decide⟩ rfl hm1 (n := 209) rfl ?_
    show xW X d 32 209 [.ref (18)] [vi (y1)] G1 (xqv Q)
    obtain ⟨q0, t⟩ := t
    refine xw_if_eq (n := 212) (m := 253) (show xlook 32 209 = some (209, .ifCond .eq 44, 3, 253, 0, 0, 0) from xlk (by decide +kernel)) rfl rfl q0 ⟨fun c => ?_, fun c => ?_⟩
    · replace t := t.1 c
      exact xw_return hG1 (show xlook 32 253 = some (253, .return_, 1, 0, 0, 0, 0) from xlk (by decide +kernel)) rfl (t hG1)
    · replace t := t.2 c
      refine xw_aload_n (n := 213) (show xlook 32 212 = some (212, .aload_n 0, 1, 0, 0, 0, 0) from xlk (by decide +kernel)) rfl rfl ?_
      refine xw_dupr (n := 214) (show xlook 32 213 = some (213, .dup, 1, 0, 0, 0, 0) from xlk (by decide +kernel)) rfl ?_
      refine xw_geti (show xlook 32 214 = some (214, .getfield 50, 3, 5, 11, 0, 52) from xlk (by decide +kernel)) (by decide) (xobf xob_5 (by decide) (by decide)) rfl (n := 217) rfl ?_
      refine xw_iconst (n := 218) (show xlook 32 217 = some (217, .iconst 1, 1, 0, 0, 0, 0) from xlk (by decide +kernel)) rfl ?_
      refine xw_iadd (n := 219) (show xlook 32 218 = some (218, .iadd, 1, 0, 0, 0, 0) from xlk (by decide +kernel)) rfl ?_
      refine xw_puti (show xlook 32 219 = some (219, .putfield 50, 3, 5, 11, 0, 52) from xlk (by decide +kernel)) (xobf xob_5 (by decide) (by decide)) rfl (n := 222) rfl ?_
      refine xw_goto (m := 186) (show xlook 32 222 = some (222, .goto (-36), 3, 186, 0, 0, 0) from xlk (by decide +kernel)) rfl ?_
      exact t (xPT_fld (k := 11) hG1 xob_5 (by decide) (by decide))

theorem s33_0 {X : List Int32} {d : Nat} {F : XF} {Q : Int → XF → Prop} {x0 : Int} (hPT : xPT F)  (t : inR (x0) ∧ ((((x0) < (48)) → (xPT (F) → Q (0) (F))) ∧ (¬ ((x0) < (48)) → (inR (x0) ∧ ((((57) < (x0)) → (xPT (F) → Q (0) (F))) ∧ (¬ ((57) < (x0)) → (xPT (F) → Q (1) (F)))))))) : xW X d 33 0 [vi (x0)] [] F (xqi Q) := by
  refine xw_iload_n (n := 1) (show xlook 33 0 = some (0, .iload_n 0, 1, 0, 0, 0, 0) from xlk (by decide +kernel)) rfl rfl ?_
  refine xw_bipush (n := 3) (show xlook 33 1 = some (1, .bipush 48, 2, 0, 0, 0, 0) from xlk (by decide +kernel)) rfl (by decide) ?_
  obtain ⟨q0, t⟩ := t
  refine xw_icmp_lt (n := 6) (m := 16) (show xlook 33 3 = some (3, .if_icmp .lt 13, 3, 16, 0, 0, 0) from xlk (by decide +kernel)) rfl rfl q0 ⟨by decide, by decide⟩ ⟨fun c => ?_, fun c => ?_⟩
  · replace t := t.1 c
    refine xw_iconst (n := 17) (show xlook 33 16 = some (16, .iconst 0, 1, 0, 0, 0, 0) from xlk (by decide +kernel)) rfl ?_
    exact xw_zreturn hPT (show xlook 33 17 = some (17, .ireturn, 1, 0, 0, 0, 0) from xlk (by decide +kernel)) rfl (by decide) (t hPT)
  · replace t := t.2 c
    refine xw_iload_n (n := 7) (show xlook 33 6 = some (6, .iload_n 0, 1, 0, 0, 0, 0) from xlk (by decide +kernel)) rfl rfl ?_
    refine xw_bipush (n := 9) (show xlook 33 7 = some (7, .bipush 57, 2, 0, 0, 0, 0) from xlk (by decide +kernel)) rfl (by decide) ?_
    obtain ⟨q0, t⟩ := t
    refine xw_icmp_gt (n := 12) (m := 16) (show xlook 33 9 = some (9, .if_icmp .gt 7, 3, 16, 0, 0, 0) from xlk (by decide +kernel)) rfl rfl q0 ⟨by decide, by decide⟩ ⟨fun c => ?_, fun c => ?_⟩
    · replace t := t.1 c
      refine xw_iconst (n := 17) (show xlook 33 16 = some (16, .iconst 0, 1, 0, 0, 0, 0) from xlk (by decide +kernel)) rfl ?_
      exact xw_zreturn hPT (show xlook 33 17 = some (17, .ireturn, 1, 0, 0, 0, 0) from xlk (by decide +kernel)) rfl (by decide) (t hPT)
    · replace t := t.2 c
      refine xw_iconst (n := 13) (show xlook 33 12 = some (12, .iconst 1, 1, 0, 0, 0, 0) from xlk (by decide +kernel)) rfl ?_
      refine xw_goto (m := 17) (show xlook 33 13 = some (13, .goto 4, 3, 17, 0, 0, 0) from xlk (by decide +kernel)) rfl ?_
      exact xw_zreturn hPT (show xlook 33 17 = some (17, .ireturn, 1, 0, 0, 0, 0) from xlk (by decide +kernel)) rfl (by decide) (t hPT)
theorem m33 {X : List Int32} {d : Nat} {F : XF} {Q : Int → XF → Prop} {x0 : Int} (hPT : xPT F)  (t : inR (x0) ∧ ((((x0) < (48)) → (xPT (F) → Q (0) (F))) ∧ (¬ ((x0) < (48)) → (inR (x0) ∧ ((((57) < (x0)) → (xPT (F) → Q (0) (F))) ∧ (¬ ((57) < (x0)) → (xPT (F) → Q (1) (F)))))))) : xMI X d 33 [vi (x0)] F Q := by
  show xW X d 33 0 [vi (x0)] [] F (xqi Q)
  exact s33_0 hPT  t

theorem s34_0 {X : List Int32} {d : Nat} {F : XF} {Q : Int → XF → Prop} {x0 : Int} (hPT : xPT F)  (t : inR (x0) ∧ ((((x0) < (97)) → (xPT (F) → Q (0) (F))) ∧ (¬ ((x0) < (97)) → (inR (x0) ∧ ((((122) < (x0)) → (xPT (F) → Q (0) (F))) ∧ (¬ ((122) < (x0)) → (xPT (F) → Q (1) (F)))))))) : xW X d 34 0 [vi (x0)] [] F (xqi Q) := by
  refine xw_iload_n (n := 1) (show xlook 34 0 = some (0, .iload_n 0, 1, 0, 0, 0, 0) from xlk (by decide +kernel)) rfl rfl ?_
  refine xw_bipush (n := 3) (show xlook 34 1 = some (1, .bipush 97, 2, 0, 0, 0, 0) from xlk (by decide +kernel)) rfl (by decide) ?_
  obtain ⟨q0, t⟩ := t
  refine xw_icmp_lt (n := 6) (m := 16) (show xlook 34 3 = some (3, .if_icmp .lt 13, 3, 16, 0, 0, 0) from xlk (by decide +kernel)) rfl rfl q0 ⟨by decide, by decide⟩ ⟨fun c => ?_, fun c => ?_⟩
  · replace t := t.1 c
    refine xw_iconst (n := 17) (show xlook 34 16 = some (16, .iconst 0, 1, 0, 0, 0, 0) from xlk (by decide +kernel)) rfl ?_
    exact xw_zreturn hPT (show xlook 34 17 = some (17, .ireturn, 1, 0, 0, 0, 0) from xlk (by decide +kernel)) rfl (by decide) (t hPT)
  · replace t := t.2 c
    refine xw_iload_n (n := 7) (show xlook 34 6 = some (6, .iload_n 0, 1, 0, 0, 0, 0) from xlk (by decide +kernel)) rfl rfl ?_
    refine xw_bipush (n := 9) (show xlook 34 7 = some (7, .bipush 122, 2, 0, 0, 0, 0) from xlk (by decide +kernel)) rfl (by decide) ?_
    obtain ⟨q0, t⟩ := t
    refine xw_icmp_gt (n := 12) (m := 16) (show xlook 34 9 = some (9, .if_icmp .gt 7, 3, 16, 0, 0, 0) from xlk (by decide +kernel)) rfl rfl q0 ⟨by decide, by decide⟩ ⟨fun c => ?_, fun c => ?_⟩
    · replace t := t.1 c
      refine xw_iconst (n := 17) (show xlook 34 16 = some (16, .iconst 0, 1, 0, 0, 0, 0) from xlk (by decide +kernel)) rfl ?_
      exact xw_zreturn hPT (show xlook 34 17 = some (17, .ireturn, 1, 0, 0, 0, 0) from xlk (by decide +kernel)) rfl (by decide) (t hPT)
    · replace t := t.2 c
      refine xw_iconst (n := 13) (show xlook 34 12 = some (12, .iconst 1, 1, 0, 0, 0, 0) from xlk (by decide +kernel)) rfl ?_
      refine xw_goto (m := 17) (show xlook 34 13 = some (13, .goto 4, 3, 17, 0, 0, 0) from xlk (by decide +kernel)) rfl ?_
      exact xw_zreturn hPT (show xlook 34 17 = some (17, .ireturn, 1, 0, 0, 0, 0) from xlk (by decide +kernel)) rfl (by decide) (t hPT)
theorem m34 {X : List Int32} {d : Nat} {F : XF} {Q : Int → XF → Prop} {x0 : Int} (hPT : xPT F)  (t : inR (x0) ∧ ((((x0) < (97)) → (xPT (F) → Q (0) (F))) ∧ (¬ ((x0) < (97)) → (inR (x0) ∧ ((((122) < (x0)) → (xPT (F) → Q (0) (F))) ∧ (¬ ((122) < (x0)) → (xPT (F) → Q (1) (F)))))))) : xMI X d 34 [vi (x0)] F Q := by
  show xW X d 34 0 [vi (x0)] [] F (xqi Q)
  exact s34_0 hPT  t

theorem s35_0 {X : List Int32} {d : Nat} {F : XF} {Q : Int → XF → Prop} {k1 : Nat} {w2 : Value} (hPT : xPT F) (h1 : k1 < 19) (t : inR ((F) (18) 8) ∧ (((¬ ((F) (18) 8) = (2)) → (xPT (F) → Q (0) (F))) ∧ (¬ (¬ ((F) (18) 8) = (2)) → (∃ (j1 : Nat), j1 < d ∧ xMI X j1 221 [.ref (xSB + 2 * k1)] (F) (fun (y1 : Int) (G1 : XF) => (inR (((F) (18) 11) - ((F) (18) 9)) ∧ inR (y1) ∧ ((((((F) (18) 11) - ((F) (18) 9)) = (y1)) → (xPT (G1) → xW X d 35 28 [.ref (18), .ref (xSB + 2 * k1), vi (0)] [] (G1) (xqi Q))) ∧ (¬ ((((F) (18) 11) - ((F) (18) 9)) = (y1)) → (xPT (G1) → Q (0) (G1)))))))))) : xW X d 35 0 [.ref (18), .ref (xSB + 2 * k1), w2] [] F (xqi Q) := by
  refine xw_aload_n (n := 1) (show xlook 35 0 = some (0, .aload_n 0, 1, 0, 0, 0, 0) from xlk (by decide +kernel)) rfl rfl ?_
  refine xw_geti (show xlook 35 1 = some (1, .getfield 56, 3, 5, 8, 0, 53) from xlk (by decide +kernel)) (by decide) (xobf xob_5 (by decide) (by decide)) rfl (n := 4) rfl ?_
  refine xw_iconst (n := 5) (show xlook 35 4 = some (4, .iconst 2, 1, 0, 0, 0, 0) from xlk (by decide +kernel)) rfl ?_
  obtain ⟨q0, t⟩ := t
  refine xw_icmp_ne (n := 8) (m := 24) (show xlook 35 5 = some (5, .if_icmp .ne 19, 3, 24, 0, 0, 0) from xlk (by decide +kernel)) rfl rfl q0 ⟨by decide, by decide⟩ ⟨fun c => ?_, fun c => ?_⟩
  · replace t := t.1 c
    refine xw_iconst (n := 25) (show xlook 35 24 = some (24, .iconst 0, 1, 0, 0, 0, 0) from xlk (by decide +kernel)) rfl ?_
    exact xw_zreturn hPT (show xlook 35 25 = some (25, .ireturn, 1, 0, 0, 0, 0) from xlk (by decide +kernel)) rfl (by decide) (t hPT)
  · replace t := t.2 c
    refine xw_aload_n (n := 9) (show xlook 35 8 = some (8, .aload_n 0, 1, 0, 0, 0, 0) from xlk (by decide +kernel)) rfl rfl ?_
    refine xw_geti (show xlook 35 9 = some (9, .getfield 50, 3, 5, 11, 0, 52) from xlk (by decide +kernel)) (by decide) (xobf xob_5 (by decide) (by decide)) rfl (n := 12) rfl ?_
    refine xw_aload_n (n := 13) (show xlook 35 12 = some (12, .aload_n 0, 1, 0, 0, 0, 0) from xlk (by decide +kernel)) rfl rfl ?_
    refine xw_geti (show xlook 35 13 = some (13, .getfield 62, 3, 5, 9, 0, 54) from xlk (by decide +kernel)) (by decide) (xobf xob_5 (by decide) (by decide)) rfl (n := 16) rfl ?_
    refine xw_isub (n := 17) (show xlook 35 16 = some (16, .isub, 1, 0, 0, 0, 0) from xlk (by decide +kernel)) rfl ?_
    refine xw_aload_n (n := 18) (show xlook 35 17 = some (17, .aload_n 1, 1, 0, 0, 0, 0) from xlk (by decide +kernel)) rfl rfl ?_
    obtain ⟨j1, hj1, rr1, G1, hm1, hG1, t⟩ := t
    obtain ⟨y1, rfl, t⟩ := t
    refine xw_callt (dk := j1) (k := k1) (as := []) (show xlook 35 18 = some (18, .invokevirtual 75, 3, 221, 1, 0, 34) from xlk (by decide +kernel)) (by decide) hj1 ⟨Nat.le_of_ble_eq_true rfl, Nat.le_of_ble_eq_true rfl, Nat.le_of_ble_eq_true rfl⟩ ⟨rfl, h1⟩ rfl hm1 (n := 21) rfl ?_
    show xW X d 35 21 [.ref (18), .ref (xSB + 2 * k1), w2] [vi (y1), vi (((F) (18) 11) - ((F) (18) 9))] G1 (xqi Q)
    obtain ⟨q0, q1, t⟩ := t
    refine xw_icmp_eq (n := 24) (m := 26) (show xlook 35 21 = some (21, .if_icmp .eq 5, 3, 26, 0, 0, 0) from xlk (by decide +kernel)) rfl rfl q0 q1 ⟨fun c => ?_, fun c => ?_⟩
    · replace t := t.1 c
      refine xw_iconst (n := 27) (show xlook 35 26 = some (26, .iconst 0, 1, 0, 0, 0, 0) from xlk (by decide +kernel)) rfl ?_
      refine xw_istore_n (n := 28) (show xlook 35 27 = some (27, .istore_n 2, 1, 0, 0, 0, 0) from xlk (by decide +kernel)) rfl (ls' := [.ref (18), .ref (xSB + 2 * k1), vi (0)]) (Nat.le_of_ble_eq_true rfl) rfl ?_
      exact t hG1
    · replace t := t.2 c
      refine xw_iconst (n := 25) (show xlook 35 24 = some (24, .iconst 0, 1, 0, 0, 0, 0) from xlk (by decide +kernel)) rfl ?_
      exact xw_zreturn hG1 (show xlook 35 25 = some (25, .ireturn, 1, 0, 0, 0, 0) from xlk (by decide +kernel)) rfl (by decide) (t hG1)
theorem m35 {X : List Int32} {d : Nat} {F : XF} {Q : Int → XF → Prop} {k1 : Nat} (hPT : xPT F) (h1 : k1 < 19) (t : inR ((F) (18) 8) ∧ (((¬ ((F) (18) 8) = (2)) → (xPT (F) → Q (0) (F))) ∧ (¬ (¬ ((F) (18) 8) = (2)) → (∃ (j1 : Nat), j1 < d ∧ xMI X j1 221 [.ref (xSB + 2 * k1)] (F) (fun (y1 : Int) (G1 : XF) => (inR (((F) (18) 11) - ((F) (18) 9)) ∧ inR (y1) ∧ ((((((F) (18) 11) - ((F) (18) 9)) = (y1)) → (xPT (G1) → xW X d 35 28 [.ref (18), .ref (xSB + 2 * k1), vi (0)] [] (G1) (xqi Q))) ∧ (¬ ((((F) (18) 11) - ((F) (18) 9)) = (y1)) → (xPT (G1) → Q (0) (G1)))))))))) : xMI X d 35 [.ref (18), .ref (xSB + 2 * k1)] F Q := by
  show xW X d 35 0 [.ref (18), .ref (xSB + 2 * k1), xU0] [] F (xqi Q)
  exact s35_0 hPT h1 t

theorem s35_28 {X : List Int32} {d : Nat} {F : XF} {Q : Int → XF → Prop} {k1 : Nat} {x2 : Int} (hPT : xPT F) (h1 : k1 < 19) (t : ∃ (j1 : Nat), j1 < d ∧ xMI X j1 221 [.ref (xSB + 2 * k1)] (F) (fun (y1 : Int) (G1 : XF) => (inR (x2) ∧ inR (y1) ∧ ((((y1) ≤ (x2)) → (xPT (G1) → Q (1) (G1))) ∧ (¬ ((y1) ≤ (x2)) → ((0 ≤ (((G1) (18) 9) + (x2)) ∧ (((G1) (18) 9) + (x2)) < 600) ∧ (∃ (j2 : Nat), j2 < d ∧ xMI X j2 222 [.ref (xSB + 2 * k1), vi (x2)] (G1) (fun (y2 : Int) (G2 : XF) => (inR ((G1) (19) (((G1) (18) 9) + (x2))) ∧ inR (y2) ∧ (((((G1) (19) (((G1) (18) 9) + (x2))) = (y2)) → (xPT (G2) → xW X d 35 28 [.ref (18), .ref (xSB + 2 * k1), vi (x2 + 1)] [] (G2) (xqi Q))) ∧ (¬ (((G1) (19) (((G1) (18) 9) + (x2))) = (y2)) → (xPT (G2) → Q (0) (G2))))))))))))) : xW X d 35 28 [.ref (18), .ref (xSB + 2 * k1), vi (x2)] [] F (xqi Q) := by
  refine xw_iload_n (n := 29) (show xlook 35 28 = some (28, .iload_n 2, 1, 0, 0, 0, 0) from xlk (by decide +kernel)) rfl rfl ?_
  refine xw_aload_n (n := 30) (show xlook 35 29 = some (29, .aload_n 1, 1, 0, 0, 0, 0) from xlk (by decide +kernel)) rfl rfl ?_
  obtain ⟨j1, hj1, rr1, G1, hm1, hG1, t⟩ := t
  obtain ⟨y1, rfl, t⟩ := t
  refine xw_callt (dk := j1) (k := k1) (as := []) (show xlook 35 30 = some (30, .invokevirtual 75, 3, 221, 1, 0, 34) from xlk (by decide +kernel)) (by decide) hj1 ⟨Nat.le_of_ble_eq_true rfl, Nat.le_of_ble_eq_true rfl, Nat.le_of_ble_eq_true rfl⟩ ⟨rfl, h1⟩ rfl hm1 (n := 33) rfl ?_
  show xW X d 35 33 [.ref (18), .ref (xSB + 2 * k1), vi (x2)] [vi (y1), vi (x2)] G1 (xqi Q)
  obtain ⟨q0, q1, t⟩ := t
  refine xw_icmp_ge (n := 36) (m := 63) (show xlook 35 33 = some (33, .if_icmp .ge 30, 3, 63, 0, 0, 0) from xlk (by decide +kernel)) rfl rfl q0 q1 ⟨fun c => ?_, fun c => ?_⟩
  · replace t := t.1 c
    refine xw_iconst (n := 64) (show xlook 35 63 = some (63, .iconst 1, 1, 0, 0, 0, 0) from xlk (by decide +kernel)) rfl ?_
    exact xw_zreturn hG1 (show xlook 35 64 = some (64, .ireturn, 1, 0, 0, 0, 0) from xlk (by decide +kernel)) rfl (by decide) (t hG1)
  · replace t := t.2 c
    refine xw_aload_n (n := 37) (show xlook 35 36 = some (36, .aload_n 0, 1, 0, 0, 0, 0) from xlk (by decide +kernel)) rfl rfl ?_
    refine xw_getr (q := 19) (show xlook 35 37 = some (37, .getfield 15, 3, 5, 4, 0, 45) from xlk (by decide +kernel)) (by decide) (xobf xob_5 (by decide) (by decide)) rfl (xPT_get (k := 4) (f := 1) hG1 xob_5 (by decide)) (by have := (xtg_5_4 _ xob_5.1 xob_5.2).1.1; omega) (n := 40) rfl ?_
    refine xw_aload_n (n := 41) (show xlook 35 40 = some (40, .aload_n 0, 1, 0, 0, 0, 0) from xlk (by decide +kernel)) rfl rfl ?_
    refine xw_geti (show xlook 35 41 = some (41, .getfield 62, 3, 5, 9, 0, 54) from xlk (by decide +kernel)) (by decide) (xobf xob_5 (by decide) (by decide)) rfl (n := 44) rfl ?_
    refine xw_iload_n (n := 45) (show xlook 35 44 = some (44, .iload_n 2, 1, 0, 0, 0, 0) from xlk (by decide +kernel)) rfl rfl ?_
    refine xw_iadd (n := 46) (show xlook 35 45 = some (45, .iadd, 1, 0, 0, 0, 0) from xlk (by decide +kernel)) rfl ?_
    obtain ⟨q1, t⟩ := t
    refine xw_iald (show xlook 35 46 = some (46, .iaload, 1, 0, 0, 0, 0) from xlk (by decide +kernel)) (xtg_5_4 _ xob_5.1 xob_5.2).1 (by rw [(xtg_5_4 _ xob_5.1 xob_5.2).2]; exact q1) (n := 47) rfl ?_
    refine xw_aload_n (n := 48) (show xlook 35 47 = some (47, .aload_n 1, 1, 0, 0, 0, 0) from xlk (by decide +kernel)) rfl rfl ?_
    refine xw_iload_n (n := 49) (show xlook 35 48 = some (48, .iload_n 2, 1, 0, 0, 0, 0) from xlk (by decide +kernel)) rfl rfl ?_
    obtain ⟨j2, hj2, rr2, G2, hm2, hG2, t⟩ := t
    obtain ⟨y2, rfl, t⟩ := t
    refine xw_callt (dk := j2) (k := k1) (as := [vi (x2)]) (show xlook 35 49 = some (49, .invokevirtual 81, 3, 222, 2, 0, 35) from xlk (by decide +kernel)) (by decide) hj2 ⟨Nat.le_of_ble_eq_true rfl, Nat.le_of_ble_eq_true rfl, Nat.le_of_ble_eq_true rfl⟩ ⟨rfl, h1⟩ rfl hm2 (n := 52) rfl ?_
    show xW X d 35 52 [.ref (18), .ref (xSB + 2 * k1), vi (x2)] [vi (y2), vi ((G1) (19) (((G1) (18) 9) + (x2)))] G2 (xqi Q)
    obtain ⟨q0, q1, t⟩ := t
    refine xw_icmp_eq (n := 55) (m := 57) (show xlook 35 52 = some (52, .if_icmp .eq 5, 3, 57, 0, 0, 0) from xlk (by decide +kernel)) rfl rfl q0 q1 ⟨fun c => ?_, fun c => ?_⟩
    · replace t := t.1 c
      refine xw_iinc (n := 60) (show xlook 35 57 = some (57, .iinc 2 1, 3, 0, 0, 0, 0) from xlk (by decide +kernel)) rfl (ls' := [.ref (18), .ref (xSB + 2 * k1), vi (x2 + 1)]) rfl rfl ?_
      refine xw_goto (m := 28) (show xlook 35 60 = some (60, .goto (-32), 3, 28, 0, 0, 0) from xlk (by decide +kernel)) rfl ?_
      exact t hG2
    · replace t := t.2 c
      refine xw_iconst (n := 56) (show xlook 35 55 = some (55, .iconst 0, 1, 0, 0, 0, 0) from xlk (by decide +kernel)) rfl ?_
      exact xw_zreturn hG2 (show xlook 35 56 = some (56, .ireturn, 1, 0, 0, 0, 0) from xlk (by decide +kernel)) rfl (by decide) (t hG2)

theorem s36_0 {X : List Int32} {d : Nat} {F : XF} {Q : XF → Prop} {k1 : Nat} (hPT : xPT F) (h1 : k1 < 19) (t : inR ((F) (18) 1) ∧ (((((F) (18) 1) = (0)) → (∃ (j1 : Nat), j1 < d ∧ xMI X j1 35 [.ref (18), .ref (xSB + 2 * k1)] (F) (fun (y1 : Int) (G1 : XF) => (inR (y1) ∧ ((((y1) = (0)) → (∃ (j2 : Nat), j2 < d ∧ xMV X j2 31 [.ref (18), vi (1), vi ((G1) (18) 9)] (G1) (fun (G2 : XF) => (xPT (G2) → Q (G2))))) ∧ (¬ ((y1) = (0)) → (∃ (j3 : Nat), j3 < d ∧ xMV X j3 32 [.ref (18)] (G1) (fun (G3 : XF) => (xPT (G3) → Q (G3)))))))))) ∧ (¬ (((F) (18) 1) = (0)) → (xPT (F) → Q (F))))) : xW X d 36 0 [.ref (18), .ref (xSB + 2 * k1)] [] F (xqv Q) := by
  refine xw_aload_n (n := 1) (show xlook 36 0 = some (0, .aload_n 0, 1, 0, 0, 0, 0) from xlk (by decide +kernel)) rfl rfl ?_
  refine xw_geti (show xlook 36 1 = some (1, .getfield 41, 3, 5, 1, 0, 49) from xlk (by decide +kernel)) (by decide) (xobf xob_5 (by decide) (by decide)) rfl (n := 4) rfl ?_
  obtain ⟨q0, t⟩ := t
  refine xw_if_eq (n := 7) (m := 8) (show xlook 36 4 = some (4, .ifCond .eq 4, 3, 8, 0, 0, 0) from xlk (by decide +kernel)) rfl rfl q0 ⟨fun c => ?_, fun c => ?_⟩
  · replace t := t.1 c
    refine xw_aload_n (n := 9) (show xlook 36 8 = some (8, .aload_n 0, 1, 0, 0, 0, 0) from xlk (by decide +kernel)) rfl rfl ?_
    refine xw_aload_n (n := 10) (show xlook 36 9 = some (9, .aload_n 1, 1, 0, 0, 0, 0) from xlk (by decide +kernel)) rfl rfl ?_
    obtain ⟨j1, hj1, rr1, G1, hm1, hG1, t⟩ := t
    obtain ⟨y1, rfl, t⟩ := t
    refine xw_callv (dk := j1) (o := 18) (as := [.ref (xSB + 2 * k1)]) (show xlook 36 10 = some (10, .invokevirtual 85, 3, 35, 2, 0, 36) from xlk (by decide +kernel)) (by decide) hj1 ⟨Nat.le_of_ble_eq_true rfl, Nat.le_of_ble_eq_true rfl, Nat.le_of_ble_eq_true rfl⟩ ⟨xob_5.1, xob_5.2, by decide⟩ rfl hm1 (n := 13) rfl ?_
    show xW X d 36 13 [.ref (18), .ref (xSB + 2 * k1)] [vi (y1)] G1 (xqv Q)
    obtain ⟨q0, t⟩ := t
    refine xw_if_eq (n := 16) (m := 23) (show xlook 36 13 = some (13, .ifCond .eq 10, 3, 23, 0, 0, 0) from xlk (by decide +kernel)) rfl rfl q0 ⟨fun c => ?_, fun c => ?_⟩
    · replace t := t.1 c
      refine xw_aload_n (n := 24) (show xlook 36 23 = some (23, .aload_n 0, 1, 0, 0, 0, 0) from xlk (by decide +kernel)) rfl rfl ?_
      refine xw_iconst (n := 25) (show xlook 36 24 = some (24, .iconst 1, 1, 0, 0, 0, 0) from xlk (by decide +kernel)) rfl ?_
      refine xw_aload_n (n := 26) (show xlook 36 25 = some (25, .aload_n 0, 1, 0, 0, 0, 0) from xlk (by decide +kernel)) rfl rfl ?_
      refine xw_geti (show xlook 36 26 = some (26, .getfield 62, 3, 5, 9, 0, 54) from xlk (by decide +kernel)) (by decide) (xobf xob_5 (by decide) (by decide)) rfl (n := 29) rfl ?_
      obtain ⟨j2, hj2, rr2, G2, hm2, hG2, t⟩ := t
      obtain ⟨rfl, t⟩ := t
      refine xw_callv (dk := j2) (o := 18) (as := [vi (1), vi ((G1) (18) 9)]) (show xlook 36 29 = some (29, .invokevirtual 89, 3, 31, 3, 0, 37) from xlk (by decide +kernel)) (by decide) hj2 ⟨Nat.le_of_ble_eq_true rfl, Nat.le_of_ble_eq_true rfl, Nat.le_of_ble_eq_true rfl⟩ ⟨xob_5.1, xob_5.2, by decide⟩ rfl hm2 (n := 32) rfl ?_
      show xW X d 36 32 [.ref (18), .ref (xSB + 2 * k1)] [] G2 (xqv Q)
      exact xw_return hG2 (show xlook 36 32 = some (32, .return_, 1, 0, 0, 0, 0) from xlk (by decide +kernel)) rfl (t hG2)
    · replace t := t.2 c
      refine xw_aload_n (n := 17) (show xlook 36 16 = some (16, .aload_n 0, 1, 0, 0, 0, 0) from xlk (by decide +kernel)) rfl rfl ?_
      obtain ⟨j3, hj3, rr3, G3, hm3, hG3, t⟩ := t
      obtain ⟨rfl, t⟩ := t
      refine xw_callv (dk := j3) (o := 18) (as := []) (show xlook 36 17 = some (17, .invokevirtual 53, 3, 32, 1, 0, 30) from xlk (by decide +kernel)) (by decide) hj3 ⟨Nat.le_of_ble_eq_true rfl, Nat.le_of_ble_eq_true rfl, Nat.le_of_ble_eq_true rfl⟩ ⟨xob_5.1, xob_5.2, by decide⟩ rfl hm3 (n := 20) rfl ?_
      show xW X d 36 20 [.ref (18), .ref (xSB + 2 * k1)] [] G3 (xqv Q)
      refine xw_goto (m := 32) (show xlook 36 20 = some (20, .goto 12, 3, 32, 0, 0, 0) from xlk (by decide +kernel)) rfl ?_
      exact xw_return hG3 (show xlook 36 32 = some (32, .return_, 1, 0, 0, 0, 0) from xlk (by decide +kernel)) rfl (t hG3)
  · replace t := t.2 c
    exact xw_return hPT (show xlook 36 7 = some (7, .return_, 1, 0, 0, 0, 0) from xlk (by decide +kernel)) rfl (t hPT)
theorem m36 {X : List Int32} {d : Nat} {F : XF} {Q : XF → Prop} {k1 : Nat} (hPT : xPT F) (h1 : k1 < 19) (t : inR ((F) (18) 1) ∧ (((((F) (18) 1) = (0)) → (∃ (j1 : Nat), j1 < d ∧ xMI X j1 35 [.ref (18), .ref (xSB + 2 * k1)] (F) (fun (y1 : Int) (G1 : XF) => (inR (y1) ∧ ((((y1) = (0)) → (∃ (j2 : Nat), j2 < d ∧ xMV X j2 31 [.ref (18), vi (1), vi ((G1) (18) 9)] (G1) (fun (G2 : XF) => (xPT (G2) → Q (G2))))) ∧ (¬ ((y1) = (0)) → (∃ (j3 : Nat), j3 < d ∧ xMV X j3 32 [.ref (18)] (G1) (fun (G3 : XF) => (xPT (G3) → Q (G3)))))))))) ∧ (¬ (((F) (18) 1) = (0)) → (xPT (F) → Q (F))))) : xMV X d 36 [.ref (18), .ref (xSB + 2 * k1)] F Q := by
  show xW X d 36 0 [.ref (18), .ref (xSB + 2 * k1)] [] F (xqv Q)
  exact s36_0 hPT h1 t

theorem s37_0 {X : List Int32} {d : Nat} {F : XF} {Q : Int → XF → Prop} {x1 : Int} {x2 : Int} {w3 : Value} (hPT : xPT F)  (t : inR ((F) (18) 1) ∧ (((((F) (18) 1) = (0)) → (inR ((F) (18) 8) ∧ (((((F) (18) 8) = (1)) → (inR (((F) (18) 11) - ((F) (18) 9)) ∧ ((((4) < (((F) (18) 11) - ((F) (18) 9))) → (∃ (j1 : Nat), j1 < d ∧ xMV X j1 31 [.ref (18), vi (2), vi ((F) (18) 9)] (F) (fun (G1 : XF) => (xPT (G1) → Q (x1) (G1))))) ∧ (¬ ((4) < (((F) (18) 11) - ((F) (18) 9))) → (inR ((F) (18) 10) ∧ inR (x1) ∧ (((((F) (18) 10) < (x1)) → (∃ (j2 : Nat), j2 < d ∧ xMV X j2 31 [.ref (18), vi (2), vi ((F) (18) 9)] (F) (fun (G2 : XF) => (xPT (G2) → Q (x1) (G2))))) ∧ (¬ (((F) (18) 10) < (x1)) → (inR ((F) (18) 10) ∧ inR (x2) ∧ (((((F) (18) 10) ≤ (x2)) → (∃ (j3 : Nat), j3 < d ∧ xMV X j3 32 [.ref (18)] (F) (fun (G3 : XF) => (xPT (G3) → Q ((F) (18) 10) (G3))))) ∧ (¬ (((F) (18) 10) ≤ (x2)) → (∃ (j4 : Nat), j4 < d ∧ xMV X j4 31 [.ref (18), vi (2), vi ((F) (18) 9)] (F) (fun (G4 : XF) => (xPT (G4) → Q (x1) (G4)))))))))))))) ∧ (¬ (((F) (18) 8) = (1)) → (∃ (j5 : Nat), j5 < d ∧ xMV X j5 31 [.ref (18), vi (1), vi ((F) (18) 9)] (F) (fun (G5 : XF) => (xPT (G5) → Q (x1) (G5)))))))) ∧ (¬ (((F) (18) 1) = (0)) → (xPT (F) → Q (x1) (F))))) : xW X d 37 0 [.ref (18), vi (x1), vi (x2), w3] [] F (xqi Q) := by
  refine xw_aload_n (n := 1) (show xlook 37 0 = some (0, .aload_n 0, 1, 0, 0, 0, 0) from xlk (by decide +kernel)) rfl rfl ?_
  refine xw_geti (show xlook 37 1 = some (1, .getfield 41, 3, 5, 1, 0, 49) from xlk (by decide +kernel)) (by decide) (xobf xob_5 (by decide) (by decide)) rfl (n := 4) rfl ?_
  obtain ⟨q0, t⟩ := t
  refine xw_if_eq (n := 7) (m := 9) (show xlook 37 4 = some (4, .ifCond .eq 5, 3, 9, 0, 0, 0) from xlk (by decide +kernel)) rfl rfl q0 ⟨fun c => ?_, fun c => ?_⟩
  · replace t := t.1 c
    refine xw_aload_n (n := 10) (show xlook 37 9 = some (9, .aload_n 0, 1, 0, 0, 0, 0) from xlk (by decide +kernel)) rfl rfl ?_
    refine xw_geti (show xlook 37 10 = some (10, .getfield 56, 3, 5, 8, 0, 53) from xlk (by decide +kernel)) (by decide) (xobf xob_5 (by decide) (by decide)) rfl (n := 13) rfl ?_
    refine xw_iconst (n := 14) (show xlook 37 13 = some (13, .iconst 1, 1, 0, 0, 0, 0) from xlk (by decide +kernel)) rfl ?_
    obtain ⟨q0, t⟩ := t
    refine xw_icmp_eq (n := 17) (m := 28) (show xlook 37 14 = some (14, .if_icmp .eq 14, 3, 28, 0, 0, 0) from xlk (by decide +kernel)) rfl rfl q0 ⟨by decide, by decide⟩ ⟨fun c => ?_, fun c => ?_⟩
    · replace t := t.1 c
      refine xw_aload_n (n := 29) (show xlook 37 28 = some (28, .aload_n 0, 1, 0, 0, 0, 0) from xlk (by decide +kernel)) rfl rfl ?_
      refine xw_geti (show xlook 37 29 = some (29, .getfield 50, 3, 5, 11, 0, 52) from xlk (by decide +kernel)) (by decide) (xobf xob_5 (by decide) (by decide)) rfl (n := 32) rfl ?_
      refine xw_aload_n (n := 33) (show xlook 37 32 = some (32, .aload_n 0, 1, 0, 0, 0, 0) from xlk (by decide +kernel)) rfl rfl ?_
      refine xw_geti (show xlook 37 33 = some (33, .getfield 62, 3, 5, 9, 0, 54) from xlk (by decide +kernel)) (by decide) (xobf xob_5 (by decide) (by decide)) rfl (n := 36) rfl ?_
      refine xw_isub (n := 37) (show xlook 37 36 = some (36, .isub, 1, 0, 0, 0, 0) from xlk (by decide +kernel)) rfl ?_
      refine xw_iconst (n := 38) (show xlook 37 37 = some (37, .iconst 4, 1, 0, 0, 0, 0) from xlk (by decide +kernel)) rfl ?_
      obtain ⟨q0, t⟩ := t
      refine xw_icmp_gt (n := 41) (m := 57) (show xlook 37 38 = some (38, .if_icmp .gt 19, 3, 57, 0, 0, 0) from xlk (by decide +kernel)) rfl rfl q0 ⟨by decide, by decide⟩ ⟨fun c => ?_, fun c => ?_⟩
      · replace t := t.1 c
        refine xw_aload_n (n := 58) (show xlook 37 57 = some (57, .aload_n 0, 1, 0, 0, 0, 0) from xlk (by decide +kernel)) rfl rfl ?_
        refine xw_iconst (n := 59) (show xlook 37 58 = some (58, .iconst 2, 1, 0, 0, 0, 0) from xlk (by decide +kernel)) rfl ?_
        refine xw_aload_n (n := 60) (show xlook 37 59 = some (59, .aload_n 0, 1, 0, 0, 0, 0) from xlk (by decide +kernel)) rfl rfl ?_
        refine xw_geti (show xlook 37 60 = some (60, .getfield 62, 3, 5, 9, 0, 54) from xlk (by decide +kernel)) (by decide) (xobf xob_5 (by decide) (by decide)) rfl (n := 63) rfl ?_
        obtain ⟨j1, hj1, rr1, G1, hm1, hG1, t⟩ := t
        obtain ⟨rfl, t⟩ := t
        refine xw_callv (dk := j1) (o := 18) (as := [vi (2), vi ((F) (18) 9)]) (show xlook 37 63 = some (63, .invokevirtual 89, 3, 31, 3, 0, 37) from xlk (by decide +kernel)) (by decide) hj1 ⟨Nat.le_of_ble_eq_true rfl, Nat.le_of_ble_eq_true rfl, Nat.le_of_ble_eq_true rfl⟩ ⟨xob_5.1, xob_5.2, by decide⟩ rfl hm1 (n := 66) rfl ?_
        show xW X d 37 66 [.ref (18), vi (x1), vi (x2), w3] [] G1 (xqi Q)
        refine xw_iload_n (n := 67) (show xlook 37 66 = some (66, .iload_n 1, 1, 0, 0, 0, 0) from xlk (by decide +kernel)) rfl rfl ?_
        exact xw_ireturn hG1 (show xlook 37 67 = some (67, .ireturn, 1, 0, 0, 0, 0) from xlk (by decide +kernel)) rfl (t hG1)
      · replace t := t.2 c
        refine xw_aload_n (n := 42) (show xlook 37 41 = some (41, .aload_n 0, 1, 0, 0, 0, 0) from xlk (by decide +kernel)) rfl rfl ?_
        refine xw_geti (show xlook 37 42 = some (42, .getfield 65, 3, 5, 10, 0, 55) from xlk (by decide +kernel)) (by decide) (xobf xob_5 (by decide) (by decide)) rfl (n := 45) rfl ?_
        refine xw_iload_n (n := 46) (show xlook 37 45 = some (45, .iload_n 1, 1, 0, 0, 0, 0) from xlk (by decide +kernel)) rfl rfl ?_
        obtain ⟨q0, q1, t⟩ := t
        refine xw_icmp_lt (n := 49) (m := 57) (show xlook 37 46 = some (46, .if_icmp .lt 11, 3, 57, 0, 0, 0) from xlk (by decide +kernel)) rfl rfl q0 q1 ⟨fun c => ?_, fun c => ?_⟩
        · replace t := t.1 c
          refine xw_aload_n (n := 58) (show xlook 37 57 = some (57, .aload_n 0, 1, 0, 0, 0, 0) from xlk (by decide +kernel)) rfl rfl ?_
          refine xw_iconst (n := 59) (show xlook 37 58 = some (58, .iconst 2, 1, 0, 0, 0, 0) from xlk (by decide +kernel)) rfl ?_
          refine xw_aload_n (n := 60) (show xlook 37 59 = some (59, .aload_n 0, 1, 0, 0, 0, 0) from xlk (by decide +kernel)) rfl rfl ?_
          refine xw_geti (show xlook 37 60 = some (60, .getfield 62, 3, 5, 9, 0, 54) from xlk (by decide +kernel)) (by decide) (xobf xob_5 (by decide) (by decide)) rfl (n := 63) rfl ?_
          obtain ⟨j2, hj2, rr2, G2, hm2, hG2, t⟩ := t
          obtain ⟨rfl, t⟩ := t
          refine xw_callv (dk := j2) (o := 18) (as := [vi (2), vi ((F) (18) 9)]) (show xlook 37 63 = some (63, .invokevirtual 89, 3, 31, 3, 0, 37) from xlk (by decide +kernel)) (by decide) hj2 ⟨Nat.le_of_ble_eq_true rfl, Nat.le_of_ble_eq_true rfl, Nat.le_of_ble_eq_true rfl⟩ ⟨xob_5.1, xob_5.2, by decide⟩ rfl hm2 (n := 66) rfl ?_
          show xW X d 37 66 [.ref (18), vi (x1), vi (x2), w3] [] G2 (xqi Q)
          refine xw_iload_n (n := 67) (show xlook 37 66 = some (66, .iload_n 1, 1, 0, 0, 0, 0) from xlk (by decide +kernel)) rfl rfl ?_
          exact xw_ireturn hG2 (show xlook 37 67 = some (67, .ireturn, 1, 0, 0, 0, 0) from xlk (by decide +kernel)) rfl (t hG2)
        · replace t := t.2 c
          refine xw_aload_n (n := 50) (show xlook 37 49 = some (49, .aload_n 0, 1, 0, 0, 0, 0) from xlk (by decide +kernel)) rfl rfl ?_
          refine xw_geti (show xlook 37 50 = some (50, .getfield 65, 3, 5, 10, 0, 55) from xlk (by decide +kernel)) (by decide) (xobf xob_5 (by decide) (by decide)) rfl (n := 53) rfl ?_
          refine xw_iload_n (n := 54) (show xlook 37 53 = some (53, .iload_n 2, 1, 0, 0, 0, 0) from xlk (by decide +kernel)) rfl rfl ?_
          obtain ⟨q0, q1, t⟩ := t
          refine xw_icmp_le (n := 57) (m := 68) (show xlook 37 54 = some (54, .if_icmp .le 14, 3, 68, 0, 0, 0) from xlk (by decide +kernel)) rfl rfl q0 q1 ⟨fun c => ?_, fun c => ?_⟩
          · replace t := t.1 c
            refine xw_aload_n (n := 69) (show xlook 37 68 = some (68, .aload_n 0, 1, 0, 0, 0, 0) from xlk (by decide +kernel)) rfl rfl ?_
            refine xw_geti (show xlook 37 69 = some (69, .getfield 65, 3, 5, 10, 0, 55) from xlk (by decide +kernel)) (by decide) (xobf xob_5 (by decide) (by decide)) rfl (n := 72) rfl ?_
            refine xw_istore_n (n := 73) (show xlook 37 72 = some (72, .istore_n 3, 1, 0, 0, 0, 0) from xlk (by decide +kernel)) rfl (ls' := [.ref (18), vi (x1), vi (x2), vi ((F) (18) 10)]) (Nat.le_of_ble_eq_true rfl) rfl ?_
            refine xw_aload_n (n := 74) (show xlook 37 73 = some (73, .aload_n 0, 1, 0, 0, 0, 0) from xlk (by decide +kernel)) rfl rfl ?_
            obtain ⟨j3, hj3, rr3, G3, hm3, hG3, t⟩ := t
            obtain ⟨rfl, t⟩ := t
            refine xw_callv (dk := j3) (o := 18) (as := []) (show xlook 37 74 = some (74, .invokevirtual 53, 3, 32, 1, 0, 30) from xlk (by decide +kernel)) (by decide) hj3 ⟨Nat.le_of_ble_eq_true rfl, Nat.le_of_ble_eq_true rfl, Nat.le_of_ble_eq_true rfl⟩ ⟨xob_5.1, xob_5.2, by decide⟩ rfl hm3 (n := 77) rfl ?_
            show xW X d 37 77 [.ref (18), vi (x1), vi (x2), vi ((F) (18) 10)] [] G3 (xqi Q)
            refine xw_iload_n (n := 78) (show xlook 37 77 = some (77, .iload_n 3, 1, 0, 0, 0, 0) from xlk (by decide +kernel)) rfl rfl ?_
            exact xw_ireturn hG3 (show xlook 37 78 = some (78, .ireturn, 1, 0, 0, 0, 0) from xlk (by decide +kernel)) rfl (t hG3)
          · replace t := t.2 c
            refine xw_aload_n (n := 58) (show xlook 37 57 = some (57, .aload_n 0, 1, 0, 0, 0, 0) from xlk (by decide +kernel)) rfl rfl ?_
            refine xw_iconst (n := 59) (show xlook 37 58 = some (58, .iconst 2, 1, 0, 0, 0, 0) from xlk (by decide +kernel)) rfl ?_
            refine xw_aload_n (n := 60) (show xlook 37 59 = some (59, .aload_n 0, 1, 0, 0, 0, 0) from xlk (by decide +kernel)) rfl rfl ?_
            refine xw_geti (show xlook 37 60 = some (60, .getfield 62, 3, 5, 9, 0, 54) from xlk (by decide +kernel)) (by decide) (xobf xob_5 (by decide) (by decide)) rfl (n := 63) rfl ?_
            obtain ⟨j4, hj4, rr4, G4, hm4, hG4, t⟩ := t
            obtain ⟨rfl, t⟩ := t
            refine xw_callv (dk := j4) (o := 18) (as := [vi (2), vi ((F) (18) 9)]) (show xlook 37 63 = some (63, .invokevirtual 89, 3, 31, 3, 0, 37) from xlk (by decide +kernel)) (by decide) hj4 ⟨Nat.le_of_ble_eq_true rfl, Nat.le_of_ble_eq_true rfl, Nat.le_of_ble_eq_true rfl⟩ ⟨xob_5.1, xob_5.2, by decide⟩ rfl hm4 (n := 66) rfl ?_
            show xW X d 37 66 [.ref (18), vi (x1), vi (x2), w3] [] G4 (xqi Q)
            refine xw_iload_n (n := 67) (show xlook 37 66 = some (66, .iload_n 1, 1, 0, 0, 0, 0) from xlk (by decide +kernel)) rfl rfl ?_
            exact xw_ireturn hG4 (show xlook 37 67 = some (67, .ireturn, 1, 0, 0, 0, 0) from xlk (by decide +kernel)) rfl (t hG4)
    · replace t := t.2 c
      refine xw_aload_n (n := 18) (show xlook 37 17 = some (17, .aload_n 0, 1, 0, 0, 0, 0) from xlk (by decide +kernel)) rfl rfl ?_
      refine xw_iconst (n := 19) (show xlook 37 18 = some (18, .iconst 1, 1, 0, 0, 0, 0) from xlk (by decide +kernel)) rfl ?_
      refine xw_aload_n (n := 20) (show xlook 37 19 = some (19, .aload_n 0, 1, 0, 0, 0, 0) from xlk (by decide +kernel)) rfl rfl ?_
      refine xw_geti (show xlook 37 20 = some (20, .getfield 62, 3, 5, 9, 0, 54) from xlk (by decide +kernel)) (by decide) (xobf xob_5 (by decide) (by decide)) rfl (n := 23) rfl ?_
      obtain ⟨j5, hj5, rr5, G5, hm5, hG5, t⟩ := t
      obtain ⟨rfl, t⟩ := t
      refine xw_callv (dk := j5) (o := 18) (as := [vi (1), vi ((F) (18) 9)]) (show xlook 37 23 = some (23, .invokevirtual 89, 3, 31, 3, 0, 37) from xlk (by decide +kernel)) (by decide) hj5 ⟨Nat.le_of_ble_eq_true rfl, Nat.le_of_ble_eq_true rfl, Nat.le_of_ble_eq_true rfl⟩ ⟨xob_5.1, xob_5.2, by decide⟩ rfl hm5 (n := 26) rfl ?_
      show xW X d 37 26 [.ref (18), vi (x1), vi (x2), w3] [] G5 (xqi Q)
      refine xw_iload_n (n := 27) (show xlook 37 26 = some (26, .iload_n 1, 1, 0, 0, 0, 0) from xlk (by decide +kernel)) rfl rfl ?_
      exact xw_ireturn hG5 (show xlook 37 27 = some (27, .ireturn, 1, 0, 0, 0, 0) from xlk (by decide +kernel)) rfl (t hG5)
  · replace t := t.2 c
    refine xw_iload_n (n := 8) (show xlook 37 7 = some (7, .iload_n 1, 1, 0, 0, 0, 0) from xlk (by decide +kernel)) rfl rfl ?_
    exact xw_ireturn hPT (show xlook 37 8 = some (8, .ireturn, 1, 0, 0, 0, 0) from xlk (by decide +kernel)) rfl (t hPT)
theorem m37 {X : List Int32} {d : Nat} {F : XF} {Q : Int → XF → Prop} {x1 : Int} {x2 : Int} (hPT : xPT F)  (t : inR ((F) (18) 1) ∧ (((((F) (18) 1) = (0)) → (inR ((F) (18) 8) ∧ (((((F) (18) 8) = (1)) → (inR (((F) (18) 11) - ((F) (18) 9)) ∧ ((((4) < (((F) (18) 11) - ((F) (18) 9))) → (∃ (j1 : Nat), j1 < d ∧ xMV X j1 31 [.ref (18), vi (2), vi ((F) (18) 9)] (F) (fun (G1 : XF) => (xPT (G1) → Q (x1) (G1))))) ∧ (¬ ((4) < (((F) (18) 11) - ((F) (18) 9))) → (inR ((F) (18) 10) ∧ inR (x1) ∧ (((((F) (18) 10) < (x1)) → (∃ (j2 : Nat), j2 < d ∧ xMV X j2 31 [.ref (18), vi (2), vi ((F) (18) 9)] (F) (fun (G2 : XF) => (xPT (G2) → Q (x1) (G2))))) ∧ (¬ (((F) (18) 10) < (x1)) → (inR ((F) (18) 10) ∧ inR (x2) ∧ (((((F) (18) 10) ≤ (x2)) → (∃ (j3 : Nat), j3 < d ∧ xMV X j3 32 [.ref (18)] (F) (fun (G3 : XF) => (xPT (G3) → Q ((F) (18) 10) (G3))))) ∧ (¬ (((F) (18) 10) ≤ (x2)) → (∃ (j4 : Nat), j4 < d ∧ xMV X j4 31 [.ref (18), vi (2), vi ((F) (18) 9)] (F) (fun (G4 : XF) => (xPT (G4) → Q (x1) (G4)))))))))))))) ∧ (¬ (((F) (18) 8) = (1)) → (∃ (j5 : Nat), j5 < d ∧ xMV X j5 31 [.ref (18), vi (1), vi ((F) (18) 9)] (F) (fun (G5 : XF) => (xPT (G5) → Q (x1) (G5)))))))) ∧ (¬ (((F) (18) 1) = (0)) → (xPT (F) → Q (x1) (F))))) : xMI X d 37 [.ref (18), vi (x1), vi (x2)] F Q := by
  show xW X d 37 0 [.ref (18), vi (x1), vi (x2), xU0] [] F (xqi Q)
  exact s37_0 hPT  t

theorem s38_0 {X : List Int32} {d : Nat} {F : XF} {Q : XF → Prop}  (hPT : xPT F)  (t : inR ((F) (18) 1) ∧ (((((F) (18) 1) = (0)) → (inR ((F) (18) 8) ∧ (((¬ ((F) (18) 8) = (3)) → (∃ (j1 : Nat), j1 < d ∧ xMV X j1 31 [.ref (18), vi (1), vi ((F) (18) 9)] (F) (fun (G1 : XF) => (xPT (G1) → Q (G1))))) ∧ (¬ (¬ ((F) (18) 8) = (3)) → (inR ((F) (18) 10) ∧ (((¬ ((F) (18) 10) = (59)) → (∃ (j2 : Nat), j2 < d ∧ xMV X j2 31 [.ref (18), vi (1), vi ((F) (18) 9)] (F) (fun (G2 : XF) => (xPT (G2) → Q (G2))))) ∧ (¬ (¬ ((F) (18) 10) = (59)) → (∃ (j3 : Nat), j3 < d ∧ xMV X j3 32 [.ref (18)] (F) (fun (G3 : XF) => (xPT (G3) → Q (G3))))))))))) ∧ (¬ (((F) (18) 1) = (0)) → (xPT (F) → Q (F))))) : xW X d 38 0 [.ref (18)] [] F (xqv Q) := by
  refine xw_aload_n (n := 1) (show xlook 38 0 = some (0, .aload_n 0, 1, 0, 0, 0, 0) from xlk (by decide +kernel)) rfl rfl ?_
  refine xw_geti (show xlook 38 1 = some (1, .getfield 41, 3, 5, 1, 0, 49) from xlk (by decide +kernel)) (by decide) (xobf xob_5 (by decide) (by decide)) rfl (n := 4) rfl ?_
  obtain ⟨q0, t⟩ := t
  refine xw_if_eq (n := 7) (m := 8) (show xlook 38 4 = some (4, .ifCond .eq 4, 3, 8, 0, 0, 0) from xlk (by decide +kernel)) rfl rfl q0 ⟨fun c => ?_, fun c => ?_⟩
  · replace t := t.1 c
    refine xw_aload_n (n := 9) (show xlook 38 8 = some (8, .aload_n 0, 1, 0, 0, 0, 0) from xlk (by decide +kernel)) rfl rfl ?_
    refine xw_geti (show xlook 38 9 = some (9, .getfield 56, 3, 5, 8, 0, 53) from xlk (by decide +kernel)) (by decide) (xobf xob_5 (by decide) (by decide)) rfl (n := 12) rfl ?_
    refine xw_iconst (n := 13) (show xlook 38 12 = some (12, .iconst 3, 1, 0, 0, 0, 0) from xlk (by decide +kernel)) rfl ?_
    obtain ⟨q0, t⟩ := t
    refine xw_icmp_ne (n := 16) (m := 32) (show xlook 38 13 = some (13, .if_icmp .ne 19, 3, 32, 0, 0, 0) from xlk (by decide +kernel)) rfl rfl q0 ⟨by decide, by decide⟩ ⟨fun c => ?_, fun c => ?_⟩
    · replace t := t.1 c
      refine xw_aload_n (n := 33) (show xlook 38 32 = some (32, .aload_n 0, 1, 0, 0, 0, 0) from xlk (by decide +kernel)) rfl rfl ?_
      refine xw_iconst (n := 34) (show xlook 38 33 = some (33, .iconst 1, 1, 0, 0, 0, 0) from xlk (by decide +kernel)) rfl ?_
      refine xw_aload_n (n := 35) (show xlook 38 34 = some (34, .aload_n 0, 1, 0, 0, 0, 0) from xlk (by decide +kernel)) rfl rfl ?_
      refine xw_geti (show xlook 38 35 = some (35, .getfield 62, 3, 5, 9, 0, 54) from xlk (by decide +kernel)) (by decide) (xobf xob_5 (by decide) (by decide)) rfl (n := 38) rfl ?_
      obtain ⟨j1, hj1, rr1, G1, hm1, hG1, t⟩ := t
      obtain ⟨rfl, t⟩ := t
      refine xw_callv (dk := j1) (o := 18) (as := [vi (1), vi ((F) (18) 9)]) (show xlook 38 38 = some (38, .invokevirtual 89, 3, 31, 3, 0, 37) from xlk (by decide +kernel)) (by decide) hj1 ⟨Nat.le_of_ble_eq_true rfl, Nat.le_of_ble_eq_true rfl, Nat.le_of_ble_eq_true rfl⟩ ⟨xob_5.1, xob_5.2, by decide⟩ rfl hm1 (n := 41) rfl ?_
      show xW X d 38 41 [.ref (18)] [] G1 (xqv Q)
      exact xw_return hG1 (show xlook 38 41 = some (41, .return_, 1, 0, 0, 0, 0) from xlk (by decide +kernel)) rfl (t hG1)
    · replace t := t.2 c
      refine xw_aload_n (n := 17) (show xlook 38 16 = some (16, .aload_n 0, 1, 0, 0, 0, 0) from xlk (by decide +kernel)) rfl rfl ?_
      refine xw_geti (show xlook 38 17 = some (17, .getfield 65, 3, 5, 10, 0, 55) from xlk (by decide +kernel)) (by decide) (xobf xob_5 (by decide) (by decide)) rfl (n := 20) rfl ?_
      refine xw_bipush (n := 22) (show xlook 38 20 = some (20, .bipush 59, 2, 0, 0, 0, 0) from xlk (by decide +kernel)) rfl (by decide) ?_
      obtain ⟨q0, t⟩ := t
      refine xw_icmp_ne (n := 25) (m := 32) (show xlook 38 22 = some (22, .if_icmp .ne 10, 3, 32, 0, 0, 0) from xlk (by decide +kernel)) rfl rfl q0 ⟨by decide, by decide⟩ ⟨fun c => ?_, fun c => ?_⟩
      · replace t := t.1 c
        refine xw_aload_n (n := 33) (show xlook 38 32 = some (32, .aload_n 0, 1, 0, 0, 0, 0) from xlk (by decide +kernel)) rfl rfl ?_
        refine xw_iconst (n := 34) (show xlook 38 33 = some (33, .iconst 1, 1, 0, 0, 0, 0) from xlk (by decide +kernel)) rfl ?_
        refine xw_aload_n (n := 35) (show xlook 38 34 = some (34, .aload_n 0, 1, 0, 0, 0, 0) from xlk (by decide +kernel)) rfl rfl ?_
        refine xw_geti (show xlook 38 35 = some (35, .getfield 62, 3, 5, 9, 0, 54) from xlk (by decide +kernel)) (by decide) (xobf xob_5 (by decide) (by decide)) rfl (n := 38) rfl ?_
        obtain ⟨j2, hj2, rr2, G2, hm2, hG2, t⟩ := t
        obtain ⟨rfl, t⟩ := t
        refine xw_callv (dk := j2) (o := 18) (as := [vi (1), vi ((F) (18) 9)]) (show xlook 38 38 = some (38, .invokevirtual 89, 3, 31, 3, 0, 37) from xlk (by decide +kernel)) (by decide) hj2 ⟨Nat.le_of_ble_eq_true rfl, Nat.le_of_ble_eq_true rfl, Nat.le_of_ble_eq_true rfl⟩ ⟨xob_5.1, xob_5.2, by decide⟩ rfl hm2 (n := 41) rfl ?_
        show xW X d 38 41 [.ref (18)] [] G2 (xqv Q)
        exact xw_return hG2 (show xlook 38 41 = some (41, .return_, 1, 0, 0, 0, 0) from xlk (by decide +kernel)) rfl (t hG2)
      · replace t := t.2 c
        refine xw_aload_n (n := 26) (show xlook 38 25 = some (25, .aload_n 0, 1, 0, 0, 0, 0) from xlk (by decide +kernel)) rfl rfl ?_
        obtain ⟨j3, hj3, rr3, G3, hm3, hG3, t⟩ := t
        obtain ⟨rfl, t⟩ := t
        refine xw_callv (dk := j3) (o := 18) (as := []) (show xlook 38 26 = some (26, .invokevirtual 53, 3, 32, 1, 0, 30) from xlk (by decide +kernel)) (by decide) hj3 ⟨Nat.le_of_ble_eq_true rfl, Nat.le_of_ble_eq_true rfl, Nat.le_of_ble_eq_true rfl⟩ ⟨xob_5.1, xob_5.2, by decide⟩ rfl hm3 (n := 29) rfl ?_
        show xW X d 38 29 [.ref (18)] [] G3 (xqv Q)
        refine xw_goto (m := 41) (show xlook 38 29 = some (29, .goto 12, 3, 41, 0, 0, 0) from xlk (by decide +kernel)) rfl ?_
        exact xw_return hG3 (show xlook 38 41 = some (41, .return_, 1, 0, 0, 0, 0) from xlk (by decide +kernel)) rfl (t hG3)
  · replace t := t.2 c
    exact xw_return hPT (show xlook 38 7 = some (7, .return_, 1, 0, 0, 0, 0) from xlk (by decide +kernel)) rfl (t hPT)
theorem m38 {X : List Int32} {d : Nat} {F : XF} {Q : XF → Prop}  (hPT : xPT F)  (t : inR ((F) (18) 1) ∧ (((((F) (18) 1) = (0)) → (inR ((F) (18) 8) ∧ (((¬ ((F) (18) 8) = (3)) → (∃ (j1 : Nat), j1 < d ∧ xMV X j1 31 [.ref (18), vi (1), vi ((F) (18) 9)] (F) (fun (G1 : XF) => (xPT (G1) → Q (G1))))) ∧ (¬ (¬ ((F) (18) 8) = (3)) → (inR ((F) (18) 10) ∧ (((¬ ((F) (18) 10) = (59)) → (∃ (j2 : Nat), j2 < d ∧ xMV X j2 31 [.ref (18), vi (1), vi ((F) (18) 9)] (F) (fun (G2 : XF) => (xPT (G2) → Q (G2))))) ∧ (¬ (¬ ((F) (18) 10) = (59)) → (∃ (j3 : Nat), j3 < d ∧ xMV X j3 32 [.ref (18)] (F) (fun (G3 : XF) => (xPT (G3) → Q (G3))))))))))) ∧ (¬ (((F) (18) 1) = (0)) → (xPT (F) → Q (F))))) : xMV X d 38 [.ref (18)] F Q := by
  show xW X d 38 0 [.ref (18)] [] F (xqv Q)
  exact s38_0 hPT  t

theorem s39_0 {X : List Int32} {d : Nat} {F : XF} {Q : XF → Prop}  (hPT : xPT F)  (t : ∃ (j1 : Nat), j1 < d ∧ xMI X j1 35 [.ref (18), .ref (xSB + 2 * 0)] (F) (fun (y1 : Int) (G1 : XF) => (inR (y1) ∧ ((((y1) = (0)) → (∃ (j2 : Nat), j2 < d ∧ xMI X j2 35 [.ref (18), .ref (xSB + 2 * 1)] (G1) (fun (y2 : Int) (G2 : XF) => (inR (y2) ∧ ((((y2) = (0)) → (∃ (j3 : Nat), j3 < d ∧ xMI X j3 35 [.ref (18), .ref (xSB + 2 * 2)] (G2) (fun (y3 : Int) (G3 : XF) => (inR (y3) ∧ ((((y3) = (0)) → (∃ (j4 : Nat), j4 < d ∧ xMI X j4 35 [.ref (18), .ref (xSB + 2 * 3)] (G3) (fun (y4 : Int) (G4 : XF) => (inR (y4) ∧ ((((y4) = (0)) → (∃ (j5 : Nat), j5 < d ∧ xMV X j5 41 [.ref (18)] (G4) (fun (G5 : XF) => (∃ (j6 : Nat), j6 < d ∧ xMV X j6 38 [.ref (18)] (G5) (fun (G6 : XF) => (xPT (G6) → Q (G6))))))) ∧ (¬ ((y4) = (0)) → (∃ t7 : Nat, (G4) (18) 5 = (t7 : Int) ∧ xob 9 t7 ∧ (∃ (j8 : Nat), j8 < d ∧ xMI X j8 40 [.ref (18), vi (8), vi (0), vi (999)] (G4) (fun (y8 : Int) (G8 : XF) => (∃ (j9 : Nat), j9 < d ∧ xMV X j9 38 [.ref (18)] (xup (G8) (t7) 3 (y8)) (fun (G9 : XF) => (xPT (G9) → Q (G9))))))))))))) ∧ (¬ ((y3) = (0)) → (∃ t10 : Nat, (G3) (18) 5 = (t10 : Int) ∧ xob 9 t10 ∧ (∃ (j11 : Nat), j11 < d ∧ xMI X j11 40 [.ref (18), vi (4), vi (0), vi (50)] (G3) (fun (y11 : Int) (G11 : XF) => (∃ (j12 : Nat), j12 < d ∧ xMV X j12 38 [.ref (18)] (xup (G11) (t10) 2 (y11)) (fun (G12 : XF) => (xPT (G12) → Q (G12))))))))))))) ∧ (¬ ((y2) = (0)) → (∃ t13 : Nat, (G2) (18) 5 = (t13 : Int) ∧ xob 9 t13 ∧ (∃ (j14 : Nat), j14 < d ∧ xMI X j14 40 [.ref (18), vi (2), vi (1), vi (50)] (G2) (fun (y14 : Int) (G14 : XF) => (∃ (j15 : Nat), j15 < d ∧ xMV X j15 38 [.ref (18)] (xup (G14) (t13) 1 (y14)) (fun (G15 : XF) => (xPT (G15) → Q (G15))))))))))))) ∧ (¬ ((y1) = (0)) → (inR (xand ((G1) (18) 7) (16)) ∧ ((((xand ((G1) (18) 7) (16)) = (0)) → (xPT (G1) → xW X d 39 28 [.ref (18)] [] (G1) (xqv Q))) ∧ (¬ ((xand ((G1) (18) 7) (16)) = (0)) → (∃ (j16 : Nat), j16 < d ∧ xMV X j16 31 [.ref (18), vi (1), vi ((G1) (18) 9)] (G1) (fun (G16 : XF) => (xPT (G16) → xW X d 39 28 [.ref (18)] [] (G16) (xqv Q)))))))))))) : xW X d 39 0 [.ref (18)] [] F (xqv Q) := by
  refine xw_aload_n (n := 1) (show xlook 39 0 = some (0, .aload_n 0, 1, 0, 0, 0, 0) from xlk (by decide +kernel)) rfl rfl ?_
  refine xw_ldcs (n := 3) (show xlook 39 1 = some (1, .ldc 93, 2, 0, 1, 0, 0) from xlk (by decide +kernel)) rfl (by decide) ?_
  obtain ⟨j1, hj1, rr1, G1, hm1, hG1, t⟩ := t
  obtain ⟨y1, rfl, t⟩ := t
  refine xw_callv (dk := j1) (o := 18) (as := [.ref (xSB + 2 * 0)]) (show xlook 39 3 = some (3, .invokevirtual 85, 3, 35, 2, 0, 36) from xlk (by decide +kernel)) (by decide) hj1 ⟨Nat.le_of_ble_eq_true rfl, Nat.le_of_ble_eq_true rfl, Nat.le_of_ble_eq_true rfl⟩ ⟨xob_5.1, xob_5.2, by decide⟩ rfl hm1 (n := 6) rfl ?_
  show xW X d 39 6 [.ref (18)] [vi (y1)] G1 (xqv Q)
  obtain ⟨q0, t⟩ := t
  refine xw_if_eq (n := 9) (m := 48) (show xlook 39 6 = some (6, .ifCond .eq 42, 3, 48, 0, 0, 0) from xlk (by decide +kernel)) rfl rfl q0 ⟨fun c => ?_, fun c => ?_⟩
  · replace t := t.1 c
    refine xw_aload_n (n := 49) (show xlook 39 48 = some (48, .aload_n 0, 1, 0, 0, 0, 0) from xlk (by decide +kernel)) rfl rfl ?_
    refine xw_ldcs (n := 51) (show xlook 39 49 = some (49, .ldc 101, 2, 1, 1, 0, 0) from xlk (by decide +kernel)) rfl (by decide) ?_
    obtain ⟨j2, hj2, rr2, G2, hm2, hG2, t⟩ := t
    obtain ⟨y2, rfl, t⟩ := t
    refine xw_callv (dk := j2) (o := 18) (as := [.ref (xSB + 2 * 1)]) (show xlook 39 51 = some (51, .invokevirtual 85, 3, 35, 2, 0, 36) from xlk (by decide +kernel)) (by decide) hj2 ⟨Nat.le_of_ble_eq_true rfl, Nat.le_of_ble_eq_true rfl, Nat.le_of_ble_eq_true rfl⟩ ⟨xob_5.1, xob_5.2, by decide⟩ rfl hm2 (n := 54) rfl ?_
    show xW X d 39 54 [.ref (18)] [vi (y2)] G2 (xqv Q)
    obtain ⟨q0, t⟩ := t
    refine xw_if_eq (n := 57) (m := 75) (show xlook 39 54 = some (54, .ifCond .eq 21, 3, 75, 0, 0, 0) from xlk (by decide +kernel)) rfl rfl q0 ⟨fun c => ?_, fun c => ?_⟩
    · replace t := t.1 c
      refine xw_aload_n (n := 76) (show xlook 39 75 = some (75, .aload_n 0, 1, 0, 0, 0, 0) from xlk (by decide +kernel)) rfl rfl ?_
      refine xw_ldcs (n := 78) (show xlook 39 76 = some (76, .ldc 105, 2, 2, 1, 0, 0) from xlk (by decide +kernel)) rfl (by decide) ?_
      obtain ⟨j3, hj3, rr3, G3, hm3, hG3, t⟩ := t
      obtain ⟨y3, rfl, t⟩ := t
      refine xw_callv (dk := j3) (o := 18) (as := [.ref (xSB + 2 * 2)]) (show xlook 39 78 = some (78, .invokevirtual 85, 3, 35, 2, 0, 36) from xlk (by decide +kernel)) (by decide) hj3 ⟨Nat.le_of_ble_eq_true rfl, Nat.le_of_ble_eq_true rfl, Nat.le_of_ble_eq_true rfl⟩ ⟨xob_5.1, xob_5.2, by decide⟩ rfl hm3 (n := 81) rfl ?_
      show xW X d 39 81 [.ref (18)] [vi (y3)] G3 (xqv Q)
      obtain ⟨q0, t⟩ := t
      refine xw_if_eq (n := 84) (m := 102) (show xlook 39 81 = some (81, .ifCond .eq 21, 3, 102, 0, 0, 0) from xlk (by decide +kernel)) rfl rfl q0 ⟨fun c => ?_, fun c => ?_⟩
      · replace t := t.1 c
        refine xw_aload_n (n := 103) (show xlook 39 102 = some (102, .aload_n 0, 1, 0, 0, 0, 0) from xlk (by decide +kernel)) rfl rfl ?_
        refine xw_ldcs (n := 105) (show xlook 39 103 = some (103, .ldc 109, 2, 3, 1, 0, 0) from xlk (by decide +kernel)) rfl (by decide) ?_
        obtain ⟨j4, hj4, rr4, G4, hm4, hG4, t⟩ := t
        obtain ⟨y4, rfl, t⟩ := t
        refine xw_callv (dk := j4) (o := 18) (as := [.ref (xSB + 2 * 3)]) (show xlook 39 105 = some (105, .invokevirtual 85, 3, 35, 2, 0, 36) from xlk (by decide +kernel)) (by decide) hj4 ⟨Nat.le_of_ble_eq_true rfl, Nat.le_of_ble_eq_true rfl, Nat.le_of_ble_eq_true rfl⟩ ⟨xob_5.1, xob_5.2, by decide⟩ rfl hm4 (n := 108) rfl ?_
        show xW X d 39 108 [.ref (18)] [vi (y4)] G4 (xqv Q)
        obtain ⟨q0, t⟩ := t
        refine xw_if_eq (n := 111) (m := 131) (show xlook 39 108 = some (108, .ifCond .eq 23, 3, 131, 0, 0, 0) from xlk (by decide +kernel)) rfl rfl q0 ⟨fun c => ?_, fun c => ?_⟩
        · replace t := t.1 c
          refine xw_aload_n (n := 132) (show xlook 39 131 = some (131, .aload_n 0, 1, 0, 0, 0, 0) from xlk (by decide +kernel)) rfl rfl ?_
          obtain ⟨j5, hj5, rr5, G5, hm5, hG5, t⟩ := t
          obtain ⟨rfl, t⟩ := t
          refine xw_callv (dk := j5) (o := 18) (as := []) (show xlook 39 132 = some (132, .invokevirtual 113, 3, 41, 1, 0, 39) from xlk (by decide +kernel)) (by decide) hj5 ⟨Nat.le_of_ble_eq_true rfl, Nat.le_of_ble_eq_true rfl, Nat.le_of_ble_eq_true rfl⟩ ⟨xob_5.1, xob_5.2, by decide⟩ rfl hm5 (n := 135) rfl ?_
          show xW X d 39 135 [.ref (18)] [] G5 (xqv Q)
          refine xw_aload_n (n := 136) (show xlook 39 135 = some (135, .aload_n 0, 1, 0, 0, 0, 0) from xlk (by decide +kernel)) rfl rfl ?_
          obtain ⟨j6, hj6, rr6, G6, hm6, hG6, t⟩ := t
          obtain ⟨rfl, t⟩ := t
          refine xw_callv (dk := j6) (o := 18) (as := []) (show xlook 39 136 = some (136, .invokevirtual 116, 3, 38, 1, 0, 40) from xlk (by decide +kernel)) (by decide) hj6 ⟨Nat.le_of_ble_eq_true rfl, Nat.le_of_ble_eq_true rfl, Nat.le_of_ble_eq_true rfl⟩ ⟨xob_5.1, xob_5.2, by decide⟩ rfl hm6 (n := 139) rfl ?_
          show xW X d 39 139 [.ref (18)] [] G6 (xqv Q)
          exact xw_return hG6 (show xlook 39 139 = some (139, .return_, 1, 0, 0, 0, 0) from xlk (by decide +kernel)) rfl (t hG6)
        · replace t := t.2 c
          refine xw_aload_n (n := 112) (show xlook 39 111 = some (111, .aload_n 0, 1, 0, 0, 0, 0) from xlk (by decide +kernel)) rfl rfl ?_
          obtain ⟨t7, q1, ht7, t⟩ := t
          refine xw_getr (q := t7) (show xlook 39 112 = some (112, .getfield 22, 3, 5, 5, 0, 46) from xlk (by decide +kernel)) (by decide) (xobf xob_5 (by decide) (by decide)) rfl q1 (by have := ht7.1; omega) (n := 115) rfl ?_
          refine xw_aload_n (n := 116) (show xlook 39 115 = some (115, .aload_n 0, 1, 0, 0, 0, 0) from xlk (by decide +kernel)) rfl rfl ?_
          refine xw_bipush (n := 118) (show xlook 39 116 = some (116, .bipush 8, 2, 0, 0, 0, 0) from xlk (by decide +kernel)) rfl (by decide) ?_
          refine xw_iconst (n := 119) (show xlook 39 118 = some (118, .iconst 0, 1, 0, 0, 0, 0) from xlk (by decide +kernel)) rfl ?_
          refine xw_sipush (n := 122) (show xlook 39 119 = some (119, .sipush 999, 3, 0, 0, 0, 0) from xlk (by decide +kernel)) rfl (by decide) ?_
          obtain ⟨j8, hj8, rr8, G8, hm8, hG8, t⟩ := t
          obtain ⟨y8, rfl, t⟩ := t
          refine xw_callv (dk := j8) (o := 18) (as := [vi (8), vi (0), vi (999)]) (show xlook 39 122 = some (122, .invokevirtual 95, 3, 40, 4, 0, 38) from xlk (by decide +kernel)) (by decide) hj8 ⟨Nat.le_of_ble_eq_true rfl, Nat.le_of_ble_eq_true rfl, Nat.le_of_ble_eq_true rfl⟩ ⟨xob_5.1, xob_5.2, by decide⟩ rfl hm8 (n := 125) rfl ?_
          show xW X d 39 125 [.ref (18)] [vi (y8), .ref (t7)] G8 (xqv Q)
          refine xw_puti (show xlook 39 125 = some (125, .putfield 111, 3, 9, 3, 0, 59) from xlk (by decide +kernel)) (xobf ht7 (by decide) (by decide)) rfl (n := 128) rfl ?_
          refine xw_goto (m := 135) (show xlook 39 128 = some (128, .goto 7, 3, 135, 0, 0, 0) from xlk (by decide +kernel)) rfl ?_
          refine xw_aload_n (n := 136) (show xlook 39 135 = some (135, .aload_n 0, 1, 0, 0, 0, 0) from xlk (by decide +kernel)) rfl rfl ?_
          obtain ⟨j9, hj9, rr9, G9, hm9, hG9, t⟩ := t
          obtain ⟨rfl, t⟩ := t
          refine xw_callv (dk := j9) (o := 18) (as := []) (show xlook 39 136 = some (136, .invokevirtual 116, 3, 38, 1, 0, 40) from xlk (by decide +kernel)) (by decide) hj9 ⟨Nat.le_of_ble_eq_true rfl, Nat.le_of_ble_eq_true rfl, Nat.le_of_ble_eq_true rfl⟩ ⟨xob_5.1, xob_5.2, by decide⟩ rfl hm9 (n := 139) rfl ?_
          show xW X d 39 139 [.ref (18)] [] G9 (xqv Q)
          exact xw_return hG9 (show xlook 39 139 = some (139, .return_, 1, 0, 0, 0, 0) from xlk (by decide +kernel)) rfl (t hG9)
      · replace t := t.2 c
        refine xw_aload_n (n := 85) (show xlook 39 84 = some (84, .aload_n 0, 1, 0, 0, 0, 0) from xlk (by decide +kernel)) rfl rfl ?_
        obtain ⟨t10, q1, ht10, t⟩ := t
        refine xw_getr (q := t10) (show xlook 39 85 = some (85, .getfield 22, 3, 5, 5, 0, 46) from xlk (by decide +kernel)) (by decide) (xobf xob_5 (by decide) (by decide)) rfl q1 (by have := ht10.1; omega) (n := 88) rfl ?_
        refine xw_aload_n (n := 89) (show xlook 39 88 = some (88, .aload_n 0, 1, 0, 0, 0, 0) from xlk (by decide +kernel)) rfl rfl ?_
        refine xw_iconst (n := 90) (show xlook 39 89 = some (89, .iconst 4, 1, 0, 0, 0, 0) from xlk (by decide +kernel)) rfl ?_
        refine xw_iconst (n := 91) (show xlook 39 90 = some (90, .iconst 0, 1, 0, 0, 0, 0) from xlk (by decide +kernel)) rfl ?_
        refine xw_bipush (n := 93) (show xlook 39 91 = some (91, .bipush 50, 2, 0, 0, 0, 0) from xlk (by decide +kernel)) rfl (by decide) ?_
        obtain ⟨j11, hj11, rr11, G11, hm11, hG11, t⟩ := t
        obtain ⟨y11, rfl, t⟩ := t
        refine xw_callv (dk := j11) (o := 18) (as := [vi (4), vi (0), vi (50)]) (show xlook 39 93 = some (93, .invokevirtual 95, 3, 40, 4, 0, 38) from xlk (by decide +kernel)) (by decide) hj11 ⟨Nat.le_of_ble_eq_true rfl, Nat.le_of_ble_eq_true rfl, Nat.le_of_ble_eq_true rfl⟩ ⟨xob_5.1, xob_5.2, by decide⟩ rfl hm11 (n := 96) rfl ?_
        show xW X d 39 96 [.ref (18)] [vi (y11), .ref (t10)] G11 (xqv Q)
        refine xw_puti (show xlook 39 96 = some (96, .putfield 107, 3, 9, 2, 0, 58) from xlk (by decide +kernel)) (xobf ht10 (by decide) (by decide)) rfl (n := 99) rfl ?_
        refine xw_goto (m := 135) (show xlook 39 99 = some (99, .goto 36, 3, 135, 0, 0, 0) from xlk (by decide +kernel)) rfl ?_
        refine xw_aload_n (n := 136) (show xlook 39 135 = some (135, .aload_n 0, 1, 0, 0, 0, 0) from xlk (by decide +kernel)) rfl rfl ?_
        obtain ⟨j12, hj12, rr12, G12, hm12, hG12, t⟩ := t
        obtain ⟨rfl, t⟩ := t
        refine xw_callv (dk := j12) (o := 18) (as := []) (show xlook 39 136 = some (136, .invokevirtual 116, 3, 38, 1, 0, 40) from xlk (by decide +kernel)) (by decide) hj12 ⟨Nat.le_of_ble_eq_true rfl, Nat.le_of_ble_eq_true rfl, Nat.le_of_ble_eq_true rfl⟩ ⟨xob_5.1, xob_5.2, by decide⟩ rfl hm12 (n := 139) rfl ?_
        show xW X d 39 139 [.ref (18)] [] G12 (xqv Q)
        exact xw_return hG12 (show xlook 39 139 = some (139, .return_, 1, 0, 0, 0, 0) from xlk (by decide +kernel)) rfl (t hG12)
    · replace t := t.2 c
      refine xw_aload_n (n := 58) (show xlook 39 57 = some (57, .aload_n 0, 1, 0, 0, 0, 0) from xlk (by decide +kernel)) rfl rfl ?_
      obtain ⟨t13, q1, ht13, t⟩ := t
      refine xw_getr (q := t13) (show xlook 39 58 = some (58, .getfield 22, 3, 5, 5, 0, 46) from xlk (by decide +kernel)) (by decide) (xobf xob_5 (by decide) (by decide)) rfl q1 (by have := ht13.1; omega) (n := 61) rfl ?_
      refine xw_aload_n (n := 62) (show xlook 39 61 = some (61, .aload_n 0, 1, 0, 0, 0, 0) from xlk (by decide +kernel)) rfl rfl ?_
      refine xw_iconst (n := 63) (show xlook 39 62 = some (62, .iconst 2, 1, 0, 0, 0, 0) from xlk (by decide +kernel)) rfl ?_
      refine xw_iconst (n := 64) (show xlook 39 63 = some (63, .iconst 1, 1, 0, 0, 0, 0) from xlk (by decide +kernel)) rfl ?_
      refine xw_bipush (n := 66) (show xlook 39 64 = some (64, .bipush 50, 2, 0, 0, 0, 0) from xlk (by decide +kernel)) rfl (by decide) ?_
      obtain ⟨j14, hj14, rr14, G14, hm14, hG14, t⟩ := t
      obtain ⟨y14, rfl, t⟩ := t
      refine xw_callv (dk := j14) (o := 18) (as := [vi (2), vi (1), vi (50)]) (show xlook 39 66 = some (66, .invokevirtual 95, 3, 40, 4, 0, 38) from xlk (by decide +kernel)) (by decide) hj14 ⟨Nat.le_of_ble_eq_true rfl, Nat.le_of_ble_eq_true rfl, Nat.le_of_ble_eq_true rfl⟩ ⟨xob_5.1, xob_5.2, by decide⟩ rfl hm14 (n := 69) rfl ?_
      show xW X d 39 69 [.ref (18)] [vi (y14), .ref (t13)] G14 (xqv Q)
      refine xw_puti (show xlook 39 69 = some (69, .putfield 103, 3, 9, 1, 0, 57) from xlk (by decide +kernel)) (xobf ht13 (by decide) (by decide)) rfl (n := 72) rfl ?_
      refine xw_goto (m := 135) (show xlook 39 72 = some (72, .goto 63, 3, 135, 0, 0, 0) from xlk (by decide +kernel)) rfl ?_
      refine xw_aload_n (n := 136) (show xlook 39 135 = some (135, .aload_n 0, 1, 0, 0, 0, 0) from xlk (by decide +kernel)) rfl rfl ?_
      obtain ⟨j15, hj15, rr15, G15, hm15, hG15, t⟩ := t
      obtain ⟨rfl, t⟩ := t
      refine xw_callv (dk := j15) (o := 18) (as := []) (show xlook 39 136 = some (136, .invokevirtual 116, 3, 38, 1, 0, 40) from xlk (by decide +kernel)) (by decide) hj15 ⟨Nat.le_of_ble_eq_true rfl, Nat.le_of_ble_eq_true rfl, Nat.le_of_ble_eq_true rfl⟩ ⟨xob_5.1, xob_5.2, by decide⟩ rfl hm15 (n := 139) rfl ?_
      show xW X d 39 139 [.ref (18)] [] G15 (xqv Q)
      exact xw_return hG15 (show xlook 39 139 = some (139, .return_, 1, 0, 0, 0, 0) from xlk (by decide +kernel)) rfl (t hG15)
  · replace t := t.2 c
    refine xw_aload_n (n := 10) (show xlook 39 9 = some (9, .aload_n 0, 1, 0, 0, 0, 0) from xlk (by decide +kernel)) rfl rfl ?_
    refine xw_geti (show xlook 39 10 = some (10, .getfield 47, 3, 5, 7, 0, 51) from xlk (by decide +kernel)) (by decide) (xobf xob_5 (by decide) (by decide)) rfl (n := 13) rfl ?_
    refine xw_bipush (n := 15) (show xlook 39 13 = some (13, .bipush 16, 2, 0, 0, 0, 0) from xlk (by decide +kernel)) rfl (by decide) ?_
    refine xw_iand (n := 16) (show xlook 39 15 = some (15, .iand, 1, 0, 0, 0, 0) from xlk (by decide +kernel)) rfl ?_
    obtain ⟨q0, t⟩ := t
    refine xw_if_eq (n := 19) (m := 28) (show xlook 39 16 = some (16, .ifCond .eq 12, 3, 28, 0, 0, 0) from xlk (by decide +kernel)) rfl rfl q0 ⟨fun c => ?_, fun c => ?_⟩
    · replace t := t.1 c
      exact t hG1
    · replace t := t.2 c
      refine xw_aload_n (n := 20) (show xlook 39 19 = some (19, .aload_n 0, 1, 0, 0, 0, 0) from xlk (by decide +kernel)) rfl rfl ?_
      refine xw_iconst (n := 21) (show xlook 39 20 = some (20, .iconst 1, 1, 0, 0, 0, 0) from xlk (by decide +kernel)) rfl ?_
      refine xw_aload_n (n := 22) (show xlook 39 21 = some (21, .aload_n 0, 1, 0, 0, 0, 0) from xlk (by decide +kernel)) rfl rfl ?_
      refine xw_geti (show xlook 39 22 = some (22, .getfield 62, 3, 5, 9, 0, 54) from xlk (by decide +kernel)) (by decide) (xobf xob_5 (by decide) (by decide)) rfl (n := 25) rfl ?_
      obtain ⟨j16, hj16, rr16, G16, hm16, hG16, t⟩ := t
      obtain ⟨rfl, t⟩ := t
      refine xw_callv (dk := j16) (o := 18) (as := [vi (1), vi ((G1) (18) 9)]) (show xlook 39 25 = some (25, .invokevirtual 89, 3, 31, 3, 0, 37) from xlk (by decide +kernel)) (by decide) hj16 ⟨Nat.le_of_ble_eq_true rfl, Nat.le_of_ble_eq_true rfl, Nat.le_of_ble_eq_true rfl⟩ ⟨xob_5.1, xob_5.2, by decide⟩ rfl hm16 (n := 28) rfl ?_
      show xW X d 39 28 [.ref (18)] [] G16 (xqv Q)
      exact t hG16
theorem m39 {X : List Int32} {d : Nat} {F : XF} {Q : XF → Prop}  (hPT : xPT F)  (t : ∃ (j1 : Nat), j1 < d ∧ xMI X j1 35 [.ref (18), .ref (xSB + 2 * 0)] (F) (fun (y1 : Int) (G1 : XF) => (inR (y1) ∧ ((((y1) = (0)) → (∃ (j2 : Nat), j2 < d ∧ xMI X j2 35 [.ref (18), .ref (xSB + 2 * 1)] (G1) (fun (y2 : Int) (G2 : XF) => (inR (y2) ∧ ((((y2) = (0)) → (∃ (j3 : Nat), j3 < d ∧ xMI X j3 35 [.ref (18), .ref (xSB + 2 * 2)] (G2) (fun (y3 : Int) (G3 : XF) => (inR (y3) ∧ ((((y3) = (0)) → (∃ (j4 : Nat), j4 < d ∧ xMI X j4 35 [.ref (18), .ref (xSB + 2 * 3)] (G3) (fun (y4 : Int) (G4 : XF) => (inR (y4) ∧ ((((y4) = (0)) → (∃ (j5 : Nat), j5 < d ∧ xMV X j5 41 [.ref (18)] (G4) (fun (G5 : XF) => (∃ (j6 : Nat), j6 < d ∧ xMV X j6 38 [.ref (18)] (G5) (fun (G6 : XF) => (xPT (G6) → Q (G6))))))) ∧ (¬ ((y4) = (0)) → (∃ t7 : Nat, (G4) (18) 5 = (t7 : Int) ∧ xob 9 t7 ∧ (∃ (j8 : Nat), j8 < d ∧ xMI X j8 40 [.ref (18), vi (8), vi (0), vi (999)] (G4) (fun (y8 : Int) (G8 : XF) => (∃ (j9 : Nat), j9 < d ∧ xMV X j9 38 [.ref (18)] (xup (G8) (t7) 3 (y8)) (fun (G9 : XF) => (xPT (G9) → Q (G9))))))))))))) ∧ (¬ ((y3) = (0)) → (∃ t10 : Nat, (G3) (18) 5 = (t10 : Int) ∧ xob 9 t10 ∧ (∃ (j11 : Nat), j11 < d ∧ xMI X j11 40 [.ref (18), vi (4), vi (0), vi (50)] (G3) (fun (y11 : Int) (G11 : XF) => (∃ (j12 : Nat), j12 < d ∧ xMV X j12 38 [.ref (18)] (xup (G11) (t10) 2 (y11)) (fun (G12 : XF) => (xPT (G12) → Q (G12))))))))))))) ∧ (¬ ((y2) = (0)) → (∃ t13 : Nat, (G2) (18) 5 = (t13 : Int) ∧ xob 9 t13 ∧ (∃ (j14 : Nat), j14 < d ∧ xMI X j14 40 [.ref (18), vi (2), vi (1), vi (50)] (G2) (fun (y14 : Int) (G14 : XF) => (∃ (j15 : Nat), j15 < d ∧ xMV X j15 38 [.ref (18)] (xup (G14) (t13) 1 (y14)) (fun (G15 : XF) => (xPT (G15) → Q (G15))))))))))))) ∧ (¬ ((y1) = (0)) → (inR (xand ((G1) (18) 7) (16)) ∧ ((((xand ((G1) (18) 7) (16)) = (0)) → (xPT (G1) → xW X d 39 28 [.ref (18)] [] (G1) (xqv Q))) ∧ (¬ ((xand ((G1) (18) 7) (16)) = (0)) → (∃ (j16 : Nat), j16 < d ∧ xMV X j16 31 [.ref (18), vi (1), vi ((G1) (18) 9)] (G1) (fun (G16 : XF) => (xPT (G16) → xW X d 39 28 [.ref (18)] [] (G16) (xqv Q)))))))))))) : xMV X d 39 [.ref (18)] F Q := by
  show xW X d 39 0 [.ref (18)] [] F (xqv Q)
  exact s39_0 hPT  t

