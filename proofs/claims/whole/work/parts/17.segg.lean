set_option maxHeartbeats 4000000
set_option maxRecDepth 100000
theorem s178_221 {X : List Int32} {d : Nat} {F : XF} {Q : XF → Prop} {x1 : Int} {x2 : Int} {x3 : Int} {x4 : Int} {x5 : Int} {x6 : Int} {x7 : Int} (hPT : xPT F)  (t : (0 ≤ (((x1) + (30)) + (x2)) ∧ (((x1) + (30)) + (x2)) < 264) ∧ ((0 ≤ ((x1) + (x2)) ∧ ((x1) + (x2)) < 264) ∧ ((0 ≤ ((x1) + (x2)) ∧ ((x1) + (x2)) < 264) ∧ (inR (x1) ∧ (((¬ (x1) = (0)) → (xPT (xup (xup (F) (140) (((x1) + (30)) + (x2)) ((F) (131) 22)) (140) ((x1) + (x2)) (((xup (F) (140) (((x1) + (30)) + (x2)) ((F) (131) 22)) (140) ((x1) + (x2))) + ((F) (131) 21))) → xW X d 178 263 [.ref (131), vi (x1), vi (x2), vi (x3), vi (x4), vi (x5), vi (x6), vi (x7)] [] (xup (xup (F) (140) (((x1) + (30)) + (x2)) ((F) (131) 22)) (140) ((x1) + (x2)) (((xup (F) (140) (((x1) + (30)) + (x2)) ((F) (131) 22)) (140) ((x1) + (x2))) + ((F) (131) 21))) (xqv Q))) ∧ (¬ (¬ (x1) = (0)) → (∃ (j1 : Nat), j1 < d ∧ xMV X j1 180 [.ref (131), vi (x2), vi (x5), vi (x3)] (xup (xup (F) (140) (((x1) + (30)) + (x2)) ((F) (131) 22)) (140) ((x1) + (x2)) (((xup (F) (140) (((x1) + (30)) + (x2)) ((F) (131) 22)) (140) ((x1) + (x2))) + ((F) (131) 21))) (fun (G1 : XF) => (xPT (G1) → xW X d 178 263 [.ref (131), vi (x1), vi (x2), vi (x3), vi (x4), vi (x5), vi (x6), vi (x7)] [] (G1) (xqv Q)))))))))) : xW X d 178 221 [.ref (131), vi (x1), vi (x2), vi (x3), vi (x4), vi (x5), vi (x6), vi (x7)] [] F (xqv Q) := by
  refine xw_aload_n (n := 222) (show xlook 178 221 = some (221, .aload_n 0, 1, 0, 0, 0, 0) from xlk (by decide +kernel)) rfl rfl ?_
  refine xw_getr (q := 140) (show xlook 178 222 = some (222, .getfield 42, 3, 12, 18, 0, 229) from xlk (by decide +kernel)) (by decide) (xobf xob_12 (by decide) (by decide)) rfl (xPT_get (k := 18) (f := 9) hPT xob_12 (by decide)) (by have := (xtg_12_18 _ xob_12.1 xob_12.2).1.1; omega) (n := 225) rfl ?_
  refine xw_iload_n (n := 226) (show xlook 178 225 = some (225, .iload_n 1, 1, 0, 0, 0, 0) from xlk (by decide +kernel)) rfl rfl ?_
  refine xw_bipush (n := 228) (show xlook 178 226 = some (226, .bipush 30, 2, 0, 0, 0, 0) from xlk (by decide +kernel)) rfl (by decide) ?_
  refine xw_iadd (n := 229) (show xlook 178 228 = some (228, .iadd, 1, 0, 0, 0, 0) from xlk (by decide +kernel)) rfl ?_
  refine xw_iload_n (n := 230) (show xlook 178 229 = some (229, .iload_n 2, 1, 0, 0, 0, 0) from xlk (by decide +kernel)) rfl rfl ?_
  refine xw_iadd (n := 231) (show xlook 178 230 = some (230, .iadd, 1, 0, 0, 0, 0) from xlk (by decide +kernel)) rfl ?_
  refine xw_aload_n (n := 232) (show xlook 178 231 = some (231, .aload_n 0, 1, 0, 0, 0, 0) from xlk (by decide +kernel)) rfl rfl ?_
  refine xw_geti (show xlook 178 232 = some (232, .getfield 218, 3, 12, 22, 0, 246) from xlk (by decide +kernel)) (by decide) (xobf xob_12 (by decide) (by decide)) rfl (n := 235) rfl ?_
  obtain ⟨q1, t⟩ := t
  refine xw_iast (show xlook 178 235 = some (235, .iastore, 1, 0, 0, 0, 0) from xlk (by decide +kernel)) (xtg_12_18 _ xob_12.1 xob_12.2).1 (by rw [(xtg_12_18 _ xob_12.1 xob_12.2).2]; exact q1) (n := 236) rfl ?_
  refine xw_aload_n (n := 237) (show xlook 178 236 = some (236, .aload_n 0, 1, 0, 0, 0, 0) from xlk (by decide +kernel)) rfl rfl ?_
  refine xw_getr (q := 140) (show xlook 178 237 = some (237, .getfield 42, 3, 12, 18, 0, 229) from xlk (by decide +kernel)) (by decide) (xobf xob_12 (by decide) (by decide)) rfl (xPT_get (k := 18) (f := 9) (xPT_arr hPT (Or.inl (xtg_12_18 _ xob_12.1 xob_12.2).1.2)) xob_12 (by decide)) (by have := (xtg_12_18 _ xob_12.1 xob_12.2).1.1; omega) (n := 240) rfl ?_
  refine xw_iload_n (n := 241) (show xlook 178 240 = some (240, .iload_n 1, 1, 0, 0, 0, 0) from xlk (by decide +kernel)) rfl rfl ?_
  refine xw_iload_n (n := 242) (show xlook 178 241 = some (241, .iload_n 2, 1, 0, 0, 0, 0) from xlk (by decide +kernel)) rfl rfl ?_
  refine xw_iadd (n := 243) (show xlook 178 242 = some (242, .iadd, 1, 0, 0, 0, 0) from xlk (by decide +kernel)) rfl ?_
  refine xw_dup2 (n := 244) (show xlook 178 243 = some (243, .dup2, 1, 0, 0, 0, 0) from xlk (by decide +kernel)) rfl ?_
  obtain ⟨q1, t⟩ := t
  refine xw_iald (show xlook 178 244 = some (244, .iaload, 1, 0, 0, 0, 0) from xlk (by decide +kernel)) (xtg_12_18 _ xob_12.1 xob_12.2).1 (by rw [(xtg_12_18 _ xob_12.1 xob_12.2).2]; exact q1) (n := 245) rfl ?_
  refine xw_aload_n (n := 246) (show xlook 178 245 = some (245, .aload_n 0, 1, 0, 0, 0, 0) from xlk (by decide +kernel)) rfl rfl ?_
  refine xw_geti2 (u := (F) (131) 21) (show xlook 178 246 = some (246, .getfield 215, 3, 12, 21, 0, 245) from xlk (by decide +kernel)) (by decide) (xobf xob_12 (by decide) (by decide)) rfl (xup_o (by decide)) (n := 249) rfl ?_
  refine xw_iadd (n := 250) (show xlook 178 249 = some (249, .iadd, 1, 0, 0, 0, 0) from xlk (by decide +kernel)) rfl ?_
  obtain ⟨q1, t⟩ := t
  refine xw_iast (show xlook 178 250 = some (250, .iastore, 1, 0, 0, 0, 0) from xlk (by decide +kernel)) (xtg_12_18 _ xob_12.1 xob_12.2).1 (by rw [(xtg_12_18 _ xob_12.1 xob_12.2).2]; exact q1) (n := 251) rfl ?_
  refine xw_iload_n (n := 252) (show xlook 178 251 = some (251, .iload_n 1, 1, 0, 0, 0, 0) from xlk (by decide +kernel)) rfl rfl ?_
  obtain ⟨q0, t⟩ := t
  refine xw_if_ne (n := 255) (m := 263) (show xlook 178 252 = some (252, .ifCond .ne 11, 3, 263, 0, 0, 0) from xlk (by decide +kernel)) rfl rfl q0 ⟨fun c => ?_, fun c => ?_⟩
  · replace t := t.1 c
    exact t (xPT_arr (xPT_arr hPT (Or.inl (xtg_12_18 _ xob_12.1 xob_12.2).1.2)) (Or.inl (xtg_12_18 _ xob_12.1 xob_12.2).1.2))
  · replace t := t.2 c
    refine xw_aload_n (n := 256) (show xlook 178 255 = some (255, .aload_n 0, 1, 0, 0, 0, 0) from xlk (by decide +kernel)) rfl rfl ?_
    refine xw_iload_n (n := 257) (show xlook 178 256 = some (256, .iload_n 2, 1, 0, 0, 0, 0) from xlk (by decide +kernel)) rfl rfl ?_
    refine xw_iload (n := 259) (show xlook 178 257 = some (257, .iload 5, 2, 0, 0, 0, 0) from xlk (by decide +kernel)) rfl rfl ?_
    refine xw_iload_n (n := 260) (show xlook 178 259 = some (259, .iload_n 3, 1, 0, 0, 0, 0) from xlk (by decide +kernel)) rfl rfl ?_
    obtain ⟨j1, hj1, rr1, G1, hm1, hG1, t⟩ := t
    obtain ⟨rfl, t⟩ := t
    refine xw_callv (dk := j1) (o := 131) (as := [vi (x2), vi (x5), vi (x3)]) (show xlook 178 260 = some (260, .invokevirtual 231, 3, 180, 4, 0, 185) from xlk (by decide +kernel)) (by decide) hj1 ⟨Nat.le_of_ble_eq_true rfl, Nat.le_of_ble_eq_true rfl, Nat.le_of_ble_eq_true rfl⟩ ⟨xob_12.1, xob_12.2, by decide⟩ rfl hm1 (n := 263) rfl ?_
    show xW X d 178 263 [.ref (131), vi (x1), vi (x2), vi (x3), vi (x4), vi (x5), vi (x6), vi (x7)] [] G1 (xqv Q)
    exact t hG1

theorem s178_263 {X : List Int32} {d : Nat} {F : XF} {Q : XF → Prop} {x1 : Int} {x2 : Int} {x3 : Int} {x4 : Int} {x5 : Int} {x6 : Int} {x7 : Int} (hPT : xPT F)  (t : (0 ≤ ((x1) + (131)) ∧ ((x1) + (131)) < 264) ∧ (∃ (j1 : Nat), j1 < d ∧ xMI X j1 172 [.ref (131), vi (x1), vi (x2)] (F) (fun (y1 : Int) (G1 : XF) => (inR (y1) ∧ ((((y1) = (0)) → ((0 ≤ ((x1) + (131)) ∧ ((x1) + (131)) < 264) ∧ (xPT (xup (G1) (140) ((x1) + (131)) (((F) (140) ((x1) + (131))) + (0))) → Q (xup (G1) (140) ((x1) + (131)) (((F) (140) ((x1) + (131))) + (0)))))) ∧ (¬ ((y1) = (0)) → ((0 ≤ ((x1) + (131)) ∧ ((x1) + (131)) < 264) ∧ (xPT (xup (G1) (140) ((x1) + (131)) (((F) (140) ((x1) + (131))) + (1))) → Q (xup (G1) (140) ((x1) + (131)) (((F) (140) ((x1) + (131))) + (1))))))))))) : xW X d 178 263 [.ref (131), vi (x1), vi (x2), vi (x3), vi (x4), vi (x5), vi (x6), vi (x7)] [] F (xqv Q) := by
  refine xw_aload_n (n := 264) (show xlook 178 263 = some (263, .aload_n 0, 1, 0, 0, 0, 0) from xlk (by decide +kernel)) rfl rfl ?_
  refine xw_getr (q := 140) (show xlook 178 264 = some (264, .getfield 42, 3, 12, 18, 0, 229) from xlk (by decide +kernel)) (by decide) (xobf xob_12 (by decide) (by decide)) rfl (xPT_get (k := 18) (f := 9) hPT xob_12 (by decide)) (by have := (xtg_12_18 _ xob_12.1 xob_12.2).1.1; omega) (n := 267) rfl ?_
  refine xw_iload_n (n := 268) (show xlook 178 267 = some (267, .iload_n 1, 1, 0, 0, 0, 0) from xlk (by decide +kernel)) rfl rfl ?_
  refine xw_sipush (n := 271) (show xlook 178 268 = some (268, .sipush 131, 3, 0, 0, 0, 0) from xlk (by decide +kernel)) rfl (by decide) ?_
  refine xw_iadd (n := 272) (show xlook 178 271 = some (271, .iadd, 1, 0, 0, 0, 0) from xlk (by decide +kernel)) rfl ?_
  refine xw_dup2 (n := 273) (show xlook 178 272 = some (272, .dup2, 1, 0, 0, 0, 0) from xlk (by decide +kernel)) rfl ?_
  obtain ⟨q1, t⟩ := t
  refine xw_iald (show xlook 178 273 = some (273, .iaload, 1, 0, 0, 0, 0) from xlk (by decide +kernel)) (xtg_12_18 _ xob_12.1 xob_12.2).1 (by rw [(xtg_12_18 _ xob_12.1 xob_12.2).2]; exact q1) (n := 274) rfl ?_
  refine xw_aload_n (n := 275) (show xlook 178 274 = some (274, .aload_n 0, 1, 0, 0, 0, 0) from xlk (by decide +kernel)) rfl rfl ?_
  refine xw_iload_n (n := 276) (show xlook 178 275 = some (275, .iload_n 1, 1, 0, 0, 0, 0) from xlk (by decide +kernel)) rfl rfl ?_
  refine xw_iload_n (n := 277) (show xlook 178 276 = some (276, .iload_n 2, 1, 0, 0, 0, 0) from xlk (by decide +kernel)) rfl rfl ?_
  obtain ⟨j1, hj1, rr1, G1, hm1, hG1, t⟩ := t
  obtain ⟨y1, rfl, t⟩ := t
  refine xw_callv (dk := j1) (o := 131) (as := [vi (x1), vi (x2)]) (show xlook 178 277 = some (277, .invokevirtual 228, 3, 172, 3, 0, 184) from xlk (by decide +kernel)) (by decide) hj1 ⟨Nat.le_of_ble_eq_true rfl, Nat.le_of_ble_eq_true rfl, Nat.le_of_ble_eq_true rfl⟩ ⟨xob_12.1, xob_12.2, by decide⟩ rfl hm1 (n := 280) rfl ?_
  show xW X d 178 280 [.ref (131), vi (x1), vi (x2), vi (x3), vi (x4), vi (x5), vi (x6), vi (x7)] [vi (y1), vi ((F) (140) ((x1) + (131))), vi ((x1) + (131)), .ref (140)] G1 (xqv Q)
  obtain ⟨q0, t⟩ := t
  refine xw_if_eq (n := 283) (m := 287) (show xlook 178 280 = some (280, .ifCond .eq 7, 3, 287, 0, 0, 0) from xlk (by decide +kernel)) rfl rfl q0 ⟨fun c => ?_, fun c => ?_⟩
  · replace t := t.1 c
    refine xw_iconst (n := 288) (show xlook 178 287 = some (287, .iconst 0, 1, 0, 0, 0, 0) from xlk (by decide +kernel)) rfl ?_
    refine xw_iadd (n := 289) (show xlook 178 288 = some (288, .iadd, 1, 0, 0, 0, 0) from xlk (by decide +kernel)) rfl ?_
    obtain ⟨q1, t⟩ := t
    refine xw_iast (show xlook 178 289 = some (289, .iastore, 1, 0, 0, 0, 0) from xlk (by decide +kernel)) (xtg_12_18 _ xob_12.1 xob_12.2).1 (by rw [(xtg_12_18 _ xob_12.1 xob_12.2).2]; exact q1) (n := 290) rfl ?_
    exact xw_return (xPT_arr hG1 (Or.inl (xtg_12_18 _ xob_12.1 xob_12.2).1.2)) (show xlook 178 290 = some (290, .return_, 1, 0, 0, 0, 0) from xlk (by decide +kernel)) rfl (t (xPT_arr hG1 (Or.inl (xtg_12_18 _ xob_12.1 xob_12.2).1.2)))
  · replace t := t.2 c
    refine xw_iconst (n := 284) (show xlook 178 283 = some (283, .iconst 1, 1, 0, 0, 0, 0) from xlk (by decide +kernel)) rfl ?_
    refine xw_goto (m := 288) (show xlook 178 284 = some (284, .goto 4, 3, 288, 0, 0, 0) from xlk (by decide +kernel)) rfl ?_
    refine xw_iadd (n := 289) (show xlook 178 288 = some (288, .iadd, 1, 0, 0, 0, 0) from xlk (by decide +kernel)) rfl ?_
    obtain ⟨q1, t⟩ := t
    refine xw_iast (show xlook 178 289 = some (289, .iastore, 1, 0, 0, 0, 0) from xlk (by decide +kernel)) (xtg_12_18 _ xob_12.1 xob_12.2).1 (by rw [(xtg_12_18 _ xob_12.1 xob_12.2).2]; exact q1) (n := 290) rfl ?_
    exact xw_return (xPT_arr hG1 (Or.inl (xtg_12_18 _ xob_12.1 xob_12.2).1.2)) (show xlook 178 290 = some (290, .return_, 1, 0, 0, 0, 0) from xlk (by decide +kernel)) rfl (t (xPT_arr hG1 (Or.inl (xtg_12_18 _ xob_12.1 xob_12.2).1.2)))

theorem s179_0 {X : List Int32} {d : Nat} {F : XF} {Q : XF → Prop} {x1 : Int} {x2 : Int} {x3 : Int} {x4 : Int} (hPT : xPT F)  (t : inR ((F) (131) 20) ∧ (((¬ ((F) (131) 20) = (200)) → ((0 ≤ ((4) * ((F) (131) 20)) ∧ ((4) * ((F) (131) 20)) < 800) ∧ ((0 ≤ (((4) * ((F) (131) 20)) + (1)) ∧ (((4) * ((F) (131) 20)) + (1)) < 800) ∧ ((0 ≤ (((4) * ((F) (131) 20)) + (2)) ∧ (((4) * ((F) (131) 20)) + (2)) < 800) ∧ ((0 ≤ (((4) * ((F) (131) 20)) + (3)) ∧ (((4) * ((F) (131) 20)) + (3)) < 800) ∧ (xPT (xup (xup (xup (xup (xup (F) (141) ((4) * ((F) (131) 20)) (x1)) (141) (((4) * ((F) (131) 20)) + (1)) (x2)) (141) (((4) * ((F) (131) 20)) + (2)) (x3)) (141) (((4) * ((F) (131) 20)) + (3)) (x4)) (131) 20 (((F) (131) 20) + (1))) → Q (xup (xup (xup (xup (xup (F) (141) ((4) * ((F) (131) 20)) (x1)) (141) (((4) * ((F) (131) 20)) + (1)) (x2)) (141) (((4) * ((F) (131) 20)) + (2)) (x3)) (141) (((4) * ((F) (131) 20)) + (3)) (x4)) (131) 20 (((F) (131) 20) + (1))))))))) ∧ (¬ (¬ ((F) (131) 20) = (200)) → (xPT (F) → Q (F))))) : xW X d 179 0 [.ref (131), vi (x1), vi (x2), vi (x3), vi (x4)] [] F (xqv Q) := by
  refine xw_aload_n (n := 1) (show xlook 179 0 = some (0, .aload_n 0, 1, 0, 0, 0, 0) from xlk (by decide +kernel)) rfl rfl ?_
  refine xw_geti (show xlook 179 1 = some (1, .getfield 206, 3, 12, 20, 0, 244) from xlk (by decide +kernel)) (by decide) (xobf xob_12 (by decide) (by decide)) rfl (n := 4) rfl ?_
  refine xw_sipush (n := 7) (show xlook 179 4 = some (4, .sipush 200, 3, 0, 0, 0, 0) from xlk (by decide +kernel)) rfl (by decide) ?_
  obtain ⟨q0, t⟩ := t
  refine xw_icmp_ne (n := 10) (m := 11) (show xlook 179 7 = some (7, .if_icmp .ne 4, 3, 11, 0, 0, 0) from xlk (by decide +kernel)) rfl rfl q0 ⟨by decide, by decide⟩ ⟨fun c => ?_, fun c => ?_⟩
  · replace t := t.1 c
    refine xw_aload_n (n := 12) (show xlook 179 11 = some (11, .aload_n 0, 1, 0, 0, 0, 0) from xlk (by decide +kernel)) rfl rfl ?_
    refine xw_getr (q := 141) (show xlook 179 12 = some (12, .getfield 45, 3, 12, 19, 0, 230) from xlk (by decide +kernel)) (by decide) (xobf xob_12 (by decide) (by decide)) rfl (xPT_get (k := 19) (f := 10) hPT xob_12 (by decide)) (by have := (xtg_12_19 _ xob_12.1 xob_12.2).1.1; omega) (n := 15) rfl ?_
    refine xw_iconst (n := 16) (show xlook 179 15 = some (15, .iconst 4, 1, 0, 0, 0, 0) from xlk (by decide +kernel)) rfl ?_
    refine xw_aload_n (n := 17) (show xlook 179 16 = some (16, .aload_n 0, 1, 0, 0, 0, 0) from xlk (by decide +kernel)) rfl rfl ?_
    refine xw_geti (show xlook 179 17 = some (17, .getfield 206, 3, 12, 20, 0, 244) from xlk (by decide +kernel)) (by decide) (xobf xob_12 (by decide) (by decide)) rfl (n := 20) rfl ?_
    refine xw_imul (n := 21) (show xlook 179 20 = some (20, .imul, 1, 0, 0, 0, 0) from xlk (by decide +kernel)) rfl ?_
    refine xw_iload_n (n := 22) (show xlook 179 21 = some (21, .iload_n 1, 1, 0, 0, 0, 0) from xlk (by decide +kernel)) rfl rfl ?_
    obtain ⟨q1, t⟩ := t
    refine xw_iast (show xlook 179 22 = some (22, .iastore, 1, 0, 0, 0, 0) from xlk (by decide +kernel)) (xtg_12_19 _ xob_12.1 xob_12.2).1 (by rw [(xtg_12_19 _ xob_12.1 xob_12.2).2]; exact q1) (n := 23) rfl ?_
    refine xw_aload_n (n := 24) (show xlook 179 23 = some (23, .aload_n 0, 1, 0, 0, 0, 0) from xlk (by decide +kernel)) rfl rfl ?_
    refine xw_getr (q := 141) (show xlook 179 24 = some (24, .getfield 45, 3, 12, 19, 0, 230) from xlk (by decide +kernel)) (by decide) (xobf xob_12 (by decide) (by decide)) rfl (xPT_get (k := 19) (f := 10) (xPT_arr hPT (Or.inl (xtg_12_19 _ xob_12.1 xob_12.2).1.2)) xob_12 (by decide)) (by have := (xtg_12_19 _ xob_12.1 xob_12.2).1.1; omega) (n := 27) rfl ?_
    refine xw_iconst (n := 28) (show xlook 179 27 = some (27, .iconst 4, 1, 0, 0, 0, 0) from xlk (by decide +kernel)) rfl ?_
    refine xw_aload_n (n := 29) (show xlook 179 28 = some (28, .aload_n 0, 1, 0, 0, 0, 0) from xlk (by decide +kernel)) rfl rfl ?_
    refine xw_geti2 (u := (F) (131) 20) (show xlook 179 29 = some (29, .getfield 206, 3, 12, 20, 0, 244) from xlk (by decide +kernel)) (by decide) (xobf xob_12 (by decide) (by decide)) rfl (xup_o (by decide)) (n := 32) rfl ?_
    refine xw_imul (n := 33) (show xlook 179 32 = some (32, .imul, 1, 0, 0, 0, 0) from xlk (by decide +kernel)) rfl ?_
    refine xw_iconst (n := 34) (show xlook 179 33 = some (33, .iconst 1, 1, 0, 0, 0, 0) from xlk (by decide +kernel)) rfl ?_
    refine xw_iadd (n := 35) (show xlook 179 34 = some (34, .iadd, 1, 0, 0, 0, 0) from xlk (by decide +kernel)) rfl ?_
    refine xw_iload_n (n := 36) (show xlook 179 35 = some (35, .iload_n 2, 1, 0, 0, 0, 0) from xlk (by decide +kernel)) rfl rfl ?_
    obtain ⟨q1, t⟩ := t
    refine xw_iast (show xlook 179 36 = some (36, .iastore, 1, 0, 0, 0, 0) from xlk (by decide +kernel)) (xtg_12_19 _ xob_12.1 xob_12.2).1 (by rw [(xtg_12_19 _ xob_12.1 xob_12.2).2]; exact q1) (n := 37) rfl ?_
    refine xw_aload_n (n := 38) (show xlook 179 37 = some (37, .aload_n 0, 1, 0, 0, 0, 0) from xlk (by decide +kernel)) rfl rfl ?_
    refine xw_getr (q := 141) (show xlook 179 38 = some (38, .getfield 45, 3, 12, 19, 0, 230) from xlk (by decide +kernel)) (by decide) (xobf xob_12 (by decide) (by decide)) rfl (xPT_get (k := 19) (f := 10) (xPT_arr (xPT_arr hPT (Or.inl (xtg_12_19 _ xob_12.1 xob_12.2).1.2)) (Or.inl (xtg_12_19 _ xob_12.1 xob_12.2).1.2)) xob_12 (by decide)) (by have := (xtg_12_19 _ xob_12.1 xob_12.2).1.1; omega) (n := 41) rfl ?_
    refine xw_iconst (n := 42) (show xlook 179 41 = some (41, .iconst 4, 1, 0, 0, 0, 0) from xlk (by decide +kernel)) rfl ?_
    refine xw_aload_n (n := 43) (show xlook 179 42 = some (42, .aload_n 0, 1, 0, 0, 0, 0) from xlk (by decide +kernel)) rfl rfl ?_
    refine xw_geti2 (u := (F) (131) 20) (show xlook 179 43 = some (43, .getfield 206, 3, 12, 20, 0, 244) from xlk (by decide +kernel)) (by decide) (xobf xob_12 (by decide) (by decide)) rfl ((xup_o (by decide)).trans (xup_o (by decide))) (n := 46) rfl ?_
    refine xw_imul (n := 47) (show xlook 179 46 = some (46, .imul, 1, 0, 0, 0, 0) from xlk (by decide +kernel)) rfl ?_
    refine xw_iconst (n := 48) (show xlook 179 47 = some (47, .iconst 2, 1, 0, 0, 0, 0) from xlk (by decide +kernel)) rfl ?_
    refine xw_iadd (n := 49) (show xlook 179 48 = some (48, .iadd, 1, 0, 0, 0, 0) from xlk (by decide +kernel)) rfl ?_
    refine xw_iload_n (n := 50) (show xlook 179 49 = some (49, .iload_n 3, 1, 0, 0, 0, 0) from xlk (by decide +kernel)) rfl rfl ?_
    obtain ⟨q1, t⟩ := t
    refine xw_iast (show xlook 179 50 = some (50, .iastore, 1, 0, 0, 0, 0) from xlk (by decide +kernel)) (xtg_12_19 _ xob_12.1 xob_12.2).1 (by rw [(xtg_12_19 _ xob_12.1 xob_12.2).2]; exact q1) (n := 51) rfl ?_
    refine xw_aload_n (n := 52) (show xlook 179 51 = some (51, .aload_n 0, 1, 0, 0, 0, 0) from xlk (by decide +kernel)) rfl rfl ?_
    refine xw_getr (q := 141) (show xlook 179 52 = some (52, .getfield 45, 3, 12, 19, 0, 230) from xlk (by decide +kernel)) (by decide) (xobf xob_12 (by decide) (by decide)) rfl (xPT_get (k := 19) (f := 10) (xPT_arr (xPT_arr (xPT_arr hPT (Or.inl (xtg_12_19 _ xob_12.1 xob_12.2).1.2)) (Or.inl (xtg_12_19 _ xob_12.1 xob_12.2).1.2)) (Or.inl (xtg_12_19 _ xob_12.1 xob_12.2).1.2)) xob_12 (by decide)) (by have := (xtg_12_19 _ xob_12.1 xob_12.2).1.1; omega) (n := 55) rfl ?_
    refine xw_iconst (n := 56) (show xlook 179 55 = some (55, .iconst 4, 1, 0, 0, 0, 0) from xlk (by decide +kernel)) rfl ?_
    refine xw_aload_n (n := 57) (show xlook 179 56 = some (56, .aload_n 0, 1, 0, 0, 0, 0) from xlk (by decide +kernel)) rfl rfl ?_
    refine xw_geti2 (u := (F) (131) 20) (show xlook 179 57 = some (57, .getfield 206, 3, 12, 20, 0, 244) from xlk (by decide +kernel)) (by decide) (xobf xob_12 (by decide) (by decide)) rfl ((xup_o (by decide)).trans ((xup_o (by decide)).trans (xup_o (by decide)))) (n := 60) rfl ?_
    refine xw_imul (n := 61) (show xlook 179 60 = some (60, .imul, 1, 0, 0, 0, 0) from xlk (by decide +kernel)) rfl ?_
    refine xw_iconst (n := 62) (show xlook 179 61 = some (61, .iconst 3, 1, 0, 0, 0, 0) from xlk (by decide +kernel)) rfl ?_
    refine xw_iadd (n := 63) (show xlook 179 62 = some (62, .iadd, 1, 0, 0, 0, 0) from xlk (by decide +kernel)) rfl ?_
    refine xw_iload (n := 65) (show xlook 179 63 = some (63, .iload 4, 2, 0, 0, 0, 0) from xlk (by decide +kernel)) rfl rfl ?_
    obtain ⟨q1, t⟩ := t
    refine xw_iast (show xlook 179 65 = some (65, .iastore, 1, 0, 0, 0, 0) from xlk (by decide +kernel)) (xtg_12_19 _ xob_12.1 xob_12.2).1 (by rw [(xtg_12_19 _ xob_12.1 xob_12.2).2]; exact q1) (n := 66) rfl ?_
    refine xw_aload_n (n := 67) (show xlook 179 66 = some (66, .aload_n 0, 1, 0, 0, 0, 0) from xlk (by decide +kernel)) rfl rfl ?_
    refine xw_dupr (n := 68) (show xlook 179 67 = some (67, .dup, 1, 0, 0, 0, 0) from xlk (by decide +kernel)) rfl ?_
    refine xw_geti2 (u := (F) (131) 20) (show xlook 179 68 = some (68, .getfield 206, 3, 12, 20, 0, 244) from xlk (by decide +kernel)) (by decide) (xobf xob_12 (by decide) (by decide)) rfl ((xup_o (by decide)).trans ((xup_o (by decide)).trans ((xup_o (by decide)).trans (xup_o (by decide))))) (n := 71) rfl ?_
    refine xw_iconst (n := 72) (show xlook 179 71 = some (71, .iconst 1, 1, 0, 0, 0, 0) from xlk (by decide +kernel)) rfl ?_
    refine xw_iadd (n := 73) (show xlook 179 72 = some (72, .iadd, 1, 0, 0, 0, 0) from xlk (by decide +kernel)) rfl ?_
    refine xw_puti (show xlook 179 73 = some (73, .putfield 206, 3, 12, 20, 0, 244) from xlk (by decide +kernel)) (xobf xob_12 (by decide) (by decide)) rfl (n := 76) rfl ?_
    exact xw_return (xPT_fld (k := 20) (xPT_arr (xPT_arr (xPT_arr (xPT_arr hPT (Or.inl (xtg_12_19 _ xob_12.1 xob_12.2).1.2)) (Or.inl (xtg_12_19 _ xob_12.1 xob_12.2).1.2)) (Or.inl (xtg_12_19 _ xob_12.1 xob_12.2).1.2)) (Or.inl (xtg_12_19 _ xob_12.1 xob_12.2).1.2)) xob_12 (by decide) (by decide)) (show xlook 179 76 = some (76, .return_, 1, 0, 0, 0, 0) from xlk (by decide +kernel)) rfl (t (xPT_fld (k := 20) (xPT_arr (xPT_arr (xPT_arr (xPT_arr hPT (Or.inl (xtg_12_19 _ xob_12.1 xob_12.2).1.2)) (Or.inl (xtg_12_19 _ xob_12.1 xob_12.2).1.2)) (Or.inl (xtg_12_19 _ xob_12.1 xob_12.2).1.2)) (Or.inl (xtg_12_19 _ xob_12.1 xob_12.2).1.2)) xob_12 (by decide) (by decide)))
  · replace t := t.2 c
    exact xw_return hPT (show xlook 179 10 = some (10, .return_, 1, 0, 0, 0, 0) from xlk (by decide +kernel)) rfl (t hPT)
theorem m179 {X : List Int32} {d : Nat} {F : XF} {Q : XF → Prop} {x1 : Int} {x2 : Int} {x3 : Int} {x4 : Int} (hPT : xPT F)  (t : inR ((F) (131) 20) ∧ (((¬ ((F) (131) 20) = (200)) → ((0 ≤ ((4) * ((F) (131) 20)) ∧ ((4) * ((F) (131) 20)) < 800) ∧ ((0 ≤ (((4) * ((F) (131) 20)) + (1)) ∧ (((4) * ((F) (131) 20)) + (1)) < 800) ∧ ((0 ≤ (((4) * ((F) (131) 20)) + (2)) ∧ (((4) * ((F) (131) 20)) + (2)) < 800) ∧ ((0 ≤ (((4) * ((F) (131) 20)) + (3)) ∧ (((4) * ((F) (131) 20)) + (3)) < 800) ∧ (xPT (xup (xup (xup (xup (xup (F) (141) ((4) * ((F) (131) 20)) (x1)) (141) (((4) * ((F) (131) 20)) + (1)) (x2)) (141) (((4) * ((F) (131) 20)) + (2)) (x3)) (141) (((4) * ((F) (131) 20)) + (3)) (x4)) (131) 20 (((F) (131) 20) + (1))) → Q (xup (xup (xup (xup (xup (F) (141) ((4) * ((F) (131) 20)) (x1)) (141) (((4) * ((F) (131) 20)) + (1)) (x2)) (141) (((4) * ((F) (131) 20)) + (2)) (x3)) (141) (((4) * ((F) (131) 20)) + (3)) (x4)) (131) 20 (((F) (131) 20) + (1))))))))) ∧ (¬ (¬ ((F) (131) 20) = (200)) → (xPT (F) → Q (F))))) : xMV X d 179 [.ref (131), vi (x1), vi (x2), vi (x3), vi (x4)] F Q := by
  show xW X d 179 0 [.ref (131), vi (x1), vi (x2), vi (x3), vi (x4)] [] F (xqv Q)
  exact s179_0 hPT  t

theorem s180_0 {X : List Int32} {d : Nat} {F : XF} {Q : XF → Prop} {x1 : Int} {x2 : Int} {x3 : Int} {w4 : Value} {w5 : Value} {w6 : Value} (hPT : xPT F)  (t : (0 ≤ (x1) ∧ (x1) < 30) ∧ (xPT (F) → xW X d 180 11 [.ref (131), vi (x1), vi (x2), vi (x3), vi ((F) (136) (x1)), vi (0), w6] [] (F) (xqv Q))) : xW X d 180 0 [.ref (131), vi (x1), vi (x2), vi (x3), w4, w5, w6] [] F (xqv Q) := by
  refine xw_aload_n (n := 1) (show xlook 180 0 = some (0, .aload_n 0, 1, 0, 0, 0, 0) from xlk (by decide +kernel)) rfl rfl ?_
  refine xw_getr (q := 136) (show xlook 180 1 = some (1, .getfield 30, 3, 12, 13, 0, 225) from xlk (by decide +kernel)) (by decide) (xobf xob_12 (by decide) (by decide)) rfl (xPT_get (k := 13) (f := 5) hPT xob_12 (by decide)) (by have := (xtg_12_13 _ xob_12.1 xob_12.2).1.1; omega) (n := 4) rfl ?_
  refine xw_iload_n (n := 5) (show xlook 180 4 = some (4, .iload_n 1, 1, 0, 0, 0, 0) from xlk (by decide +kernel)) rfl rfl ?_
  obtain ⟨q1, t⟩ := t
  refine xw_iald (show xlook 180 5 = some (5, .iaload, 1, 0, 0, 0, 0) from xlk (by decide +kernel)) (xtg_12_13 _ xob_12.1 xob_12.2).1 (by rw [(xtg_12_13 _ xob_12.1 xob_12.2).2]; exact q1) (n := 6) rfl ?_
  refine xw_istore (n := 8) (show xlook 180 6 = some (6, .istore 4, 2, 0, 0, 0, 0) from xlk (by decide +kernel)) rfl (ls' := [.ref (131), vi (x1), vi (x2), vi (x3), vi ((F) (136) (x1)), w5, w6]) (Nat.le_of_ble_eq_true rfl) rfl ?_
  refine xw_iconst (n := 9) (show xlook 180 8 = some (8, .iconst 0, 1, 0, 0, 0, 0) from xlk (by decide +kernel)) rfl ?_
  refine xw_istore (n := 11) (show xlook 180 9 = some (9, .istore 5, 2, 0, 0, 0, 0) from xlk (by decide +kernel)) rfl (ls' := [.ref (131), vi (x1), vi (x2), vi (x3), vi ((F) (136) (x1)), vi (0), w6]) (Nat.le_of_ble_eq_true rfl) rfl ?_
  exact t hPT
theorem m180 {X : List Int32} {d : Nat} {F : XF} {Q : XF → Prop} {x1 : Int} {x2 : Int} {x3 : Int} (hPT : xPT F)  (t : (0 ≤ (x1) ∧ (x1) < 30) ∧ (xPT (F) → xW X d 180 11 [.ref (131), vi (x1), vi (x2), vi (x3), vi ((F) (136) (x1)), vi (0), xU0] [] (F) (xqv Q))) : xMV X d 180 [.ref (131), vi (x1), vi (x2), vi (x3)] F Q := by
  show xW X d 180 0 [.ref (131), vi (x1), vi (x2), vi (x3), xU0, xU0, xU0] [] F (xqv Q)
  exact s180_0 hPT  t

theorem s180_11 {X : List Int32} {d : Nat} {F : XF} {Q : XF → Prop} {x1 : Int} {x2 : Int} {x3 : Int} {x4 : Int} {x5 : Int} {w6 : Value} (hPT : xPT F)  (t : inR (x5) ∧ inR ((F) (132) 4) ∧ (((((F) (132) 4) ≤ (x5)) → (∃ (j1 : Nat), j1 < d ∧ xMI X j1 172 [.ref (131), vi (0), vi (x1)] (F) (fun (y1 : Int) (G1 : XF) => (inR (y1) ∧ ((((y1) = (0)) → (xPT (G1) → Q (G1))) ∧ (¬ ((y1) = (0)) → (∃ (j2 : Nat), j2 < d ∧ xMV X j2 179 [.ref (131), vi (2), vi (x3), vi ((-1)), vi (x1)] (G1) (fun (G2 : XF) => (xPT (G2) → Q (G2)))))))))) ∧ (¬ (((F) (132) 4) ≤ (x5)) → (∃ (j3 : Nat), j3 < d ∧ xMI X j3 164 [.ref (131), vi (x5)] (F) (fun (y3 : Int) (G3 : XF) => (∃ (j4 : Nat), j4 < d ∧ xMI X j4 165 [.ref (131), vi (x5)] (G3) (fun (y4 : Int) (G4 : XF) => ((0 ≤ (x4) ∧ (x4) < 30) ∧ (inR ((G4) (137) (x4)) ∧ inR (x1) ∧ (((¬ ((G4) (137) (x4)) = (x1)) → (xPT (G4) → xW X d 180 83 [.ref (131), vi (x1), vi (x2), vi (x3), vi (x4), vi (x5), vi ((y3) + (y4))] [] (G4) (xqv Q))) ∧ (¬ (¬ ((G4) (137) (x4)) = (x1)) → (∃ (j5 : Nat), j5 < d ∧ xMI X j5 164 [.ref (131), vi (x5)] (G4) (fun (y5 : Int) (G5 : XF) => (inR (x2) ∧ inR (y5) ∧ ((((y5) < (x2)) → (xPT (G5) → xW X d 180 83 [.ref (131), vi (x1), vi (x2), vi (x3), vi (x4), vi (x5), vi ((y3) + (y4))] [] (G5) (xqv Q))) ∧ (¬ ((y5) < (x2)) → ((0 ≤ (x1) ∧ (x1) < 264) ∧ (∃ (j6 : Nat), j6 < d ∧ xMI X j6 164 [.ref (131), vi (x5)] (G5) (fun (y6 : Int) (G6 : XF) => (inR ((G5) (140) (x1)) ∧ inR (y6) ∧ (((((G5) (140) (x1)) ≤ (y6)) → (xPT (G6) → xW X d 180 83 [.ref (131), vi (x1), vi (x2), vi (x3), vi (x4), vi (x5), vi ((y3) + (y4))] [] (G6) (xqv Q))) ∧ (¬ (((G5) (140) (x1)) ≤ (y6)) → (∃ (j7 : Nat), j7 < d ∧ xMV X j7 179 [.ref (131), vi (0), vi (x3), vi (x5), vi (x4)] (G6) (fun (G7 : XF) => (xPT (G7) → xW X d 180 83 [.ref (131), vi (x1), vi (x2), vi (x3), vi (x4), vi (x5), vi ((y3) + (y4))] [] (G7) (xqv Q)))))))))))))))))))))))))) : xW X d 180 11 [.ref (131), vi (x1), vi (x2), vi (x3), vi (x4), vi (x5), w6] [] F (xqv Q) := by
  refine xw_iload (n := 13) (show xlook 180 11 = some (11, .iload 5, 2, 0, 0, 0, 0) from xlk (by decide +kernel)) rfl rfl ?_
  refine xw_aload_n (n := 14) (show xlook 180 13 = some (13, .aload_n 0, 1, 0, 0, 0, 0) from xlk (by decide +kernel)) rfl rfl ?_
  refine xw_getr (q := 132) (show xlook 180 14 = some (14, .getfield 13, 3, 12, 1, 0, 220) from xlk (by decide +kernel)) (by decide) (xobf xob_12 (by decide) (by decide)) rfl (xPT_get (k := 1) (f := 1) hPT xob_12 (by decide)) (by have := (xtg_12_1 _ xob_12.1 xob_12.2).1.1; omega) (n := 17) rfl ?_
  refine xw_iconst (n := 18) (show xlook 180 17 = some (17, .iconst 4, 1, 0, 0, 0, 0) from xlk (by decide +kernel)) rfl ?_
  refine xw_iald (show xlook 180 18 = some (18, .iaload, 1, 0, 0, 0, 0) from xlk (by decide +kernel)) (xtg_12_1 _ xob_12.1 xob_12.2).1 (by rw [(xtg_12_1 _ xob_12.1 xob_12.2).2]; decide) (n := 19) rfl ?_
  obtain ⟨q0, q1, t⟩ := t
  refine xw_icmp_ge (n := 22) (m := 137) (show xlook 180 19 = some (19, .if_icmp .ge 118, 3, 137, 0, 0, 0) from xlk (by decide +kernel)) rfl rfl q0 q1 ⟨fun c => ?_, fun c => ?_⟩
  · replace t := t.1 c
    refine xw_aload_n (n := 138) (show xlook 180 137 = some (137, .aload_n 0, 1, 0, 0, 0, 0) from xlk (by decide +kernel)) rfl rfl ?_
    refine xw_iconst (n := 139) (show xlook 180 138 = some (138, .iconst 0, 1, 0, 0, 0, 0) from xlk (by decide +kernel)) rfl ?_
    refine xw_iload_n (n := 140) (show xlook 180 139 = some (139, .iload_n 1, 1, 0, 0, 0, 0) from xlk (by decide +kernel)) rfl rfl ?_
    obtain ⟨j1, hj1, rr1, G1, hm1, hG1, t⟩ := t
    obtain ⟨y1, rfl, t⟩ := t
    refine xw_callv (dk := j1) (o := 131) (as := [vi (0), vi (x1)]) (show xlook 180 140 = some (140, .invokevirtual 228, 3, 172, 3, 0, 184) from xlk (by decide +kernel)) (by decide) hj1 ⟨Nat.le_of_ble_eq_true rfl, Nat.le_of_ble_eq_true rfl, Nat.le_of_ble_eq_true rfl⟩ ⟨xob_12.1, xob_12.2, by decide⟩ rfl hm1 (n := 143) rfl ?_
    show xW X d 180 143 [.ref (131), vi (x1), vi (x2), vi (x3), vi (x4), vi (x5), w6] [vi (y1)] G1 (xqv Q)
    obtain ⟨q0, t⟩ := t
    refine xw_if_eq (n := 146) (m := 154) (show xlook 180 143 = some (143, .ifCond .eq 11, 3, 154, 0, 0, 0) from xlk (by decide +kernel)) rfl rfl q0 ⟨fun c => ?_, fun c => ?_⟩
    · replace t := t.1 c
      exact xw_return hG1 (show xlook 180 154 = some (154, .return_, 1, 0, 0, 0, 0) from xlk (by decide +kernel)) rfl (t hG1)
    · replace t := t.2 c
      refine xw_aload_n (n := 147) (show xlook 180 146 = some (146, .aload_n 0, 1, 0, 0, 0, 0) from xlk (by decide +kernel)) rfl rfl ?_
      refine xw_iconst (n := 148) (show xlook 180 147 = some (147, .iconst 2, 1, 0, 0, 0, 0) from xlk (by decide +kernel)) rfl ?_
      refine xw_iload_n (n := 149) (show xlook 180 148 = some (148, .iload_n 3, 1, 0, 0, 0, 0) from xlk (by decide +kernel)) rfl rfl ?_
      refine xw_iconst (n := 150) (show xlook 180 149 = some (149, .iconst (-1), 1, 0, 0, 0, 0) from xlk (by decide +kernel)) rfl ?_
      refine xw_iload_n (n := 151) (show xlook 180 150 = some (150, .iload_n 1, 1, 0, 0, 0, 0) from xlk (by decide +kernel)) rfl rfl ?_
      obtain ⟨j2, hj2, rr2, G2, hm2, hG2, t⟩ := t
      obtain ⟨rfl, t⟩ := t
      refine xw_callv (dk := j2) (o := 131) (as := [vi (2), vi (x3), vi ((-1)), vi (x1)]) (show xlook 180 151 = some (151, .invokevirtual 234, 3, 179, 5, 0, 186) from xlk (by decide +kernel)) (by decide) hj2 ⟨Nat.le_of_ble_eq_true rfl, Nat.le_of_ble_eq_true rfl, Nat.le_of_ble_eq_true rfl⟩ ⟨xob_12.1, xob_12.2, by decide⟩ rfl hm2 (n := 154) rfl ?_
      show xW X d 180 154 [.ref (131), vi (x1), vi (x2), vi (x3), vi (x4), vi (x5), w6] [] G2 (xqv Q)
      exact xw_return hG2 (show xlook 180 154 = some (154, .return_, 1, 0, 0, 0, 0) from xlk (by decide +kernel)) rfl (t hG2)
  · replace t := t.2 c
    refine xw_aload_n (n := 23) (show xlook 180 22 = some (22, .aload_n 0, 1, 0, 0, 0, 0) from xlk (by decide +kernel)) rfl rfl ?_
    refine xw_iload (n := 25) (show xlook 180 23 = some (23, .iload 5, 2, 0, 0, 0, 0) from xlk (by decide +kernel)) rfl rfl ?_
    obtain ⟨j3, hj3, rr3, G3, hm3, hG3, t⟩ := t
    obtain ⟨y3, rfl, t⟩ := t
    refine xw_callv (dk := j3) (o := 131) (as := [vi (x5)]) (show xlook 180 25 = some (25, .invokevirtual 209, 3, 164, 2, 0, 180) from xlk (by decide +kernel)) (by decide) hj3 ⟨Nat.le_of_ble_eq_true rfl, Nat.le_of_ble_eq_true rfl, Nat.le_of_ble_eq_true rfl⟩ ⟨xob_12.1, xob_12.2, by decide⟩ rfl hm3 (n := 28) rfl ?_
    show xW X d 180 28 [.ref (131), vi (x1), vi (x2), vi (x3), vi (x4), vi (x5), w6] [vi (y3)] G3 (xqv Q)
    refine xw_aload_n (n := 29) (show xlook 180 28 = some (28, .aload_n 0, 1, 0, 0, 0, 0) from xlk (by decide +kernel)) rfl rfl ?_
    refine xw_iload (n := 31) (show xlook 180 29 = some (29, .iload 5, 2, 0, 0, 0, 0) from xlk (by decide +kernel)) rfl rfl ?_
    obtain ⟨j4, hj4, rr4, G4, hm4, hG4, t⟩ := t
    obtain ⟨y4, rfl, t⟩ := t
    refine xw_callv (dk := j4) (o := 131) (as := [vi (x5)]) (show xlook 180 31 = some (31, .invokevirtual 187, 3, 165, 2, 0, 174) from xlk (by decide +kernel)) (by decide) hj4 ⟨Nat.le_of_ble_eq_true rfl, Nat.le_of_ble_eq_true rfl, Nat.le_of_ble_eq_true rfl⟩ ⟨xob_12.1, xob_12.2, by decide⟩ rfl hm4 (n := 34) rfl ?_
    show xW X d 180 34 [.ref (131), vi (x1), vi (x2), vi (x3), vi (x4), vi (x5), w6] [vi (y4), vi (y3)] G4 (xqv Q)
    refine xw_iadd (n := 35) (show xlook 180 34 = some (34, .iadd, 1, 0, 0, 0, 0) from xlk (by decide +kernel)) rfl ?_
    refine xw_istore (n := 37) (show xlook 180 35 = some (35, .istore 6, 2, 0, 0, 0, 0) from xlk (by decide +kernel)) rfl (ls' := [.ref (131), vi (x1), vi (x2), vi (x3), vi (x4), vi (x5), vi ((y3) + (y4))]) (Nat.le_of_ble_eq_true rfl) rfl ?_
    refine xw_aload_n (n := 38) (show xlook 180 37 = some (37, .aload_n 0, 1, 0, 0, 0, 0) from xlk (by decide +kernel)) rfl rfl ?_
    refine xw_getr (q := 137) (show xlook 180 38 = some (38, .getfield 33, 3, 12, 14, 0, 226) from xlk (by decide +kernel)) (by decide) (xobf xob_12 (by decide) (by decide)) rfl (xPT_get (k := 14) (f := 6) hG4 xob_12 (by decide)) (by have := (xtg_12_14 _ xob_12.1 xob_12.2).1.1; omega) (n := 41) rfl ?_
    refine xw_iload (n := 43) (show xlook 180 41 = some (41, .iload 4, 2, 0, 0, 0, 0) from xlk (by decide +kernel)) rfl rfl ?_
    obtain ⟨q1, t⟩ := t
    refine xw_iald (show xlook 180 43 = some (43, .iaload, 1, 0, 0, 0, 0) from xlk (by decide +kernel)) (xtg_12_14 _ xob_12.1 xob_12.2).1 (by rw [(xtg_12_14 _ xob_12.1 xob_12.2).2]; exact q1) (n := 44) rfl ?_
    refine xw_iload_n (n := 45) (show xlook 180 44 = some (44, .iload_n 1, 1, 0, 0, 0, 0) from xlk (by decide +kernel)) rfl rfl ?_
    obtain ⟨q0, q1, t⟩ := t
    refine xw_icmp_ne (n := 48) (m := 83) (show xlook 180 45 = some (45, .if_icmp .ne 38, 3, 83, 0, 0, 0) from xlk (by decide +kernel)) rfl rfl q0 q1 ⟨fun c => ?_, fun c => ?_⟩
    · replace t := t.1 c
      exact t hG4
    · replace t := t.2 c
      refine xw_iload_n (n := 49) (show xlook 180 48 = some (48, .iload_n 2, 1, 0, 0, 0, 0) from xlk (by decide +kernel)) rfl rfl ?_
      refine xw_aload_n (n := 50) (show xlook 180 49 = some (49, .aload_n 0, 1, 0, 0, 0, 0) from xlk (by decide +kernel)) rfl rfl ?_
      refine xw_iload (n := 52) (show xlook 180 50 = some (50, .iload 5, 2, 0, 0, 0, 0) from xlk (by decide +kernel)) rfl rfl ?_
      obtain ⟨j5, hj5, rr5, G5, hm5, hG5, t⟩ := t
      obtain ⟨y5, rfl, t⟩ := t
      refine xw_callv (dk := j5) (o := 131) (as := [vi (x5)]) (show xlook 180 52 = some (52, .invokevirtual 209, 3, 164, 2, 0, 180) from xlk (by decide +kernel)) (by decide) hj5 ⟨Nat.le_of_ble_eq_true rfl, Nat.le_of_ble_eq_true rfl, Nat.le_of_ble_eq_true rfl⟩ ⟨xob_12.1, xob_12.2, by decide⟩ rfl hm5 (n := 55) rfl ?_
      show xW X d 180 55 [.ref (131), vi (x1), vi (x2), vi (x3), vi (x4), vi (x5), vi ((y3) + (y4))] [vi (y5), vi (x2)] G5 (xqv Q)
      obtain ⟨q0, q1, t⟩ := t
      refine xw_icmp_gt (n := 58) (m := 83) (show xlook 180 55 = some (55, .if_icmp .gt 28, 3, 83, 0, 0, 0) from xlk (by decide +kernel)) rfl rfl q0 q1 ⟨fun c => ?_, fun c => ?_⟩
      · replace t := t.1 c
        exact t hG5
      · replace t := t.2 c
        refine xw_aload_n (n := 59) (show xlook 180 58 = some (58, .aload_n 0, 1, 0, 0, 0, 0) from xlk (by decide +kernel)) rfl rfl ?_
        refine xw_getr (q := 140) (show xlook 180 59 = some (59, .getfield 42, 3, 12, 18, 0, 229) from xlk (by decide +kernel)) (by decide) (xobf xob_12 (by decide) (by decide)) rfl (xPT_get (k := 18) (f := 9) hG5 xob_12 (by decide)) (by have := (xtg_12_18 _ xob_12.1 xob_12.2).1.1; omega) (n := 62) rfl ?_
        refine xw_iload_n (n := 63) (show xlook 180 62 = some (62, .iload_n 1, 1, 0, 0, 0, 0) from xlk (by decide +kernel)) rfl rfl ?_
        obtain ⟨q1, t⟩ := t
        refine xw_iald (show xlook 180 63 = some (63, .iaload, 1, 0, 0, 0, 0) from xlk (by decide +kernel)) (xtg_12_18 _ xob_12.1 xob_12.2).1 (by rw [(xtg_12_18 _ xob_12.1 xob_12.2).2]; exact q1) (n := 64) rfl ?_
        refine xw_aload_n (n := 65) (show xlook 180 64 = some (64, .aload_n 0, 1, 0, 0, 0, 0) from xlk (by decide +kernel)) rfl rfl ?_
        refine xw_iload (n := 67) (show xlook 180 65 = some (65, .iload 5, 2, 0, 0, 0, 0) from xlk (by decide +kernel)) rfl rfl ?_
        obtain ⟨j6, hj6, rr6, G6, hm6, hG6, t⟩ := t
        obtain ⟨y6, rfl, t⟩ := t
        refine xw_callv (dk := j6) (o := 131) (as := [vi (x5)]) (show xlook 180 67 = some (67, .invokevirtual 209, 3, 164, 2, 0, 180) from xlk (by decide +kernel)) (by decide) hj6 ⟨Nat.le_of_ble_eq_true rfl, Nat.le_of_ble_eq_true rfl, Nat.le_of_ble_eq_true rfl⟩ ⟨xob_12.1, xob_12.2, by decide⟩ rfl hm6 (n := 70) rfl ?_
        show xW X d 180 70 [.ref (131), vi (x1), vi (x2), vi (x3), vi (x4), vi (x5), vi ((y3) + (y4))] [vi (y6), vi ((G5) (140) (x1))] G6 (xqv Q)
        obtain ⟨q0, q1, t⟩ := t
        refine xw_icmp_le (n := 73) (m := 83) (show xlook 180 70 = some (70, .if_icmp .le 13, 3, 83, 0, 0, 0) from xlk (by decide +kernel)) rfl rfl q0 q1 ⟨fun c => ?_, fun c => ?_⟩
        · replace t := t.1 c
          exact t hG6
        · replace t := t.2 c
          refine xw_aload_n (n := 74) (show xlook 180 73 = some (73, .aload_n 0, 1, 0, 0, 0, 0) from xlk (by decide +kernel)) rfl rfl ?_
          refine xw_iconst (n := 75) (show xlook 180 74 = some (74, .iconst 0, 1, 0, 0, 0, 0) from xlk (by decide +kernel)) rfl ?_
          refine xw_iload_n (n := 76) (show xlook 180 75 = some (75, .iload_n 3, 1, 0, 0, 0, 0) from xlk (by decide +kernel)) rfl rfl ?_
          refine xw_iload (n := 78) (show xlook 180 76 = some (76, .iload 5, 2, 0, 0, 0, 0) from xlk (by decide +kernel)) rfl rfl ?_
          refine xw_iload (n := 80) (show xlook 180 78 = some (78, .iload 4, 2, 0, 0, 0, 0) from xlk (by decide +kernel)) rfl rfl ?_
          obtain ⟨j7, hj7, rr7, G7, hm7, hG7, t⟩ := t
          obtain ⟨rfl, t⟩ := t
          refine xw_callv (dk := j7) (o := 131) (as := [vi (0), vi (x3), vi (x5), vi (x4)]) (show xlook 180 80 = some (80, .invokevirtual 234, 3, 179, 5, 0, 186) from xlk (by decide +kernel)) (by decide) hj7 ⟨Nat.le_of_ble_eq_true rfl, Nat.le_of_ble_eq_true rfl, Nat.le_of_ble_eq_true rfl⟩ ⟨xob_12.1, xob_12.2, by decide⟩ rfl hm7 (n := 83) rfl ?_
          show xW X d 180 83 [.ref (131), vi (x1), vi (x2), vi (x3), vi (x4), vi (x5), vi ((y3) + (y4))] [] G7 (xqv Q)
          exact t hG7

theorem s180_83 {X : List Int32} {d : Nat} {F : XF} {Q : XF → Prop} {x1 : Int} {x2 : Int} {x3 : Int} {x4 : Int} {x5 : Int} {x6 : Int} (hPT : xPT F)  (t : (0 ≤ (x4) ∧ (x4) < 30) ∧ (inR ((F) (138) (x4)) ∧ inR (x1) ∧ (((¬ ((F) (138) (x4)) = (x1)) → (xPT (F) → xW X d 180 11 [.ref (131), vi (x1), vi (x2), vi (x3), vi (x4), vi (x5 + 1), vi (x6)] [] (F) (xqv Q))) ∧ (¬ (¬ ((F) (138) (x4)) = (x1)) → ((0 ≤ ((78) + (x1)) ∧ ((78) + (x1)) < 163) ∧ (inR ((x2) - ((F) (132) ((78) + (x1)))) ∧ inR (x6) ∧ ((((x6) ≤ ((x2) - ((F) (132) ((78) + (x1))))) → (xPT (F) → xW X d 180 11 [.ref (131), vi (x1), vi (x2), vi (x3), vi (x4), vi (x5 + 1), vi (x6)] [] (F) (xqv Q))) ∧ (¬ ((x6) ≤ ((x2) - ((F) (132) ((78) + (x1))))) → (∃ (j1 : Nat), j1 < d ∧ xMI X j1 171 [.ref (131), vi (0), vi (x1)] (F) (fun (y1 : Int) (G1 : XF) => (inR (y1) ∧ inR (x6) ∧ ((((y1) < (x6)) → (xPT (G1) → xW X d 180 11 [.ref (131), vi (x1), vi (x2), vi (x3), vi (x4), vi (x5 + 1), vi (x6)] [] (G1) (xqv Q))) ∧ (¬ ((y1) < (x6)) → (∃ (j2 : Nat), j2 < d ∧ xMV X j2 179 [.ref (131), vi (1), vi (x3), vi (x5), vi (x4)] (G1) (fun (G2 : XF) => (xPT (G2) → xW X d 180 11 [.ref (131), vi (x1), vi (x2), vi (x3), vi (x4), vi (x5 + 1), vi (x6)] [] (G2) (xqv Q))))))))))))))))) : xW X d 180 83 [.ref (131), vi (x1), vi (x2), vi (x3), vi (x4), vi (x5), vi (x6)] [] F (xqv Q) := by
  refine xw_aload_n (n := 84) (show xlook 180 83 = some (83, .aload_n 0, 1, 0, 0, 0, 0) from xlk (by decide +kernel)) rfl rfl ?_
  refine xw_getr (q := 138) (show xlook 180 84 = some (84, .getfield 36, 3, 12, 15, 0, 227) from xlk (by decide +kernel)) (by decide) (xobf xob_12 (by decide) (by decide)) rfl (xPT_get (k := 15) (f := 7) hPT xob_12 (by decide)) (by have := (xtg_12_15 _ xob_12.1 xob_12.2).1.1; omega) (n := 87) rfl ?_
  refine xw_iload (n := 89) (show xlook 180 87 = some (87, .iload 4, 2, 0, 0, 0, 0) from xlk (by decide +kernel)) rfl rfl ?_
  obtain ⟨q1, t⟩ := t
  refine xw_iald (show xlook 180 89 = some (89, .iaload, 1, 0, 0, 0, 0) from xlk (by decide +kernel)) (xtg_12_15 _ xob_12.1 xob_12.2).1 (by rw [(xtg_12_15 _ xob_12.1 xob_12.2).2]; exact q1) (n := 90) rfl ?_
  refine xw_iload_n (n := 91) (show xlook 180 90 = some (90, .iload_n 1, 1, 0, 0, 0, 0) from xlk (by decide +kernel)) rfl rfl ?_
  obtain ⟨q0, q1, t⟩ := t
  refine xw_icmp_ne (n := 94) (m := 131) (show xlook 180 91 = some (91, .if_icmp .ne 40, 3, 131, 0, 0, 0) from xlk (by decide +kernel)) rfl rfl q0 q1 ⟨fun c => ?_, fun c => ?_⟩
  · replace t := t.1 c
    refine xw_iinc (n := 134) (show xlook 180 131 = some (131, .iinc 5 1, 3, 0, 0, 0, 0) from xlk (by decide +kernel)) rfl (ls' := [.ref (131), vi (x1), vi (x2), vi (x3), vi (x4), vi (x5 + 1), vi (x6)]) rfl rfl ?_
    refine xw_goto (m := 11) (show xlook 180 134 = some (134, .goto (-123), 3, 11, 0, 0, 0) from xlk (by decide +kernel)) rfl ?_
    exact t hPT
  · replace t := t.2 c
    refine xw_iload_n (n := 95) (show xlook 180 94 = some (94, .iload_n 2, 1, 0, 0, 0, 0) from xlk (by decide +kernel)) rfl rfl ?_
    refine xw_aload_n (n := 96) (show xlook 180 95 = some (95, .aload_n 0, 1, 0, 0, 0, 0) from xlk (by decide +kernel)) rfl rfl ?_
    refine xw_getr (q := 132) (show xlook 180 96 = some (96, .getfield 13, 3, 12, 1, 0, 220) from xlk (by decide +kernel)) (by decide) (xobf xob_12 (by decide) (by decide)) rfl (xPT_get (k := 1) (f := 1) hPT xob_12 (by decide)) (by have := (xtg_12_1 _ xob_12.1 xob_12.2).1.1; omega) (n := 99) rfl ?_
    refine xw_bipush (n := 101) (show xlook 180 99 = some (99, .bipush 78, 2, 0, 0, 0, 0) from xlk (by decide +kernel)) rfl (by decide) ?_
    refine xw_iload_n (n := 102) (show xlook 180 101 = some (101, .iload_n 1, 1, 0, 0, 0, 0) from xlk (by decide +kernel)) rfl rfl ?_
    refine xw_iadd (n := 103) (show xlook 180 102 = some (102, .iadd, 1, 0, 0, 0, 0) from xlk (by decide +kernel)) rfl ?_
    obtain ⟨q1, t⟩ := t
    refine xw_iald (show xlook 180 103 = some (103, .iaload, 1, 0, 0, 0, 0) from xlk (by decide +kernel)) (xtg_12_1 _ xob_12.1 xob_12.2).1 (by rw [(xtg_12_1 _ xob_12.1 xob_12.2).2]; exact q1) (n := 104) rfl ?_
    refine xw_isub (n := 105) (show xlook 180 104 = some (104, .isub, 1, 0, 0, 0, 0) from xlk (by decide +kernel)) rfl ?_
    refine xw_iload (n := 107) (show xlook 180 105 = some (105, .iload 6, 2, 0, 0, 0, 0) from xlk (by decide +kernel)) rfl rfl ?_
    obtain ⟨q0, q1, t⟩ := t
    refine xw_icmp_ge (n := 110) (m := 131) (show xlook 180 107 = some (107, .if_icmp .ge 24, 3, 131, 0, 0, 0) from xlk (by decide +kernel)) rfl rfl q0 q1 ⟨fun c => ?_, fun c => ?_⟩
    · replace t := t.1 c
      refine xw_iinc (n := 134) (show xlook 180 131 = some (131, .iinc 5 1, 3, 0, 0, 0, 0) from xlk (by decide +kernel)) rfl (ls' := [.ref (131), vi (x1), vi (x2), vi (x3), vi (x4), vi (x5 + 1), vi (x6)]) rfl rfl ?_
      refine xw_goto (m := 11) (show xlook 180 134 = some (134, .goto (-123), 3, 11, 0, 0, 0) from xlk (by decide +kernel)) rfl ?_
      exact t hPT
    · replace t := t.2 c
      refine xw_aload_n (n := 111) (show xlook 180 110 = some (110, .aload_n 0, 1, 0, 0, 0, 0) from xlk (by decide +kernel)) rfl rfl ?_
      refine xw_iconst (n := 112) (show xlook 180 111 = some (111, .iconst 0, 1, 0, 0, 0, 0) from xlk (by decide +kernel)) rfl ?_
      refine xw_iload_n (n := 113) (show xlook 180 112 = some (112, .iload_n 1, 1, 0, 0, 0, 0) from xlk (by decide +kernel)) rfl rfl ?_
      obtain ⟨j1, hj1, rr1, G1, hm1, hG1, t⟩ := t
      obtain ⟨y1, rfl, t⟩ := t
      refine xw_callv (dk := j1) (o := 131) (as := [vi (0), vi (x1)]) (show xlook 180 113 = some (113, .invokevirtual 203, 3, 171, 3, 0, 179) from xlk (by decide +kernel)) (by decide) hj1 ⟨Nat.le_of_ble_eq_true rfl, Nat.le_of_ble_eq_true rfl, Nat.le_of_ble_eq_true rfl⟩ ⟨xob_12.1, xob_12.2, by decide⟩ rfl hm1 (n := 116) rfl ?_
      show xW X d 180 116 [.ref (131), vi (x1), vi (x2), vi (x3), vi (x4), vi (x5), vi (x6)] [vi (y1)] G1 (xqv Q)
      refine xw_iload (n := 118) (show xlook 180 116 = some (116, .iload 6, 2, 0, 0, 0, 0) from xlk (by decide +kernel)) rfl rfl ?_
      obtain ⟨q0, q1, t⟩ := t
      refine xw_icmp_lt (n := 121) (m := 131) (show xlook 180 118 = some (118, .if_icmp .lt 13, 3, 131, 0, 0, 0) from xlk (by decide +kernel)) rfl rfl q0 q1 ⟨fun c => ?_, fun c => ?_⟩
      · replace t := t.1 c
        refine xw_iinc (n := 134) (show xlook 180 131 = some (131, .iinc 5 1, 3, 0, 0, 0, 0) from xlk (by decide +kernel)) rfl (ls' := [.ref (131), vi (x1), vi (x2), vi (x3), vi (x4), vi (x5 + 1), vi (x6)]) rfl rfl ?_
        refine xw_goto (m := 11) (show xlook 180 134 = some (134, .goto (-123), 3, 11, 0, 0, 0) from xlk (by decide +kernel)) rfl ?_
        exact t hG1
      · replace t := t.2 c
        refine xw_aload_n (n := 122) (show xlook 180 121 = some (121, .aload_n 0, 1, 0, 0, 0, 0) from xlk (by decide +kernel)) rfl rfl ?_
        refine xw_iconst (n := 123) (show xlook 180 122 = some (122, .iconst 1, 1, 0, 0, 0, 0) from xlk (by decide +kernel)) rfl ?_
        refine xw_iload_n (n := 124) (show xlook 180 123 = some (123, .iload_n 3, 1, 0, 0, 0, 0) from xlk (by decide +kernel)) rfl rfl ?_
        refine xw_iload (n := 126) (show xlook 180 124 = some (124, .iload 5, 2, 0, 0, 0, 0) from xlk (by decide +kernel)) rfl rfl ?_
        refine xw_iload (n := 128) (show xlook 180 126 = some (126, .iload 4, 2, 0, 0, 0, 0) from xlk (by decide +kernel)) rfl rfl ?_
        obtain ⟨j2, hj2, rr2, G2, hm2, hG2, t⟩ := t
        obtain ⟨rfl, t⟩ := t
        refine xw_callv (dk := j2) (o := 131) (as := [vi (1), vi (x3), vi (x5), vi (x4)]) (show xlook 180 128 = some (128, .invokevirtual 234, 3, 179, 5, 0, 186) from xlk (by decide +kernel)) (by decide) hj2 ⟨Nat.le_of_ble_eq_true rfl, Nat.le_of_ble_eq_true rfl, Nat.le_of_ble_eq_true rfl⟩ ⟨xob_12.1, xob_12.2, by decide⟩ rfl hm2 (n := 131) rfl ?_
        show xW X d 180 131 [.ref (131), vi (x1), vi (x2), vi (x3), vi (x4), vi (x5), vi (x6)] [] G2 (xqv Q)
        refine xw_iinc (n := 134) (show xlook 180 131 = some (131, .iinc 5 1, 3, 0, 0, 0, 0) from xlk (by decide +kernel)) rfl (ls' := [.ref (131), vi (x1), vi (x2), vi (x3), vi (x4), vi (x5 + 1), vi (x6)]) rfl rfl ?_
        refine xw_goto (m := 11) (show xlook 180 134 = some (134, .goto (-123), 3, 11, 0, 0, 0) from xlk (by decide +kernel)) rfl ?_
        exact t hG2

theorem s181_0 {X : List Int32} {d : Nat} {F : XF} {Q : XF → Prop} {x1 : Int} {w2 : Value} {w3 : Value} {w4 : Value} (hPT : xPT F)  (t : (0 ≤ ((x1) + (130)) ∧ ((x1) + (130)) < 264) ∧ (∃ (j1 : Nat), j1 < d ∧ xMV X j1 176 [.ref (131), vi (x1), vi ((F) (140) ((x1) + (130)))] (F) (fun (G1 : XF) => (∃ (j2 : Nat), j2 < d ∧ xMI X j2 175 [.ref (131), vi (x1)] (G1) (fun (y2 : Int) (G2 : XF) => (xPT (G2) → xW X d 181 26 [.ref (131), vi (x1), vi ((F) (140) ((x1) + (130))), vi (y2), vi (0)] [] (G2) (xqv Q))))))) : xW X d 181 0 [.ref (131), vi (x1), w2, w3, w4] [] F (xqv Q) := by
  refine xw_aload_n (n := 1) (show xlook 181 0 = some (0, .aload_n 0, 1, 0, 0, 0, 0) from xlk (by decide +kernel)) rfl rfl ?_
  refine xw_getr (q := 140) (show xlook 181 1 = some (1, .getfield 42, 3, 12, 18, 0, 229) from xlk (by decide +kernel)) (by decide) (xobf xob_12 (by decide) (by decide)) rfl (xPT_get (k := 18) (f := 9) hPT xob_12 (by decide)) (by have := (xtg_12_18 _ xob_12.1 xob_12.2).1.1; omega) (n := 4) rfl ?_
  refine xw_iload_n (n := 5) (show xlook 181 4 = some (4, .iload_n 1, 1, 0, 0, 0, 0) from xlk (by decide +kernel)) rfl rfl ?_
  refine xw_sipush (n := 8) (show xlook 181 5 = some (5, .sipush 130, 3, 0, 0, 0, 0) from xlk (by decide +kernel)) rfl (by decide) ?_
  refine xw_iadd (n := 9) (show xlook 181 8 = some (8, .iadd, 1, 0, 0, 0, 0) from xlk (by decide +kernel)) rfl ?_
  obtain ⟨q1, t⟩ := t
  refine xw_iald (show xlook 181 9 = some (9, .iaload, 1, 0, 0, 0, 0) from xlk (by decide +kernel)) (xtg_12_18 _ xob_12.1 xob_12.2).1 (by rw [(xtg_12_18 _ xob_12.1 xob_12.2).2]; exact q1) (n := 10) rfl ?_
  refine xw_istore_n (n := 11) (show xlook 181 10 = some (10, .istore_n 2, 1, 0, 0, 0, 0) from xlk (by decide +kernel)) rfl (ls' := [.ref (131), vi (x1), vi ((F) (140) ((x1) + (130))), w3, w4]) (Nat.le_of_ble_eq_true rfl) rfl ?_
  refine xw_aload_n (n := 12) (show xlook 181 11 = some (11, .aload_n 0, 1, 0, 0, 0, 0) from xlk (by decide +kernel)) rfl rfl ?_
  refine xw_iload_n (n := 13) (show xlook 181 12 = some (12, .iload_n 1, 1, 0, 0, 0, 0) from xlk (by decide +kernel)) rfl rfl ?_
  refine xw_iload_n (n := 14) (show xlook 181 13 = some (13, .iload_n 2, 1, 0, 0, 0, 0) from xlk (by decide +kernel)) rfl rfl ?_
  obtain ⟨j1, hj1, rr1, G1, hm1, hG1, t⟩ := t
  obtain ⟨rfl, t⟩ := t
  refine xw_callv (dk := j1) (o := 131) (as := [vi (x1), vi ((F) (140) ((x1) + (130)))]) (show xlook 181 14 = some (14, .invokevirtual 238, 3, 176, 3, 0, 187) from xlk (by decide +kernel)) (by decide) hj1 ⟨Nat.le_of_ble_eq_true rfl, Nat.le_of_ble_eq_true rfl, Nat.le_of_ble_eq_true rfl⟩ ⟨xob_12.1, xob_12.2, by decide⟩ rfl hm1 (n := 17) rfl ?_
  show xW X d 181 17 [.ref (131), vi (x1), vi ((F) (140) ((x1) + (130))), w3, w4] [] G1 (xqv Q)
  refine xw_aload_n (n := 18) (show xlook 181 17 = some (17, .aload_n 0, 1, 0, 0, 0, 0) from xlk (by decide +kernel)) rfl rfl ?_
  refine xw_iload_n (n := 19) (show xlook 181 18 = some (18, .iload_n 1, 1, 0, 0, 0, 0) from xlk (by decide +kernel)) rfl rfl ?_
  obtain ⟨j2, hj2, rr2, G2, hm2, hG2, t⟩ := t
  obtain ⟨y2, rfl, t⟩ := t
  refine xw_callv (dk := j2) (o := 131) (as := [vi (x1)]) (show xlook 181 19 = some (19, .invokevirtual 241, 3, 175, 2, 0, 188) from xlk (by decide +kernel)) (by decide) hj2 ⟨Nat.le_of_ble_eq_true rfl, Nat.le_of_ble_eq_true rfl, Nat.le_of_ble_eq_true rfl⟩ ⟨xob_12.1, xob_12.2, by decide⟩ rfl hm2 (n := 22) rfl ?_
  show xW X d 181 22 [.ref (131), vi (x1), vi ((F) (140) ((x1) + (130))), w3, w4] [vi (y2)] G2 (xqv Q)
  refine xw_istore_n (n := 23) (show xlook 181 22 = some (22, .istore_n 3, 1, 0, 0, 0, 0) from xlk (by decide +kernel)) rfl (ls' := [.ref (131), vi (x1), vi ((F) (140) ((x1) + (130))), vi (y2), w4]) (Nat.le_of_ble_eq_true rfl) rfl ?_
  refine xw_iconst (n := 24) (show xlook 181 23 = some (23, .iconst 0, 1, 0, 0, 0, 0) from xlk (by decide +kernel)) rfl ?_
  refine xw_istore (n := 26) (show xlook 181 24 = some (24, .istore 4, 2, 0, 0, 0, 0) from xlk (by decide +kernel)) rfl (ls' := [.ref (131), vi (x1), vi ((F) (140) ((x1) + (130))), vi (y2), vi (0)]) (Nat.le_of_ble_eq_true rfl) rfl ?_
  exact t hG2
theorem m181 {X : List Int32} {d : Nat} {F : XF} {Q : XF → Prop} {x1 : Int} (hPT : xPT F)  (t : (0 ≤ ((x1) + (130)) ∧ ((x1) + (130)) < 264) ∧ (∃ (j1 : Nat), j1 < d ∧ xMV X j1 176 [.ref (131), vi (x1), vi ((F) (140) ((x1) + (130)))] (F) (fun (G1 : XF) => (∃ (j2 : Nat), j2 < d ∧ xMI X j2 175 [.ref (131), vi (x1)] (G1) (fun (y2 : Int) (G2 : XF) => (xPT (G2) → xW X d 181 26 [.ref (131), vi (x1), vi ((F) (140) ((x1) + (130))), vi (y2), vi (0)] [] (G2) (xqv Q))))))) : xMV X d 181 [.ref (131), vi (x1)] F Q := by
  show xW X d 181 0 [.ref (131), vi (x1), xU0, xU0, xU0] [] F (xqv Q)
  exact s181_0 hPT  t

theorem s181_26 {X : List Int32} {d : Nat} {F : XF} {Q : XF → Prop} {x1 : Int} {x2 : Int} {x3 : Int} {x4 : Int} (hPT : xPT F)  (t : ∃ (j1 : Nat), j1 < d ∧ xMI X j1 154 [.ref (131)] (F) (fun (y1 : Int) (G1 : XF) => (inR (x4) ∧ inR (y1) ∧ ((((y1) ≤ (x4)) → ((0 ≤ ((x1) + (130)) ∧ ((x1) + (130)) < 264) ∧ ((0 ≤ ((x1) + (130)) ∧ ((x1) + (130)) < 264) ∧ (xPT (xup (G1) (140) ((x1) + (130)) (((G1) (140) ((x1) + (130))) + (1))) → Q (xup (G1) (140) ((x1) + (130)) (((G1) (140) ((x1) + (130))) + (1))))))) ∧ (¬ ((y1) ≤ (x4)) → (∃ (j2 : Nat), j2 < d ∧ xMI X j2 172 [.ref (131), vi (x1), vi (x4)] (G1) (fun (y2 : Int) (G2 : XF) => (inR (y2) ∧ ((((y2) = (0)) → (inR (x2) ∧ inR ((G2) (132) 3) ∧ (((((G2) (132) 3) ≤ (x2)) → (∃ (j3 : Nat), j3 < d ∧ xMI X j3 174 [.ref (131), vi (x4), vi (x2)] (G2) (fun (y3 : Int) (G3 : XF) => (inR (y3) ∧ ((((y3) = (0)) → (∃ (j4 : Nat), j4 < d ∧ xMV X j4 178 [.ref (131), vi (x1), vi (x4), vi (x2), vi (x3)] (G3) (fun (G4 : XF) => (xPT (G4) → xW X d 181 26 [.ref (131), vi (x1), vi (x2), vi (x3), vi (x4 + 1)] [] (G4) (xqv Q))))) ∧ (¬ ((y3) = (0)) → ((0 ≤ (((x1) + (30)) + (x4)) ∧ (((x1) + (30)) + (x4)) < 264) ∧ (xPT (xup (G3) (140) (((x1) + (30)) + (x4)) (2)) → xW X d 181 26 [.ref (131), vi (x1), vi (x2), vi (x3), vi (x4 + 1)] [] (xup (G3) (140) (((x1) + (30)) + (x4)) (2)) (xqv Q))))))))) ∧ (¬ (((G2) (132) 3) ≤ (x2)) → ((0 ≤ (((x1) + (30)) + (x4)) ∧ (((x1) + (30)) + (x4)) < 264) ∧ (xPT (xup (G2) (140) (((x1) + (30)) + (x4)) (1)) → xW X d 181 26 [.ref (131), vi (x1), vi (x2), vi (x3), vi (x4 + 1)] [] (xup (G2) (140) (((x1) + (30)) + (x4)) (1)) (xqv Q))))))) ∧ (¬ ((y2) = (0)) → ((0 ≤ (((x1) + (30)) + (x4)) ∧ (((x1) + (30)) + (x4)) < 264) ∧ (xPT (xup (G2) (140) (((x1) + (30)) + (x4)) (0)) → xW X d 181 26 [.ref (131), vi (x1), vi (x2), vi (x3), vi (x4 + 1)] [] (xup (G2) (140) (((x1) + (30)) + (x4)) (0)) (xqv Q))))))))))))) : xW X d 181 26 [.ref (131), vi (x1), vi (x2), vi (x3), vi (x4)] [] F (xqv Q) := by
  refine xw_iload (n := 28) (show xlook 181 26 = some (26, .iload 4, 2, 0, 0, 0, 0) from xlk (by decide +kernel)) rfl rfl ?_
  refine xw_aload_n (n := 29) (show xlook 181 28 = some (28, .aload_n 0, 1, 0, 0, 0, 0) from xlk (by decide +kernel)) rfl rfl ?_
  obtain ⟨j1, hj1, rr1, G1, hm1, hG1, t⟩ := t
  obtain ⟨y1, rfl, t⟩ := t
  refine xw_callv (dk := j1) (o := 131) (as := []) (show xlook 181 29 = some (29, .invokevirtual 161, 3, 154, 1, 0, 169) from xlk (by decide +kernel)) (by decide) hj1 ⟨Nat.le_of_ble_eq_true rfl, Nat.le_of_ble_eq_true rfl, Nat.le_of_ble_eq_true rfl⟩ ⟨xob_12.1, xob_12.2, by decide⟩ rfl hm1 (n := 32) rfl ?_
  show xW X d 181 32 [.ref (131), vi (x1), vi (x2), vi (x3), vi (x4)] [vi (y1), vi (x4)] G1 (xqv Q)
  obtain ⟨q0, q1, t⟩ := t
  refine xw_icmp_ge (n := 35) (m := 128) (show xlook 181 32 = some (32, .if_icmp .ge 96, 3, 128, 0, 0, 0) from xlk (by decide +kernel)) rfl rfl q0 q1 ⟨fun c => ?_, fun c => ?_⟩
  · replace t := t.1 c
    refine xw_aload_n (n := 129) (show xlook 181 128 = some (128, .aload_n 0, 1, 0, 0, 0, 0) from xlk (by decide +kernel)) rfl rfl ?_
    refine xw_getr (q := 140) (show xlook 181 129 = some (129, .getfield 42, 3, 12, 18, 0, 229) from xlk (by decide +kernel)) (by decide) (xobf xob_12 (by decide) (by decide)) rfl (xPT_get (k := 18) (f := 9) hG1 xob_12 (by decide)) (by have := (xtg_12_18 _ xob_12.1 xob_12.2).1.1; omega) (n := 132) rfl ?_
    refine xw_iload_n (n := 133) (show xlook 181 132 = some (132, .iload_n 1, 1, 0, 0, 0, 0) from xlk (by decide +kernel)) rfl rfl ?_
    refine xw_sipush (n := 136) (show xlook 181 133 = some (133, .sipush 130, 3, 0, 0, 0, 0) from xlk (by decide +kernel)) rfl (by decide) ?_
    refine xw_iadd (n := 137) (show xlook 181 136 = some (136, .iadd, 1, 0, 0, 0, 0) from xlk (by decide +kernel)) rfl ?_
    refine xw_dup2 (n := 138) (show xlook 181 137 = some (137, .dup2, 1, 0, 0, 0, 0) from xlk (by decide +kernel)) rfl ?_
    obtain ⟨q1, t⟩ := t
    refine xw_iald (show xlook 181 138 = some (138, .iaload, 1, 0, 0, 0, 0) from xlk (by decide +kernel)) (xtg_12_18 _ xob_12.1 xob_12.2).1 (by rw [(xtg_12_18 _ xob_12.1 xob_12.2).2]; exact q1) (n := 139) rfl ?_
    refine xw_iconst (n := 140) (show xlook 181 139 = some (139, .iconst 1, 1, 0, 0, 0, 0) from xlk (by decide +kernel)) rfl ?_
    refine xw_iadd (n := 141) (show xlook 181 140 = some (140, .iadd, 1, 0, 0, 0, 0) from xlk (by decide +kernel)) rfl ?_
    obtain ⟨q1, t⟩ := t
    refine xw_iast (show xlook 181 141 = some (141, .iastore, 1, 0, 0, 0, 0) from xlk (by decide +kernel)) (xtg_12_18 _ xob_12.1 xob_12.2).1 (by rw [(xtg_12_18 _ xob_12.1 xob_12.2).2]; exact q1) (n := 142) rfl ?_
    exact xw_return (xPT_arr hG1 (Or.inl (xtg_12_18 _ xob_12.1 xob_12.2).1.2)) (show xlook 181 142 = some (142, .return_, 1, 0, 0, 0, 0) from xlk (by decide +kernel)) rfl (t (xPT_arr hG1 (Or.inl (xtg_12_18 _ xob_12.1 xob_12.2).1.2)))
  · replace t := t.2 c
    refine xw_aload_n (n := 36) (show xlook 181 35 = some (35, .aload_n 0, 1, 0, 0, 0, 0) from xlk (by decide +kernel)) rfl rfl ?_
    refine xw_iload_n (n := 37) (show xlook 181 36 = some (36, .iload_n 1, 1, 0, 0, 0, 0) from xlk (by decide +kernel)) rfl rfl ?_
    refine xw_iload (n := 39) (show xlook 181 37 = some (37, .iload 4, 2, 0, 0, 0, 0) from xlk (by decide +kernel)) rfl rfl ?_
    obtain ⟨j2, hj2, rr2, G2, hm2, hG2, t⟩ := t
    obtain ⟨y2, rfl, t⟩ := t
    refine xw_callv (dk := j2) (o := 131) (as := [vi (x1), vi (x4)]) (show xlook 181 39 = some (39, .invokevirtual 228, 3, 172, 3, 0, 184) from xlk (by decide +kernel)) (by decide) hj2 ⟨Nat.le_of_ble_eq_true rfl, Nat.le_of_ble_eq_true rfl, Nat.le_of_ble_eq_true rfl⟩ ⟨xob_12.1, xob_12.2, by decide⟩ rfl hm2 (n := 42) rfl ?_
    show xW X d 181 42 [.ref (131), vi (x1), vi (x2), vi (x3), vi (x4)] [vi (y2)] G2 (xqv Q)
    obtain ⟨q0, t⟩ := t
    refine xw_if_eq (n := 45) (m := 61) (show xlook 181 42 = some (42, .ifCond .eq 19, 3, 61, 0, 0, 0) from xlk (by decide +kernel)) rfl rfl q0 ⟨fun c => ?_, fun c => ?_⟩
    · replace t := t.1 c
      refine xw_iload_n (n := 62) (show xlook 181 61 = some (61, .iload_n 2, 1, 0, 0, 0, 0) from xlk (by decide +kernel)) rfl rfl ?_
      refine xw_aload_n (n := 63) (show xlook 181 62 = some (62, .aload_n 0, 1, 0, 0, 0, 0) from xlk (by decide +kernel)) rfl rfl ?_
      refine xw_getr (q := 132) (show xlook 181 63 = some (63, .getfield 13, 3, 12, 1, 0, 220) from xlk (by decide +kernel)) (by decide) (xobf xob_12 (by decide) (by decide)) rfl (xPT_get (k := 1) (f := 1) hG2 xob_12 (by decide)) (by have := (xtg_12_1 _ xob_12.1 xob_12.2).1.1; omega) (n := 66) rfl ?_
      refine xw_iconst (n := 67) (show xlook 181 66 = some (66, .iconst 3, 1, 0, 0, 0, 0) from xlk (by decide +kernel)) rfl ?_
      refine xw_iald (show xlook 181 67 = some (67, .iaload, 1, 0, 0, 0, 0) from xlk (by decide +kernel)) (xtg_12_1 _ xob_12.1 xob_12.2).1 (by rw [(xtg_12_1 _ xob_12.1 xob_12.2).2]; decide) (n := 68) rfl ?_
      obtain ⟨q0, q1, t⟩ := t
      refine xw_icmp_ge (n := 71) (m := 87) (show xlook 181 68 = some (68, .if_icmp .ge 19, 3, 87, 0, 0, 0) from xlk (by decide +kernel)) rfl rfl q0 q1 ⟨fun c => ?_, fun c => ?_⟩
      · replace t := t.1 c
        refine xw_aload_n (n := 88) (show xlook 181 87 = some (87, .aload_n 0, 1, 0, 0, 0, 0) from xlk (by decide +kernel)) rfl rfl ?_
        refine xw_iload (n := 90) (show xlook 181 88 = some (88, .iload 4, 2, 0, 0, 0, 0) from xlk (by decide +kernel)) rfl rfl ?_
        refine xw_iload_n (n := 91) (show xlook 181 90 = some (90, .iload_n 2, 1, 0, 0, 0, 0) from xlk (by decide +kernel)) rfl rfl ?_
        obtain ⟨j3, hj3, rr3, G3, hm3, hG3, t⟩ := t
        obtain ⟨y3, rfl, t⟩ := t
        refine xw_callv (dk := j3) (o := 131) (as := [vi (x4), vi (x2)]) (show xlook 181 91 = some (91, .invokevirtual 244, 3, 174, 3, 0, 189) from xlk (by decide +kernel)) (by decide) hj3 ⟨Nat.le_of_ble_eq_true rfl, Nat.le_of_ble_eq_true rfl, Nat.le_of_ble_eq_true rfl⟩ ⟨xob_12.1, xob_12.2, by decide⟩ rfl hm3 (n := 94) rfl ?_
        show xW X d 181 94 [.ref (131), vi (x1), vi (x2), vi (x3), vi (x4)] [vi (y3)] G3 (xqv Q)
        obtain ⟨q0, t⟩ := t
        refine xw_if_eq (n := 97) (m := 113) (show xlook 181 94 = some (94, .ifCond .eq 19, 3, 113, 0, 0, 0) from xlk (by decide +kernel)) rfl rfl q0 ⟨fun c => ?_, fun c => ?_⟩
        · replace t := t.1 c
          refine xw_aload_n (n := 114) (show xlook 181 113 = some (113, .aload_n 0, 1, 0, 0, 0, 0) from xlk (by decide +kernel)) rfl rfl ?_
          refine xw_iload_n (n := 115) (show xlook 181 114 = some (114, .iload_n 1, 1, 0, 0, 0, 0) from xlk (by decide +kernel)) rfl rfl ?_
          refine xw_iload (n := 117) (show xlook 181 115 = some (115, .iload 4, 2, 0, 0, 0, 0) from xlk (by decide +kernel)) rfl rfl ?_
          refine xw_iload_n (n := 118) (show xlook 181 117 = some (117, .iload_n 2, 1, 0, 0, 0, 0) from xlk (by decide +kernel)) rfl rfl ?_
          refine xw_iload_n (n := 119) (show xlook 181 118 = some (118, .iload_n 3, 1, 0, 0, 0, 0) from xlk (by decide +kernel)) rfl rfl ?_
          obtain ⟨j4, hj4, rr4, G4, hm4, hG4, t⟩ := t
          obtain ⟨rfl, t⟩ := t
          refine xw_callv (dk := j4) (o := 131) (as := [vi (x1), vi (x4), vi (x2), vi (x3)]) (show xlook 181 119 = some (119, .invokevirtual 247, 3, 178, 5, 0, 190) from xlk (by decide +kernel)) (by decide) hj4 ⟨Nat.le_of_ble_eq_true rfl, Nat.le_of_ble_eq_true rfl, Nat.le_of_ble_eq_true rfl⟩ ⟨xob_12.1, xob_12.2, by decide⟩ rfl hm4 (n := 122) rfl ?_
          show xW X d 181 122 [.ref (131), vi (x1), vi (x2), vi (x3), vi (x4)] [] G4 (xqv Q)
          refine xw_iinc (n := 125) (show xlook 181 122 = some (122, .iinc 4 1, 3, 0, 0, 0, 0) from xlk (by decide +kernel)) rfl (ls' := [.ref (131), vi (x1), vi (x2), vi (x3), vi (x4 + 1)]) rfl rfl ?_
          refine xw_goto (m := 26) (show xlook 181 125 = some (125, .goto (-99), 3, 26, 0, 0, 0) from xlk (by decide +kernel)) rfl ?_
          exact t hG4
        · replace t := t.2 c
          refine xw_aload_n (n := 98) (show xlook 181 97 = some (97, .aload_n 0, 1, 0, 0, 0, 0) from xlk (by decide +kernel)) rfl rfl ?_
          refine xw_getr (q := 140) (show xlook 181 98 = some (98, .getfield 42, 3, 12, 18, 0, 229) from xlk (by decide +kernel)) (by decide) (xobf xob_12 (by decide) (by decide)) rfl (xPT_get (k := 18) (f := 9) hG3 xob_12 (by decide)) (by have := (xtg_12_18 _ xob_12.1 xob_12.2).1.1; omega) (n := 101) rfl ?_
          refine xw_iload_n (n := 102) (show xlook 181 101 = some (101, .iload_n 1, 1, 0, 0, 0, 0) from xlk (by decide +kernel)) rfl rfl ?_
          refine xw_bipush (n := 104) (show xlook 181 102 = some (102, .bipush 30, 2, 0, 0, 0, 0) from xlk (by decide +kernel)) rfl (by decide) ?_
          refine xw_iadd (n := 105) (show xlook 181 104 = some (104, .iadd, 1, 0, 0, 0, 0) from xlk (by decide +kernel)) rfl ?_
          refine xw_iload (n := 107) (show xlook 181 105 = some (105, .iload 4, 2, 0, 0, 0, 0) from xlk (by decide +kernel)) rfl rfl ?_
          refine xw_iadd (n := 108) (show xlook 181 107 = some (107, .iadd, 1, 0, 0, 0, 0) from xlk (by decide +kernel)) rfl ?_
          refine xw_iconst (n := 109) (show xlook 181 108 = some (108, .iconst 2, 1, 0, 0, 0, 0) from xlk (by decide +kernel)) rfl ?_
          obtain ⟨q1, t⟩ := t
          refine xw_iast (show xlook 181 109 = some (109, .iastore, 1, 0, 0, 0, 0) from xlk (by decide +kernel)) (xtg_12_18 _ xob_12.1 xob_12.2).1 (by rw [(xtg_12_18 _ xob_12.1 xob_12.2).2]; exact q1) (n := 110) rfl ?_
          refine xw_goto (m := 122) (show xlook 181 110 = some (110, .goto 12, 3, 122, 0, 0, 0) from xlk (by decide +kernel)) rfl ?_
          refine xw_iinc (n := 125) (show xlook 181 122 = some (122, .iinc 4 1, 3, 0, 0, 0, 0) from xlk (by decide +kernel)) rfl (ls' := [.ref (131), vi (x1), vi (x2), vi (x3), vi (x4 + 1)]) rfl rfl ?_
          refine xw_goto (m := 26) (show xlook 181 125 = some (125, .goto (-99), 3, 26, 0, 0, 0) from xlk (by decide +kernel)) rfl ?_
          exact t (xPT_arr hG3 (Or.inl (xtg_12_18 _ xob_12.1 xob_12.2).1.2))
      · replace t := t.2 c
        refine xw_aload_n (n := 72) (show xlook 181 71 = some (71, .aload_n 0, 1, 0, 0, 0, 0) from xlk (by decide +kernel)) rfl rfl ?_
        refine xw_getr (q := 140) (show xlook 181 72 = some (72, .getfield 42, 3, 12, 18, 0, 229) from xlk (by decide +kernel)) (by decide) (xobf xob_12 (by decide) (by decide)) rfl (xPT_get (k := 18) (f := 9) hG2 xob_12 (by decide)) (by have := (xtg_12_18 _ xob_12.1 xob_12.2).1.1; omega) (n := 75) rfl ?_
        refine xw_iload_n (n := 76) (show xlook 181 75 = some (75, .iload_n 1, 1, 0, 0, 0, 0) from xlk (by decide +kernel)) rfl rfl ?_
        refine xw_bipush (n := 78) (show xlook 181 76 = some (76, .bipush 30, 2, 0, 0, 0, 0) from xlk (by decide +kernel)) rfl (by decide) ?_
        refine xw_iadd (n := 79) (show xlook 181 78 = some (78, .iadd, 1, 0, 0, 0, 0) from xlk (by decide +kernel)) rfl ?_
        refine xw_iload (n := 81) (show xlook 181 79 = some (79, .iload 4, 2, 0, 0, 0, 0) from xlk (by decide +kernel)) rfl rfl ?_
        refine xw_iadd (n := 82) (show xlook 181 81 = some (81, .iadd, 1, 0, 0, 0, 0) from xlk (by decide +kernel)) rfl ?_
        refine xw_iconst (n := 83) (show xlook 181 82 = some (82, .iconst 1, 1, 0, 0, 0, 0) from xlk (by decide +kernel)) rfl ?_
        obtain ⟨q1, t⟩ := t
        refine xw_iast (show xlook 181 83 = some (83, .iastore, 1, 0, 0, 0, 0) from xlk (by decide +kernel)) (xtg_12_18 _ xob_12.1 xob_12.2).1 (by rw [(xtg_12_18 _ xob_12.1 xob_12.2).2]; exact q1) (n := 84) rfl ?_
        refine xw_goto (m := 122) (show xlook 181 84 = some (84, .goto 38, 3, 122, 0, 0, 0) from xlk (by decide +kernel)) rfl ?_
        refine xw_iinc (n := 125) (show xlook 181 122 = some (122, .iinc 4 1, 3, 0, 0, 0, 0) from xlk (by decide +kernel)) rfl (ls' := [.ref (131), vi (x1), vi (x2), vi (x3), vi (x4 + 1)]) rfl rfl ?_
        refine xw_goto (m := 26) (show xlook 181 125 = some (125, .goto (-99), 3, 26, 0, 0, 0) from xlk (by decide +kernel)) rfl ?_
        exact t (xPT_arr hG2 (Or.inl (xtg_12_18 _ xob_12.1 xob_12.2).1.2))
    · replace t := t.2 c
      refine xw_aload_n (n := 46) (show xlook 181 45 = some (45, .aload_n 0, 1, 0, 0, 0, 0) from xlk (by decide +kernel)) rfl rfl ?_
      refine xw_getr (q := 140) (show xlook 181 46 = some (46, .getfield 42, 3, 12, 18, 0, 229) from xlk (by decide +kernel)) (by decide) (xobf xob_12 (by decide) (by decide)) rfl (xPT_get (k := 18) (f := 9) hG2 xob_12 (by decide)) (by have := (xtg_12_18 _ xob_12.1 xob_12.2).1.1; omega) (n := 49) rfl ?_
      refine xw_iload_n (n := 50) (show xlook 181 49 = some (49, .iload_n 1, 1, 0, 0, 0, 0) from xlk (by decide +kernel)) rfl rfl ?_
      refine xw_bipush (n := 52) (show xlook 181 50 = some (50, .bipush 30, 2, 0, 0, 0, 0) from xlk (by decide +kernel)) rfl (by decide) ?_
      refine xw_iadd (n := 53) (show xlook 181 52 = some (52, .iadd, 1, 0, 0, 0, 0) from xlk (by decide +kernel)) rfl ?_
      refine xw_iload (n := 55) (show xlook 181 53 = some (53, .iload 4, 2, 0, 0, 0, 0) from xlk (by decide +kernel)) rfl rfl ?_
      refine xw_iadd (n := 56) (show xlook 181 55 = some (55, .iadd, 1, 0, 0, 0, 0) from xlk (by decide +kernel)) rfl ?_
      refine xw_iconst (n := 57) (show xlook 181 56 = some (56, .iconst 0, 1, 0, 0, 0, 0) from xlk (by decide +kernel)) rfl ?_
      obtain ⟨q1, t⟩ := t
      refine xw_iast (show xlook 181 57 = some (57, .iastore, 1, 0, 0, 0, 0) from xlk (by decide +kernel)) (xtg_12_18 _ xob_12.1 xob_12.2).1 (by rw [(xtg_12_18 _ xob_12.1 xob_12.2).2]; exact q1) (n := 58) rfl ?_
      refine xw_goto (m := 122) (show xlook 181 58 = some (58, .goto 64, 3, 122, 0, 0, 0) from xlk (by decide +kernel)) rfl ?_
      refine xw_iinc (n := 125) (show xlook 181 122 = some (122, .iinc 4 1, 3, 0, 0, 0, 0) from xlk (by decide +kernel)) rfl (ls' := [.ref (131), vi (x1), vi (x2), vi (x3), vi (x4 + 1)]) rfl rfl ?_
      refine xw_goto (m := 26) (show xlook 181 125 = some (125, .goto (-99), 3, 26, 0, 0, 0) from xlk (by decide +kernel)) rfl ?_
      exact t (xPT_arr hG2 (Or.inl (xtg_12_18 _ xob_12.1 xob_12.2).1.2))

theorem s182_0 {X : List Int32} {d : Nat} {F : XF} {Q : Int → XF → Prop} {x1 : Int} {w2 : Value} (hPT : xPT F)  (t : (inR (x1)) ∧ (∃ (j1 : Nat), j1 < d ∧ xMI X j1 132 [vl (x1), vl (0), vl (2000)] (xup (F) (131) 0 (0)) (fun (y1 : Int) (G1 : XF) => (inR (y1) ∧ (((¬ (y1) = (0)) → (xPT (G1) → xW X d 182 22 [.ref (131), vi (x1), vi (0)] [] (G1) (xqi Q))) ∧ (¬ (¬ (y1) = (0)) → (xPT (G1) → Q ((-3)) (G1)))))))) : xW X d 182 0 [.ref (131), vi (x1), w2] [] F (xqi Q) := by
  refine xw_aload_n (n := 1) (show xlook 182 0 = some (0, .aload_n 0, 1, 0, 0, 0, 0) from xlk (by decide +kernel)) rfl rfl ?_
  refine xw_iconst (n := 2) (show xlook 182 1 = some (1, .iconst 0, 1, 0, 0, 0, 0) from xlk (by decide +kernel)) rfl ?_
  refine xw_puti (show xlook 182 2 = some (2, .putfield 1, 3, 12, 0, 0, 235) from xlk (by decide +kernel)) (xobf xob_12 (by decide) (by decide)) rfl (n := 5) rfl ?_
  refine xw_iload_n (n := 6) (show xlook 182 5 = some (5, .iload_n 1, 1, 0, 0, 0, 0) from xlk (by decide +kernel)) rfl rfl ?_
  obtain ⟨q1, t⟩ := t
  refine xw_i2l (n := 7) (show xlook 182 6 = some (6, .i2l, 1, 0, 0, 0, 0) from xlk (by decide +kernel)) rfl q1 ?_
  refine xw_lconst (n := 8) (show xlook 182 7 = some (7, .lconst 0, 1, 0, 0, 0, 0) from xlk (by decide +kernel)) rfl (k := 0) (by decide) ?_
  refine xw_ldc2 (n := 11) (show xlook 182 8 = some (8, .ldc2_w 251, 3, 0, 0, 2000, 11) from xlk (by decide +kernel)) rfl ?_
  obtain ⟨j1, hj1, rr1, G1, hm1, hG1, t⟩ := t
  obtain ⟨y1, rfl, t⟩ := t
  refine xw_calls (dk := j1) (as := [vl (x1), vl (0), vl (2000)]) (show xlook 182 11 = some (11, .invokestatic 83, 3, 132, 3, 0, 151) from xlk (by decide +kernel)) (by decide) hj1 ⟨Nat.le_of_ble_eq_true rfl, Nat.le_of_ble_eq_true rfl, Nat.le_of_ble_eq_true rfl, by decide⟩ rfl hm1 (n := 14) rfl ?_
  show xW X d 182 14 [.ref (131), vi (x1), w2] [vi (y1)] G1 (xqi Q)
  obtain ⟨q0, t⟩ := t
  refine xw_if_ne (n := 17) (m := 20) (show xlook 182 14 = some (14, .ifCond .ne 6, 3, 20, 0, 0, 0) from xlk (by decide +kernel)) rfl rfl q0 ⟨fun c => ?_, fun c => ?_⟩
  · replace t := t.1 c
    refine xw_iconst (n := 21) (show xlook 182 20 = some (20, .iconst 0, 1, 0, 0, 0, 0) from xlk (by decide +kernel)) rfl ?_
    refine xw_istore_n (n := 22) (show xlook 182 21 = some (21, .istore_n 2, 1, 0, 0, 0, 0) from xlk (by decide +kernel)) rfl (ls' := [.ref (131), vi (x1), vi (0)]) (Nat.le_of_ble_eq_true rfl) rfl ?_
    exact t hG1
  · replace t := t.2 c
    refine xw_bipush (n := 19) (show xlook 182 17 = some (17, .bipush (-3), 2, 0, 0, 0, 0) from xlk (by decide +kernel)) rfl (by decide) ?_
    exact xw_ireturn hG1 (show xlook 182 19 = some (19, .ireturn, 1, 0, 0, 0, 0) from xlk (by decide +kernel)) rfl (t hG1)
theorem m182 {X : List Int32} {d : Nat} {F : XF} {Q : Int → XF → Prop} {x1 : Int} (hPT : xPT F)  (t : (inR (x1)) ∧ (∃ (j1 : Nat), j1 < d ∧ xMI X j1 132 [vl (x1), vl (0), vl (2000)] (xup (F) (131) 0 (0)) (fun (y1 : Int) (G1 : XF) => (inR (y1) ∧ (((¬ (y1) = (0)) → (xPT (G1) → xW X d 182 22 [.ref (131), vi (x1), vi (0)] [] (G1) (xqi Q))) ∧ (¬ (¬ (y1) = (0)) → (xPT (G1) → Q ((-3)) (G1)))))))) : xMI X d 182 [.ref (131), vi (x1)] F Q := by
  show xW X d 182 0 [.ref (131), vi (x1), xU0] [] F (xqi Q)
  exact s182_0 hPT  t

theorem s182_22 {X : List Int32} {d : Nat} {F : XF} {Q : Int → XF → Prop} {x1 : Int} {x2 : Int} (hPT : xPT F)  (t : inR (x2) ∧ inR (x1) ∧ ((((x1) ≤ (x2)) → (xPT (F) → Q ((F) (140) 130) (F))) ∧ (¬ ((x1) ≤ (x2)) → (inR ((F) (140) 130) ∧ ((((2000) ≤ ((F) (140) 130)) → (xPT (F) → Q ((F) (140) 130) (F))) ∧ (¬ ((2000) ≤ ((F) (140) 130)) → (∃ (j1 : Nat), j1 < d ∧ xMV X j1 181 [.ref (131), vi (0)] (F) (fun (G1 : XF) => (xPT (G1) → xW X d 182 22 [.ref (131), vi (x1), vi (x2 + 1)] [] (G1) (xqi Q)))))))))) : xW X d 182 22 [.ref (131), vi (x1), vi (x2)] [] F (xqi Q) := by
  refine xw_iload_n (n := 23) (show xlook 182 22 = some (22, .iload_n 2, 1, 0, 0, 0, 0) from xlk (by decide +kernel)) rfl rfl ?_
  refine xw_iload_n (n := 24) (show xlook 182 23 = some (23, .iload_n 1, 1, 0, 0, 0, 0) from xlk (by decide +kernel)) rfl rfl ?_
  obtain ⟨q0, q1, t⟩ := t
  refine xw_icmp_ge (n := 27) (m := 52) (show xlook 182 24 = some (24, .if_icmp .ge 28, 3, 52, 0, 0, 0) from xlk (by decide +kernel)) rfl rfl q0 q1 ⟨fun c => ?_, fun c => ?_⟩
  · replace t := t.1 c
    refine xw_aload_n (n := 53) (show xlook 182 52 = some (52, .aload_n 0, 1, 0, 0, 0, 0) from xlk (by decide +kernel)) rfl rfl ?_
    refine xw_getr (q := 140) (show xlook 182 53 = some (53, .getfield 42, 3, 12, 18, 0, 229) from xlk (by decide +kernel)) (by decide) (xobf xob_12 (by decide) (by decide)) rfl (xPT_get (k := 18) (f := 9) hPT xob_12 (by decide)) (by have := (xtg_12_18 _ xob_12.1 xob_12.2).1.1; omega) (n := 56) rfl ?_
    refine xw_sipush (n := 59) (show xlook 182 56 = some (56, .sipush 130, 3, 0, 0, 0, 0) from xlk (by decide +kernel)) rfl (by decide) ?_
    refine xw_iald (show xlook 182 59 = some (59, .iaload, 1, 0, 0, 0, 0) from xlk (by decide +kernel)) (xtg_12_18 _ xob_12.1 xob_12.2).1 (by rw [(xtg_12_18 _ xob_12.1 xob_12.2).2]; decide) (n := 60) rfl ?_
    exact xw_ireturn hPT (show xlook 182 60 = some (60, .ireturn, 1, 0, 0, 0, 0) from xlk (by decide +kernel)) rfl (t hPT)
  · replace t := t.2 c
    refine xw_aload_n (n := 28) (show xlook 182 27 = some (27, .aload_n 0, 1, 0, 0, 0, 0) from xlk (by decide +kernel)) rfl rfl ?_
    refine xw_getr (q := 140) (show xlook 182 28 = some (28, .getfield 42, 3, 12, 18, 0, 229) from xlk (by decide +kernel)) (by decide) (xobf xob_12 (by decide) (by decide)) rfl (xPT_get (k := 18) (f := 9) hPT xob_12 (by decide)) (by have := (xtg_12_18 _ xob_12.1 xob_12.2).1.1; omega) (n := 31) rfl ?_
    refine xw_sipush (n := 34) (show xlook 182 31 = some (31, .sipush 130, 3, 0, 0, 0, 0) from xlk (by decide +kernel)) rfl (by decide) ?_
    refine xw_iald (show xlook 182 34 = some (34, .iaload, 1, 0, 0, 0, 0) from xlk (by decide +kernel)) (xtg_12_18 _ xob_12.1 xob_12.2).1 (by rw [(xtg_12_18 _ xob_12.1 xob_12.2).2]; decide) (n := 35) rfl ?_
    refine xw_sipush (n := 38) (show xlook 182 35 = some (35, .sipush 2000, 3, 0, 0, 0, 0) from xlk (by decide +kernel)) rfl (by decide) ?_
    obtain ⟨q0, t⟩ := t
    refine xw_icmp_ge (n := 41) (m := 52) (show xlook 182 38 = some (38, .if_icmp .ge 14, 3, 52, 0, 0, 0) from xlk (by decide +kernel)) rfl rfl q0 ⟨by decide, by decide⟩ ⟨fun c => ?_, fun c => ?_⟩
    · replace t := t.1 c
      refine xw_aload_n (n := 53) (show xlook 182 52 = some (52, .aload_n 0, 1, 0, 0, 0, 0) from xlk (by decide +kernel)) rfl rfl ?_
      refine xw_getr (q := 140) (show xlook 182 53 = some (53, .getfield 42, 3, 12, 18, 0, 229) from xlk (by decide +kernel)) (by decide) (xobf xob_12 (by decide) (by decide)) rfl (xPT_get (k := 18) (f := 9) hPT xob_12 (by decide)) (by have := (xtg_12_18 _ xob_12.1 xob_12.2).1.1; omega) (n := 56) rfl ?_
      refine xw_sipush (n := 59) (show xlook 182 56 = some (56, .sipush 130, 3, 0, 0, 0, 0) from xlk (by decide +kernel)) rfl (by decide) ?_
      refine xw_iald (show xlook 182 59 = some (59, .iaload, 1, 0, 0, 0, 0) from xlk (by decide +kernel)) (xtg_12_18 _ xob_12.1 xob_12.2).1 (by rw [(xtg_12_18 _ xob_12.1 xob_12.2).2]; decide) (n := 60) rfl ?_
      exact xw_ireturn hPT (show xlook 182 60 = some (60, .ireturn, 1, 0, 0, 0, 0) from xlk (by decide +kernel)) rfl (t hPT)
    · replace t := t.2 c
      refine xw_aload_n (n := 42) (show xlook 182 41 = some (41, .aload_n 0, 1, 0, 0, 0, 0) from xlk (by decide +kernel)) rfl rfl ?_
      refine xw_iconst (n := 43) (show xlook 182 42 = some (42, .iconst 0, 1, 0, 0, 0, 0) from xlk (by decide +kernel)) rfl ?_
      obtain ⟨j1, hj1, rr1, G1, hm1, hG1, t⟩ := t
      obtain ⟨rfl, t⟩ := t
      refine xw_callv (dk := j1) (o := 131) (as := [vi (0)]) (show xlook 182 43 = some (43, .invokevirtual 253, 3, 181, 2, 0, 191) from xlk (by decide +kernel)) (by decide) hj1 ⟨Nat.le_of_ble_eq_true rfl, Nat.le_of_ble_eq_true rfl, Nat.le_of_ble_eq_true rfl⟩ ⟨xob_12.1, xob_12.2, by decide⟩ rfl hm1 (n := 46) rfl ?_
      show xW X d 182 46 [.ref (131), vi (x1), vi (x2)] [] G1 (xqi Q)
      refine xw_iinc (n := 49) (show xlook 182 46 = some (46, .iinc 2 1, 3, 0, 0, 0, 0) from xlk (by decide +kernel)) rfl (ls' := [.ref (131), vi (x1), vi (x2 + 1)]) rfl rfl ?_
      refine xw_goto (m := 22) (show xlook 182 49 = some (49, .goto (-27), 3, 22, 0, 0, 0) from xlk (by decide +kernel)) rfl ?_
      exact t hG1

theorem s183_0 {X : List Int32} {d : Nat} {F : XF} {Q : Int → XF → Prop} {w1 : Value} (hPT : xPT F)  (t : ∃ (j1 : Nat), j1 < d ∧ xMV X j1 170 [.ref (131), vi (0)] (xup (F) (131) 0 (0)) (fun (G1 : XF) => (xPT (G1) → Q ((F) (140) 130) (G1)))) : xW X d 183 0 [.ref (131), w1] [] F (xqi Q) := by
  refine xw_aload_n (n := 1) (show xlook 183 0 = some (0, .aload_n 0, 1, 0, 0, 0, 0) from xlk (by decide +kernel)) rfl rfl ?_
  refine xw_iconst (n := 2) (show xlook 183 1 = some (1, .iconst 0, 1, 0, 0, 0, 0) from xlk (by decide +kernel)) rfl ?_
  refine xw_puti (show xlook 183 2 = some (2, .putfield 1, 3, 12, 0, 0, 235) from xlk (by decide +kernel)) (xobf xob_12 (by decide) (by decide)) rfl (n := 5) rfl ?_
  refine xw_aload_n (n := 6) (show xlook 183 5 = some (5, .aload_n 0, 1, 0, 0, 0, 0) from xlk (by decide +kernel)) rfl rfl ?_
  refine xw_getr (q := 140) (show xlook 183 6 = some (6, .getfield 42, 3, 12, 18, 0, 229) from xlk (by decide +kernel)) (by decide) (xobf xob_12 (by decide) (by decide)) rfl (xPT_get (k := 18) (f := 9) (xPT_fld (k := 0) hPT xob_12 (by decide) (by decide)) xob_12 (by decide)) (by have := (xtg_12_18 _ xob_12.1 xob_12.2).1.1; omega) (n := 9) rfl ?_
  refine xw_sipush (n := 12) (show xlook 183 9 = some (9, .sipush 130, 3, 0, 0, 0, 0) from xlk (by decide +kernel)) rfl (by decide) ?_
  refine xw_iald2 (u := (F) (140) 130) (show xlook 183 12 = some (12, .iaload, 1, 0, 0, 0, 0) from xlk (by decide +kernel)) (xtg_12_18 _ xob_12.1 xob_12.2).1 (by rw [(xtg_12_18 _ xob_12.1 xob_12.2).2]; decide) (xup_o (by decide)) (n := 13) rfl ?_
  refine xw_istore_n (n := 14) (show xlook 183 13 = some (13, .istore_n 1, 1, 0, 0, 0, 0) from xlk (by decide +kernel)) rfl (ls' := [.ref (131), vi ((F) (140) 130)]) (Nat.le_of_ble_eq_true rfl) rfl ?_
  refine xw_aload_n (n := 15) (show xlook 183 14 = some (14, .aload_n 0, 1, 0, 0, 0, 0) from xlk (by decide +kernel)) rfl rfl ?_
  refine xw_iconst (n := 16) (show xlook 183 15 = some (15, .iconst 0, 1, 0, 0, 0, 0) from xlk (by decide +kernel)) rfl ?_
  obtain ⟨j1, hj1, rr1, G1, hm1, hG1, t⟩ := t
  obtain ⟨rfl, t⟩ := t
  refine xw_callv (dk := j1) (o := 131) (as := [vi (0)]) (show xlook 183 16 = some (16, .invokevirtual 63, 3, 170, 2, 0, 150) from xlk (by decide +kernel)) (by decide) hj1 ⟨Nat.le_of_ble_eq_true rfl, Nat.le_of_ble_eq_true rfl, Nat.le_of_ble_eq_true rfl⟩ ⟨xob_12.1, xob_12.2, by decide⟩ rfl hm1 (n := 19) rfl ?_
  show xW X d 183 19 [.ref (131), vi ((F) (140) 130)] [] G1 (xqi Q)
  refine xw_iload_n (n := 20) (show xlook 183 19 = some (19, .iload_n 1, 1, 0, 0, 0, 0) from xlk (by decide +kernel)) rfl rfl ?_
  exact xw_ireturn hG1 (show xlook 183 20 = some (20, .ireturn, 1, 0, 0, 0, 0) from xlk (by decide +kernel)) rfl (t hG1)
theorem m183 {X : List Int32} {d : Nat} {F : XF} {Q : Int → XF → Prop}  (hPT : xPT F)  (t : ∃ (j1 : Nat), j1 < d ∧ xMV X j1 170 [.ref (131), vi (0)] (xup (F) (131) 0 (0)) (fun (G1 : XF) => (xPT (G1) → Q ((F) (140) 130) (G1)))) : xMI X d 183 [.ref (131)] F Q := by
  show xW X d 183 0 [.ref (131), xU0] [] F (xqi Q)
  exact s183_0 hPT  t

theorem s184_0 {X : List Int32} {d : Nat} {F : XF} {Q : Int → XF → Prop} {x1 : Int} {x2 : Int} (hPT : xPT F)  (t : ∃ (j1 : Nat), j1 < d ∧ xMI X j1 155 [.ref (131), vi (x1)] (xup (F) (131) 0 (0)) (fun (y1 : Int) (G1 : XF) => (inR (y1) ∧ (((¬ (y1) = (0)) → (inR (x2) ∧ ((x2 < 0 ∨ 5 < x2) → (xPT (G1) → Q ((-2)) (G1))) ∧ (((x2) = 0) → ((0 ≤ (x1) ∧ (x1) < 264) ∧ (xPT (G1) → Q (((G1) (140) (x1)) + (100000)) (G1)))) ∧ (((x2) = 1) → (∃ (j2 : Nat), j2 < d ∧ xMI X j2 171 [.ref (131), vi (0), vi (x1)] (G1) (fun (y2 : Int) (G2 : XF) => (xPT (G2) → Q ((y2) + (100000)) (G2))))) ∧ (((x2) = 2) → ((0 ≤ ((78) + (x1)) ∧ ((78) + (x1)) < 163) ∧ (xPT (G1) → Q ((G1) (132) ((78) + (x1))) (G1)))) ∧ (((x2) = 3) → ((0 ≤ ((30) + (x1)) ∧ ((30) + (x1)) < 264) ∧ (xPT (G1) → Q ((G1) (140) ((30) + (x1))) (G1)))) ∧ (((x2) = 4) → ((0 ≤ (x1) ∧ (x1) < 30) ∧ (xPT (G1) → Q ((G1) (136) (x1)) (G1)))) ∧ (((x2) = 5) → (∃ (j3 : Nat), j3 < d ∧ xMI X j3 172 [.ref (131), vi (0), vi (x1)] (G1) (fun (y3 : Int) (G3 : XF) => (inR (y3) ∧ ((((y3) = (0)) → (xPT (G3) → Q (0) (G3))) ∧ (¬ ((y3) = (0)) → (xPT (G3) → Q (1) (G3)))))))))) ∧ (¬ (¬ (y1) = (0)) → (xPT (G1) → Q ((-2)) (G1))))))) : xW X d 184 0 [.ref (131), vi (x1), vi (x2)] [] F (xqi Q) := by
  refine xw_aload_n (n := 1) (show xlook 184 0 = some (0, .aload_n 0, 1, 0, 0, 0, 0) from xlk (by decide +kernel)) rfl rfl ?_
  refine xw_iconst (n := 2) (show xlook 184 1 = some (1, .iconst 0, 1, 0, 0, 0, 0) from xlk (by decide +kernel)) rfl ?_
  refine xw_puti (show xlook 184 2 = some (2, .putfield 1, 3, 12, 0, 0, 235) from xlk (by decide +kernel)) (xobf xob_12 (by decide) (by decide)) rfl (n := 5) rfl ?_
  refine xw_aload_n (n := 6) (show xlook 184 5 = some (5, .aload_n 0, 1, 0, 0, 0, 0) from xlk (by decide +kernel)) rfl rfl ?_
  refine xw_iload_n (n := 7) (show xlook 184 6 = some (6, .iload_n 1, 1, 0, 0, 0, 0) from xlk (by decide +kernel)) rfl rfl ?_
  obtain ⟨j1, hj1, rr1, G1, hm1, hG1, t⟩ := t
  obtain ⟨y1, rfl, t⟩ := t
  refine xw_callv (dk := j1) (o := 131) (as := [vi (x1)]) (show xlook 184 7 = some (7, .invokevirtual 176, 3, 155, 2, 0, 171) from xlk (by decide +kernel)) (by decide) hj1 ⟨Nat.le_of_ble_eq_true rfl, Nat.le_of_ble_eq_true rfl, Nat.le_of_ble_eq_true rfl⟩ ⟨xob_12.1, xob_12.2, by decide⟩ rfl hm1 (n := 10) rfl ?_
  show xW X d 184 10 [.ref (131), vi (x1), vi (x2)] [vi (y1)] G1 (xqi Q)
  obtain ⟨q0, t⟩ := t
  refine xw_if_ne (n := 13) (m := 16) (show xlook 184 10 = some (10, .ifCond .ne 6, 3, 16, 0, 0, 0) from xlk (by decide +kernel)) rfl rfl q0 ⟨fun c => ?_, fun c => ?_⟩
  · replace t := t.1 c
    refine xw_iload_n (n := 17) (show xlook 184 16 = some (16, .iload_n 2, 1, 0, 0, 0, 0) from xlk (by decide +kernel)) rfl rfl ?_
    obtain ⟨q1, td, u0, u1, u2, u3, u4, u5⟩ := t
    by_cases hq : (x2 < 0 ∨ 5 < x2)
    · replace t := td hq
      refine xw_tabOut (t := 120) (show xlook 184 17 = some (17, .tableswitch 103 0 5 #[39, 50, 61, 71, 81, 88], 39, 0, 0, 0, 0) from xlk (by decide +kernel)) q1 hq rfl ?_
      refine xw_bipush (n := 122) (show xlook 184 120 = some (120, .bipush (-2), 2, 0, 0, 0, 0) from xlk (by decide +kernel)) rfl (by decide) ?_
      exact xw_ireturn hG1 (show xlook 184 122 = some (122, .ireturn, 1, 0, 0, 0, 0) from xlk (by decide +kernel)) rfl (t hG1)
    rcases (show (x2) = 0 ∨ (x2) = 1 ∨ (x2) = 2 ∨ (x2) = 3 ∨ (x2) = 4 ∨ (x2) = 5 by omega) with e | e | e | e | e | e
    · replace t := u0 e
      refine xw_tabIn (off := 39) (t := 56) (show xlook 184 17 = some (17, .tableswitch 103 0 5 #[39, 50, 61, 71, 81, 88], 39, 0, 0, 0, 0) from xlk (by decide +kernel)) q1 hq (by show (#[39, 50, 61, 71, 81, 88] : Array Int)[((x2 : Int) - (0)).toNat]? = some (39); rw [e]; rfl) rfl ?_
      refine xw_aload_n (n := 57) (show xlook 184 56 = some (56, .aload_n 0, 1, 0, 0, 0, 0) from xlk (by decide +kernel)) rfl rfl ?_
      refine xw_getr (q := 140) (show xlook 184 57 = some (57, .getfield 42, 3, 12, 18, 0, 229) from xlk (by decide +kernel)) (by decide) (xobf xob_12 (by decide) (by decide)) rfl (xPT_get (k := 18) (f := 9) hG1 xob_12 (by decide)) (by have := (xtg_12_18 _ xob_12.1 xob_12.2).1.1; omega) (n := 60) rfl ?_
      refine xw_iload_n (n := 61) (show xlook 184 60 = some (60, .iload_n 1, 1, 0, 0, 0, 0) from xlk (by decide +kernel)) rfl rfl ?_
      obtain ⟨q1, t⟩ := t
      refine xw_iald (show xlook 184 61 = some (61, .iaload, 1, 0, 0, 0, 0) from xlk (by decide +kernel)) (xtg_12_18 _ xob_12.1 xob_12.2).1 (by rw [(xtg_12_18 _ xob_12.1 xob_12.2).2]; exact q1) (n := 62) rfl ?_
      refine xw_ldcw (n := 65) (show xlook 184 62 = some (62, .ldc_w 256, 3, 0, 0, 100000, 1) from xlk (by decide +kernel)) rfl rfl ?_
      refine xw_iadd (n := 66) (show xlook 184 65 = some (65, .iadd, 1, 0, 0, 0, 0) from xlk (by decide +kernel)) rfl ?_
      exact xw_ireturn hG1 (show xlook 184 66 = some (66, .ireturn, 1, 0, 0, 0, 0) from xlk (by decide +kernel)) rfl (t hG1)
    · replace t := u1 e
      refine xw_tabIn (off := 50) (t := 67) (show xlook 184 17 = some (17, .tableswitch 103 0 5 #[39, 50, 61, 71, 81, 88], 39, 0, 0, 0, 0) from xlk (by decide +kernel)) q1 hq (by show (#[39, 50, 61, 71, 81, 88] : Array Int)[((x2 : Int) - (0)).toNat]? = some (50); rw [e]; rfl) rfl ?_
      refine xw_aload_n (n := 68) (show xlook 184 67 = some (67, .aload_n 0, 1, 0, 0, 0, 0) from xlk (by decide +kernel)) rfl rfl ?_
      refine xw_iconst (n := 69) (show xlook 184 68 = some (68, .iconst 0, 1, 0, 0, 0, 0) from xlk (by decide +kernel)) rfl ?_
      refine xw_iload_n (n := 70) (show xlook 184 69 = some (69, .iload_n 1, 1, 0, 0, 0, 0) from xlk (by decide +kernel)) rfl rfl ?_
      obtain ⟨j2, hj2, rr2, G2, hm2, hG2, t⟩ := t
      obtain ⟨y2, rfl, t⟩ := t
      refine xw_callv (dk := j2) (o := 131) (as := [vi (0), vi (x1)]) (show xlook 184 70 = some (70, .invokevirtual 203, 3, 171, 3, 0, 179) from xlk (by decide +kernel)) (by decide) hj2 ⟨Nat.le_of_ble_eq_true rfl, Nat.le_of_ble_eq_true rfl, Nat.le_of_ble_eq_true rfl⟩ ⟨xob_12.1, xob_12.2, by decide⟩ rfl hm2 (n := 73) rfl ?_
      show xW X d 184 73 [.ref (131), vi (x1), vi (x2)] [vi (y2)] G2 (xqi Q)
      refine xw_ldcw (n := 76) (show xlook 184 73 = some (73, .ldc_w 256, 3, 0, 0, 100000, 1) from xlk (by decide +kernel)) rfl rfl ?_
      refine xw_iadd (n := 77) (show xlook 184 76 = some (76, .iadd, 1, 0, 0, 0, 0) from xlk (by decide +kernel)) rfl ?_
      exact xw_ireturn hG2 (show xlook 184 77 = some (77, .ireturn, 1, 0, 0, 0, 0) from xlk (by decide +kernel)) rfl (t hG2)
    · replace t := u2 e
      refine xw_tabIn (off := 61) (t := 78) (show xlook 184 17 = some (17, .tableswitch 103 0 5 #[39, 50, 61, 71, 81, 88], 39, 0, 0, 0, 0) from xlk (by decide +kernel)) q1 hq (by show (#[39, 50, 61, 71, 81, 88] : Array Int)[((x2 : Int) - (0)).toNat]? = some (61); rw [e]; rfl) rfl ?_
      refine xw_aload_n (n := 79) (show xlook 184 78 = some (78, .aload_n 0, 1, 0, 0, 0, 0) from xlk (by decide +kernel)) rfl rfl ?_
      refine xw_getr (q := 132) (show xlook 184 79 = some (79, .getfield 13, 3, 12, 1, 0, 220) from xlk (by decide +kernel)) (by decide) (xobf xob_12 (by decide) (by decide)) rfl (xPT_get (k := 1) (f := 1) hG1 xob_12 (by decide)) (by have := (xtg_12_1 _ xob_12.1 xob_12.2).1.1; omega) (n := 82) rfl ?_
      refine xw_bipush (n := 84) (show xlook 184 82 = some (82, .bipush 78, 2, 0, 0, 0, 0) from xlk (by decide +kernel)) rfl (by decide) ?_
      refine xw_iload_n (n := 85) (show xlook 184 84 = some (84, .iload_n 1, 1, 0, 0, 0, 0) from xlk (by decide +kernel)) rfl rfl ?_
      refine xw_iadd (n := 86) (show xlook 184 85 = some (85, .iadd, 1, 0, 0, 0, 0) from xlk (by decide +kernel)) rfl ?_
      obtain ⟨q1, t⟩ := t
      refine xw_iald (show xlook 184 86 = some (86, .iaload, 1, 0, 0, 0, 0) from xlk (by decide +kernel)) (xtg_12_1 _ xob_12.1 xob_12.2).1 (by rw [(xtg_12_1 _ xob_12.1 xob_12.2).2]; exact q1) (n := 87) rfl ?_
      exact xw_ireturn hG1 (show xlook 184 87 = some (87, .ireturn, 1, 0, 0, 0, 0) from xlk (by decide +kernel)) rfl (t hG1)
    · replace t := u3 e
      refine xw_tabIn (off := 71) (t := 88) (show xlook 184 17 = some (17, .tableswitch 103 0 5 #[39, 50, 61, 71, 81, 88], 39, 0, 0, 0, 0) from xlk (by decide +kernel)) q1 hq (by show (#[39, 50, 61, 71, 81, 88] : Array Int)[((x2 : Int) - (0)).toNat]? = some (71); rw [e]; rfl) rfl ?_
      refine xw_aload_n (n := 89) (show xlook 184 88 = some (88, .aload_n 0, 1, 0, 0, 0, 0) from xlk (by decide +kernel)) rfl rfl ?_
      refine xw_getr (q := 140) (show xlook 184 89 = some (89, .getfield 42, 3, 12, 18, 0, 229) from xlk (by decide +kernel)) (by decide) (xobf xob_12 (by decide) (by decide)) rfl (xPT_get (k := 18) (f := 9) hG1 xob_12 (by decide)) (by have := (xtg_12_18 _ xob_12.1 xob_12.2).1.1; omega) (n := 92) rfl ?_
      refine xw_bipush (n := 94) (show xlook 184 92 = some (92, .bipush 30, 2, 0, 0, 0, 0) from xlk (by decide +kernel)) rfl (by decide) ?_
      refine xw_iload_n (n := 95) (show xlook 184 94 = some (94, .iload_n 1, 1, 0, 0, 0, 0) from xlk (by decide +kernel)) rfl rfl ?_
      refine xw_iadd (n := 96) (show xlook 184 95 = some (95, .iadd, 1, 0, 0, 0, 0) from xlk (by decide +kernel)) rfl ?_
      obtain ⟨q1, t⟩ := t
      refine xw_iald (show xlook 184 96 = some (96, .iaload, 1, 0, 0, 0, 0) from xlk (by decide +kernel)) (xtg_12_18 _ xob_12.1 xob_12.2).1 (by rw [(xtg_12_18 _ xob_12.1 xob_12.2).2]; exact q1) (n := 97) rfl ?_
      exact xw_ireturn hG1 (show xlook 184 97 = some (97, .ireturn, 1, 0, 0, 0, 0) from xlk (by decide +kernel)) rfl (t hG1)
    · replace t := u4 e
      refine xw_tabIn (off := 81) (t := 98) (show xlook 184 17 = some (17, .tableswitch 103 0 5 #[39, 50, 61, 71, 81, 88], 39, 0, 0, 0, 0) from xlk (by decide +kernel)) q1 hq (by show (#[39, 50, 61, 71, 81, 88] : Array Int)[((x2 : Int) - (0)).toNat]? = some (81); rw [e]; rfl) rfl ?_
      refine xw_aload_n (n := 99) (show xlook 184 98 = some (98, .aload_n 0, 1, 0, 0, 0, 0) from xlk (by decide +kernel)) rfl rfl ?_
      refine xw_getr (q := 136) (show xlook 184 99 = some (99, .getfield 30, 3, 12, 13, 0, 225) from xlk (by decide +kernel)) (by decide) (xobf xob_12 (by decide) (by decide)) rfl (xPT_get (k := 13) (f := 5) hG1 xob_12 (by decide)) (by have := (xtg_12_13 _ xob_12.1 xob_12.2).1.1; omega) (n := 102) rfl ?_
      refine xw_iload_n (n := 103) (show xlook 184 102 = some (102, .iload_n 1, 1, 0, 0, 0, 0) from xlk (by decide +kernel)) rfl rfl ?_
      obtain ⟨q1, t⟩ := t
      refine xw_iald (show xlook 184 103 = some (103, .iaload, 1, 0, 0, 0, 0) from xlk (by decide +kernel)) (xtg_12_13 _ xob_12.1 xob_12.2).1 (by rw [(xtg_12_13 _ xob_12.1 xob_12.2).2]; exact q1) (n := 104) rfl ?_
      exact xw_ireturn hG1 (show xlook 184 104 = some (104, .ireturn, 1, 0, 0, 0, 0) from xlk (by decide +kernel)) rfl (t hG1)
    · replace t := u5 e
      refine xw_tabIn (off := 88) (t := 105) (show xlook 184 17 = some (17, .tableswitch 103 0 5 #[39, 50, 61, 71, 81, 88], 39, 0, 0, 0, 0) from xlk (by decide +kernel)) q1 hq (by show (#[39, 50, 61, 71, 81, 88] : Array Int)[((x2 : Int) - (0)).toNat]? = some (88); rw [e]; rfl) rfl ?_
      refine xw_aload_n (n := 106) (show xlook 184 105 = some (105, .aload_n 0, 1, 0, 0, 0, 0) from xlk (by decide +kernel)) rfl rfl ?_
      refine xw_iconst (n := 107) (show xlook 184 106 = some (106, .iconst 0, 1, 0, 0, 0, 0) from xlk (by decide +kernel)) rfl ?_
      refine xw_iload_n (n := 108) (show xlook 184 107 = some (107, .iload_n 1, 1, 0, 0, 0, 0) from xlk (by decide +kernel)) rfl rfl ?_
      obtain ⟨j3, hj3, rr3, G3, hm3, hG3, t⟩ := t
      obtain ⟨y3, rfl, t⟩ := t
      refine xw_callv (dk := j3) (o := 131) (as := [vi (0), vi (x1)]) (show xlook 184 108 = some (108, .invokevirtual 228, 3, 172, 3, 0, 184) from xlk (by decide +kernel)) (by decide) hj3 ⟨Nat.le_of_ble_eq_true rfl, Nat.le_of_ble_eq_true rfl, Nat.le_of_ble_eq_true rfl⟩ ⟨xob_12.1, xob_12.2, by decide⟩ rfl hm3 (n := 111) rfl ?_
      show xW X d 184 111 [.ref (131), vi (x1), vi (x2)] [vi (y3)] G3 (xqi Q)
      obtain ⟨q0, t⟩ := t
      refine xw_if_eq (n := 114) (m := 118) (show xlook 184 111 = some (111, .ifCond .eq 7, 3, 118, 0, 0, 0) from xlk (by decide +kernel)) rfl rfl q0 ⟨fun c => ?_, fun c => ?_⟩
      · replace t := t.1 c
        refine xw_iconst (n := 119) (show xlook 184 118 = some (118, .iconst 0, 1, 0, 0, 0, 0) from xlk (by decide +kernel)) rfl ?_
        exact xw_ireturn hG3 (show xlook 184 119 = some (119, .ireturn, 1, 0, 0, 0, 0) from xlk (by decide +kernel)) rfl (t hG3)
      · replace t := t.2 c
        refine xw_iconst (n := 115) (show xlook 184 114 = some (114, .iconst 1, 1, 0, 0, 0, 0) from xlk (by decide +kernel)) rfl ?_
        refine xw_goto (m := 119) (show xlook 184 115 = some (115, .goto 4, 3, 119, 0, 0, 0) from xlk (by decide +kernel)) rfl ?_
        exact xw_ireturn hG3 (show xlook 184 119 = some (119, .ireturn, 1, 0, 0, 0, 0) from xlk (by decide +kernel)) rfl (t hG3)
  · replace t := t.2 c
    refine xw_bipush (n := 15) (show xlook 184 13 = some (13, .bipush (-2), 2, 0, 0, 0, 0) from xlk (by decide +kernel)) rfl (by decide) ?_
    exact xw_ireturn hG1 (show xlook 184 15 = some (15, .ireturn, 1, 0, 0, 0, 0) from xlk (by decide +kernel)) rfl (t hG1)
theorem m184 {X : List Int32} {d : Nat} {F : XF} {Q : Int → XF → Prop} {x1 : Int} {x2 : Int} (hPT : xPT F)  (t : ∃ (j1 : Nat), j1 < d ∧ xMI X j1 155 [.ref (131), vi (x1)] (xup (F) (131) 0 (0)) (fun (y1 : Int) (G1 : XF) => (inR (y1) ∧ (((¬ (y1) = (0)) → (inR (x2) ∧ ((x2 < 0 ∨ 5 < x2) → (xPT (G1) → Q ((-2)) (G1))) ∧ (((x2) = 0) → ((0 ≤ (x1) ∧ (x1) < 264) ∧ (xPT (G1) → Q (((G1) (140) (x1)) + (100000)) (G1)))) ∧ (((x2) = 1) → (∃ (j2 : Nat), j2 < d ∧ xMI X j2 171 [.ref (131), vi (0), vi (x1)] (G1) (fun (y2 : Int) (G2 : XF) => (xPT (G2) → Q ((y2) + (100000)) (G2))))) ∧ (((x2) = 2) → ((0 ≤ ((78) + (x1)) ∧ ((78) + (x1)) < 163) ∧ (xPT (G1) → Q ((G1) (132) ((78) + (x1))) (G1)))) ∧ (((x2) = 3) → ((0 ≤ ((30) + (x1)) ∧ ((30) + (x1)) < 264) ∧ (xPT (G1) → Q ((G1) (140) ((30) + (x1))) (G1)))) ∧ (((x2) = 4) → ((0 ≤ (x1) ∧ (x1) < 30) ∧ (xPT (G1) → Q ((G1) (136) (x1)) (G1)))) ∧ (((x2) = 5) → (∃ (j3 : Nat), j3 < d ∧ xMI X j3 172 [.ref (131), vi (0), vi (x1)] (G1) (fun (y3 : Int) (G3 : XF) => (inR (y3) ∧ ((((y3) = (0)) → (xPT (G3) → Q (0) (G3))) ∧ (¬ ((y3) = (0)) → (xPT (G3) → Q (1) (G3)))))))))) ∧ (¬ (¬ (y1) = (0)) → (xPT (G1) → Q ((-2)) (G1))))))) : xMI X d 184 [.ref (131), vi (x1), vi (x2)] F Q := by
  show xW X d 184 0 [.ref (131), vi (x1), vi (x2)] [] F (xqi Q)
  exact s184_0 hPT  t

theorem s185_0 {X : List Int32} {d : Nat} {F : XF} {Q : Int → XF → Prop} {x1 : Int} (hPT : xPT F)  (t : (inR (x1)) ∧ ((inR (((F) (132) 4) - (1))) ∧ (∃ (j1 : Nat), j1 < d ∧ xMI X j1 132 [vl (x1), vl (0), vl (((F) (132) 4) - (1))] (F) (fun (y1 : Int) (G1 : XF) => (((y1 : Int) = 0 ∨ (y1 : Int) = 1) ∧ (xPT (G1) → Q (y1) (G1))))))) : xW X d 185 0 [.ref (131), vi (x1)] [] F (xqi Q) := by
  refine xw_iload_n (n := 1) (show xlook 185 0 = some (0, .iload_n 1, 1, 0, 0, 0, 0) from xlk (by decide +kernel)) rfl rfl ?_
  obtain ⟨q1, t⟩ := t
  refine xw_i2l (n := 2) (show xlook 185 1 = some (1, .i2l, 1, 0, 0, 0, 0) from xlk (by decide +kernel)) rfl q1 ?_
  refine xw_lconst (n := 3) (show xlook 185 2 = some (2, .lconst 0, 1, 0, 0, 0, 0) from xlk (by decide +kernel)) rfl (k := 0) (by decide) ?_
  refine xw_aload_n (n := 4) (show xlook 185 3 = some (3, .aload_n 0, 1, 0, 0, 0, 0) from xlk (by decide +kernel)) rfl rfl ?_
  refine xw_getr (q := 132) (show xlook 185 4 = some (4, .getfield 13, 3, 12, 1, 0, 220) from xlk (by decide +kernel)) (by decide) (xobf xob_12 (by decide) (by decide)) rfl (xPT_get (k := 1) (f := 1) hPT xob_12 (by decide)) (by have := (xtg_12_1 _ xob_12.1 xob_12.2).1.1; omega) (n := 7) rfl ?_
  refine xw_iconst (n := 8) (show xlook 185 7 = some (7, .iconst 4, 1, 0, 0, 0, 0) from xlk (by decide +kernel)) rfl ?_
  refine xw_iald (show xlook 185 8 = some (8, .iaload, 1, 0, 0, 0, 0) from xlk (by decide +kernel)) (xtg_12_1 _ xob_12.1 xob_12.2).1 (by rw [(xtg_12_1 _ xob_12.1 xob_12.2).2]; decide) (n := 9) rfl ?_
  refine xw_iconst (n := 10) (show xlook 185 9 = some (9, .iconst 1, 1, 0, 0, 0, 0) from xlk (by decide +kernel)) rfl ?_
  refine xw_isub (n := 11) (show xlook 185 10 = some (10, .isub, 1, 0, 0, 0, 0) from xlk (by decide +kernel)) rfl ?_
  obtain ⟨q1, t⟩ := t
  refine xw_i2l (n := 12) (show xlook 185 11 = some (11, .i2l, 1, 0, 0, 0, 0) from xlk (by decide +kernel)) rfl q1 ?_
  obtain ⟨j1, hj1, rr1, G1, hm1, hG1, t⟩ := t
  obtain ⟨y1, rfl, t⟩ := t
  refine xw_calls (dk := j1) (as := [vl (x1), vl (0), vl (((F) (132) 4) - (1))]) (show xlook 185 12 = some (12, .invokestatic 83, 3, 132, 3, 0, 151) from xlk (by decide +kernel)) (by decide) hj1 ⟨Nat.le_of_ble_eq_true rfl, Nat.le_of_ble_eq_true rfl, Nat.le_of_ble_eq_true rfl, by decide⟩ rfl hm1 (n := 15) rfl ?_
  show xW X d 185 15 [.ref (131), vi (x1)] [vi (y1)] G1 (xqi Q)
  obtain ⟨q1, t⟩ := t
  exact xw_zreturn hG1 (show xlook 185 15 = some (15, .ireturn, 1, 0, 0, 0, 0) from xlk (by decide +kernel)) rfl q1 (t hG1)
theorem m185 {X : List Int32} {d : Nat} {F : XF} {Q : Int → XF → Prop} {x1 : Int} (hPT : xPT F)  (t : (inR (x1)) ∧ ((inR (((F) (132) 4) - (1))) ∧ (∃ (j1 : Nat), j1 < d ∧ xMI X j1 132 [vl (x1), vl (0), vl (((F) (132) 4) - (1))] (F) (fun (y1 : Int) (G1 : XF) => (((y1 : Int) = 0 ∨ (y1 : Int) = 1) ∧ (xPT (G1) → Q (y1) (G1))))))) : xMI X d 185 [.ref (131), vi (x1)] F Q := by
  show xW X d 185 0 [.ref (131), vi (x1)] [] F (xqi Q)
  exact s185_0 hPT  t

theorem s186_0 {X : List Int32} {d : Nat} {F : XF} {Q : Int → XF → Prop} {x1 : Int} {x2 : Int} {w3 : Value} (hPT : xPT F)  (t : ∃ (j1 : Nat), j1 < d ∧ xMI X j1 185 [.ref (131), vi (x1)] (xup (F) (131) 0 (0)) (fun (y1 : Int) (G1 : XF) => (inR (y1) ∧ (((¬ (y1) = (0)) → (inR (x2) ∧ ((x2 < 0 ∨ 7 < x2) → (xPT (G1) → Q ((-2)) (G1))) ∧ (((x2) = 0) → ((0 ≤ (((60) + ((7) * (x1))) + (x2)) ∧ (((60) + ((7) * (x1))) + (x2)) < 264) ∧ (xPT (G1) → Q ((G1) (140) (((60) + ((7) * (x1))) + (x2))) (G1)))) ∧ (((x2) = 1) → ((0 ≤ (((60) + ((7) * (x1))) + (x2)) ∧ (((60) + ((7) * (x1))) + (x2)) < 264) ∧ (xPT (G1) → Q ((G1) (140) (((60) + ((7) * (x1))) + (x2))) (G1)))) ∧ (((x2) = 2) → ((0 ≤ (((60) + ((7) * (x1))) + (x2)) ∧ (((60) + ((7) * (x1))) + (x2)) < 264) ∧ (xPT (G1) → Q ((G1) (140) (((60) + ((7) * (x1))) + (x2))) (G1)))) ∧ (((x2) = 3) → ((0 ≤ (((60) + ((7) * (x1))) + (x2)) ∧ (((60) + ((7) * (x1))) + (x2)) < 264) ∧ (xPT (G1) → Q ((G1) (140) (((60) + ((7) * (x1))) + (x2))) (G1)))) ∧ (((x2) = 4) → (∃ (j2 : Nat), j2 < d ∧ xMI X j2 173 [.ref (131), vi (0), vi (x1)] (G1) (fun (y2 : Int) (G2 : XF) => (xPT (G2) → Q (y2) (G2))))) ∧ (((x2) = 5) → ((0 ≤ ((((60) + ((7) * (x1))) + (x2)) - (1)) ∧ ((((60) + ((7) * (x1))) + (x2)) - (1)) < 264) ∧ (xPT (G1) → Q ((G1) (140) ((((60) + ((7) * (x1))) + (x2)) - (1))) (G1)))) ∧ (((x2) = 6) → ((0 ≤ ((((60) + ((7) * (x1))) + (x2)) - (1)) ∧ ((((60) + ((7) * (x1))) + (x2)) - (1)) < 264) ∧ (xPT (G1) → Q ((G1) (140) ((((60) + ((7) * (x1))) + (x2)) - (1))) (G1)))) ∧ (((x2) = 7) → ((0 ≤ ((((60) + ((7) * (x1))) + (x2)) - (1)) ∧ ((((60) + ((7) * (x1))) + (x2)) - (1)) < 264) ∧ (xPT (G1) → Q ((G1) (140) ((((60) + ((7) * (x1))) + (x2)) - (1))) (G1)))))) ∧ (¬ (¬ (y1) = (0)) → (xPT (G1) → Q ((-2)) (G1))))))) : xW X d 186 0 [.ref (131), vi (x1), vi (x2), w3] [] F (xqi Q) := by
  refine xw_aload_n (n := 1) (show xlook 186 0 = some (0, .aload_n 0, 1, 0, 0, 0, 0) from xlk (by decide +kernel)) rfl rfl ?_
  refine xw_iconst (n := 2) (show xlook 186 1 = some (1, .iconst 0, 1, 0, 0, 0, 0) from xlk (by decide +kernel)) rfl ?_
  refine xw_puti (show xlook 186 2 = some (2, .putfield 1, 3, 12, 0, 0, 235) from xlk (by decide +kernel)) (xobf xob_12 (by decide) (by decide)) rfl (n := 5) rfl ?_
  refine xw_aload_n (n := 6) (show xlook 186 5 = some (5, .aload_n 0, 1, 0, 0, 0, 0) from xlk (by decide +kernel)) rfl rfl ?_
  refine xw_iload_n (n := 7) (show xlook 186 6 = some (6, .iload_n 1, 1, 0, 0, 0, 0) from xlk (by decide +kernel)) rfl rfl ?_
  obtain ⟨j1, hj1, rr1, G1, hm1, hG1, t⟩ := t
  obtain ⟨y1, rfl, t⟩ := t
  refine xw_callv (dk := j1) (o := 131) (as := [vi (x1)]) (show xlook 186 7 = some (7, .invokevirtual 257, 3, 185, 2, 0, 192) from xlk (by decide +kernel)) (by decide) hj1 ⟨Nat.le_of_ble_eq_true rfl, Nat.le_of_ble_eq_true rfl, Nat.le_of_ble_eq_true rfl⟩ ⟨xob_12.1, xob_12.2, by decide⟩ rfl hm1 (n := 10) rfl ?_
  show xW X d 186 10 [.ref (131), vi (x1), vi (x2), w3] [vi (y1)] G1 (xqi Q)
  obtain ⟨q0, t⟩ := t
  refine xw_if_ne (n := 13) (m := 16) (show xlook 186 10 = some (10, .ifCond .ne 6, 3, 16, 0, 0, 0) from xlk (by decide +kernel)) rfl rfl q0 ⟨fun c => ?_, fun c => ?_⟩
  · replace t := t.1 c
    refine xw_bipush (n := 18) (show xlook 186 16 = some (16, .bipush 60, 2, 0, 0, 0, 0) from xlk (by decide +kernel)) rfl (by decide) ?_
    refine xw_bipush (n := 20) (show xlook 186 18 = some (18, .bipush 7, 2, 0, 0, 0, 0) from xlk (by decide +kernel)) rfl (by decide) ?_
    refine xw_iload_n (n := 21) (show xlook 186 20 = some (20, .iload_n 1, 1, 0, 0, 0, 0) from xlk (by decide +kernel)) rfl rfl ?_
    refine xw_imul (n := 22) (show xlook 186 21 = some (21, .imul, 1, 0, 0, 0, 0) from xlk (by decide +kernel)) rfl ?_
    refine xw_iadd (n := 23) (show xlook 186 22 = some (22, .iadd, 1, 0, 0, 0, 0) from xlk (by decide +kernel)) rfl ?_
    refine xw_istore_n (n := 24) (show xlook 186 23 = some (23, .istore_n 3, 1, 0, 0, 0, 0) from xlk (by decide +kernel)) rfl (ls' := [.ref (131), vi (x1), vi (x2), vi ((60) + ((7) * (x1)))]) (Nat.le_of_ble_eq_true rfl) rfl ?_
    refine xw_iload_n (n := 25) (show xlook 186 24 = some (24, .iload_n 2, 1, 0, 0, 0, 0) from xlk (by decide +kernel)) rfl rfl ?_
    obtain ⟨q1, td, u0, u1, u2, u3, u4, u5, u6, u7⟩ := t
    by_cases hq : (x2 < 0 ∨ 7 < x2)
    · replace t := td hq
      refine xw_tabOut (t := 99) (show xlook 186 25 = some (25, .tableswitch 74 0 7 #[47, 47, 47, 47, 56, 63, 63, 63], 47, 0, 0, 0, 0) from xlk (by decide +kernel)) q1 hq rfl ?_
      refine xw_bipush (n := 101) (show xlook 186 99 = some (99, .bipush (-2), 2, 0, 0, 0, 0) from xlk (by decide +kernel)) rfl (by decide) ?_
      exact xw_ireturn hG1 (show xlook 186 101 = some (101, .ireturn, 1, 0, 0, 0, 0) from xlk (by decide +kernel)) rfl (t hG1)
    rcases (show (x2) = 0 ∨ (x2) = 1 ∨ (x2) = 2 ∨ (x2) = 3 ∨ (x2) = 4 ∨ (x2) = 5 ∨ (x2) = 6 ∨ (x2) = 7 by omega) with e | e | e | e | e | e | e | e
    · replace t := u0 e
      refine xw_tabIn (off := 47) (t := 72) (show xlook 186 25 = some (25, .tableswitch 74 0 7 #[47, 47, 47, 47, 56, 63, 63, 63], 47, 0, 0, 0, 0) from xlk (by decide +kernel)) q1 hq (by show (#[47, 47, 47, 47, 56, 63, 63, 63] : Array Int)[((x2 : Int) - (0)).toNat]? = some (47); rw [e]; rfl) rfl ?_
      refine xw_aload_n (n := 73) (show xlook 186 72 = some (72, .aload_n 0, 1, 0, 0, 0, 0) from xlk (by decide +kernel)) rfl rfl ?_
      refine xw_getr (q := 140) (show xlook 186 73 = some (73, .getfield 42, 3, 12, 18, 0, 229) from xlk (by decide +kernel)) (by decide) (xobf xob_12 (by decide) (by decide)) rfl (xPT_get (k := 18) (f := 9) hG1 xob_12 (by decide)) (by have := (xtg_12_18 _ xob_12.1 xob_12.2).1.1; omega) (n := 76) rfl ?_
      refine xw_iload_n (n := 77) (show xlook 186 76 = some (76, .iload_n 3, 1, 0, 0, 0, 0) from xlk (by decide +kernel)) rfl rfl ?_
      refine xw_iload_n (n := 78) (show xlook 186 77 = some (77, .iload_n 2, 1, 0, 0, 0, 0) from xlk (by decide +kernel)) rfl rfl ?_
      refine xw_iadd (n := 79) (show xlook 186 78 = some (78, .iadd, 1, 0, 0, 0, 0) from xlk (by decide +kernel)) rfl ?_
      obtain ⟨q1, t⟩ := t
      refine xw_iald (show xlook 186 79 = some (79, .iaload, 1, 0, 0, 0, 0) from xlk (by decide +kernel)) (xtg_12_18 _ xob_12.1 xob_12.2).1 (by rw [(xtg_12_18 _ xob_12.1 xob_12.2).2]; exact q1) (n := 80) rfl ?_
      exact xw_ireturn hG1 (show xlook 186 80 = some (80, .ireturn, 1, 0, 0, 0, 0) from xlk (by decide +kernel)) rfl (t hG1)
    · replace t := u1 e
      refine xw_tabIn (off := 47) (t := 72) (show xlook 186 25 = some (25, .tableswitch 74 0 7 #[47, 47, 47, 47, 56, 63, 63, 63], 47, 0, 0, 0, 0) from xlk (by decide +kernel)) q1 hq (by show (#[47, 47, 47, 47, 56, 63, 63, 63] : Array Int)[((x2 : Int) - (0)).toNat]? = some (47); rw [e]; rfl) rfl ?_
      refine xw_aload_n (n := 73) (show xlook 186 72 = some (72, .aload_n 0, 1, 0, 0, 0, 0) from xlk (by decide +kernel)) rfl rfl ?_
      refine xw_getr (q := 140) (show xlook 186 73 = some (73, .getfield 42, 3, 12, 18, 0, 229) from xlk (by decide +kernel)) (by decide) (xobf xob_12 (by decide) (by decide)) rfl (xPT_get (k := 18) (f := 9) hG1 xob_12 (by decide)) (by have := (xtg_12_18 _ xob_12.1 xob_12.2).1.1; omega) (n := 76) rfl ?_
      refine xw_iload_n (n := 77) (show xlook 186 76 = some (76, .iload_n 3, 1, 0, 0, 0, 0) from xlk (by decide +kernel)) rfl rfl ?_
      refine xw_iload_n (n := 78) (show xlook 186 77 = some (77, .iload_n 2, 1, 0, 0, 0, 0) from xlk (by decide +kernel)) rfl rfl ?_
      refine xw_iadd (n := 79) (show xlook 186 78 = some (78, .iadd, 1, 0, 0, 0, 0) from xlk (by decide +kernel)) rfl ?_
      obtain ⟨q1, t⟩ := t
      refine xw_iald (show xlook 186 79 = some (79, .iaload, 1, 0, 0, 0, 0) from xlk (by decide +kernel)) (xtg_12_18 _ xob_12.1 xob_12.2).1 (by rw [(xtg_12_18 _ xob_12.1 xob_12.2).2]; exact q1) (n := 80) rfl ?_
      exact xw_ireturn hG1 (show xlook 186 80 = some (80, .ireturn, 1, 0, 0, 0, 0) from xlk (by decide +kernel)) rfl (t hG1)
    · replace t := u2 e
      refine xw_tabIn (off := 47) (t := 72) (show xlook 186 25 = some (25, .tableswitch 74 0 7 #[47, 47, 47, 47, 56, 63, 63, 63], 47, 0, 0, 0, 0) from xlk (by decide +kernel)) q1 hq (by show (#[47, 47, 47, 47, 56, 63, 63, 63] : Array Int)[((x2 : Int) - (0)).toNat]? = some (47); rw [e]; rfl) rfl ?_
      refine xw_aload_n (n := 73) (show xlook 186 72 = some (72, .aload_n 0, 1, 0, 0, 0, 0) from xlk (by decide +kernel)) rfl rfl ?_
      refine xw_getr (q := 140) (show xlook 186 73 = some (73, .getfield 42, 3, 12, 18, 0, 229) from xlk (by decide +kernel)) (by decide) (xobf xob_12 (by decide) (by decide)) rfl (xPT_get (k := 18) (f := 9) hG1 xob_12 (by decide)) (by have := (xtg_12_18 _ xob_12.1 xob_12.2).1.1; omega) (n := 76) rfl ?_
      refine xw_iload_n (n := 77) (show xlook 186 76 = some (76, .iload_n 3, 1, 0, 0, 0, 0) from xlk (by decide +kernel)) rfl rfl ?_
      refine xw_iload_n (n := 78) (show xlook 186 77 = some (77, .iload_n 2, 1, 0, 0, 0, 0) from xlk (by decide +kernel)) rfl rfl ?_
      refine xw_iadd (n := 79) (show xlook 186 78 = some (78, .iadd, 1, 0, 0, 0, 0) from xlk (by decide +kernel)) rfl ?_
      obtain ⟨q1, t⟩ := t
      refine xw_iald (show xlook 186 79 = some (79, .iaload, 1, 0, 0, 0, 0) from xlk (by decide +kernel)) (xtg_12_18 _ xob_12.1 xob_12.2).1 (by rw [(xtg_12_18 _ xob_12.1 xob_12.2).2]; exact q1) (n := 80) rfl ?_
      exact xw_ireturn hG1 (show xlook 186 80 = some (80, .ireturn, 1, 0, 0, 0, 0) from xlk (by decide +kernel)) rfl (t hG1)
    · replace t := u3 e
      refine xw_tabIn (off := 47) (t := 72) (show xlook 186 25 = some (25, .tableswitch 74 0 7 #[47, 47, 47, 47, 56, 63, 63, 63], 47, 0, 0, 0, 0) from xlk (by decide +kernel)) q1 hq (by show (#[47, 47, 47, 47, 56, 63, 63, 63] : Array Int)[((x2 : Int) - (0)).toNat]? = some (47); rw [e]; rfl) rfl ?_
      refine xw_aload_n (n := 73) (show xlook 186 72 = some (72, .aload_n 0, 1, 0, 0, 0, 0) from xlk (by decide +kernel)) rfl rfl ?_
      refine xw_getr (q := 140) (show xlook 186 73 = some (73, .getfield 42, 3, 12, 18, 0, 229) from xlk (by decide +kernel)) (by decide) (xobf xob_12 (by decide) (by decide)) rfl (xPT_get (k := 18) (f := 9) hG1 xob_12 (by decide)) (by have := (xtg_12_18 _ xob_12.1 xob_12.2).1.1; omega) (n := 76) rfl ?_
      refine xw_iload_n (n := 77) (show xlook 186 76 = some (76, .iload_n 3, 1, 0, 0, 0, 0) from xlk (by decide +kernel)) rfl rfl ?_
      refine xw_iload_n (n := 78) (show xlook 186 77 = some (77, .iload_n 2, 1, 0, 0, 0, 0) from xlk (by decide +kernel)) rfl rfl ?_
      refine xw_iadd (n := 79) (show xlook 186 78 = some (78, .iadd, 1, 0, 0, 0, 0) from xlk (by decide +kernel)) rfl ?_
      obtain ⟨q1, t⟩ := t
      refine xw_iald (show xlook 186 79 = some (79, .iaload, 1, 0, 0, 0, 0) from xlk (by decide +kernel)) (xtg_12_18 _ xob_12.1 xob_12.2).1 (by rw [(xtg_12_18 _ xob_12.1 xob_12.2).2]; exact q1) (n := 80) rfl ?_
      exact xw_ireturn hG1 (show xlook 186 80 = some (80, .ireturn, 1, 0, 0, 0, 0) from xlk (by decide +kernel)) rfl (t hG1)
    · replace t := u4 e
      refine xw_tabIn (off := 56) (t := 81) (show xlook 186 25 = some (25, .tableswitch 74 0 7 #[47, 47, 47, 47, 56, 63, 63, 63], 47, 0, 0, 0, 0) from xlk (by decide +kernel)) q1 hq (by show (#[47, 47, 47, 47, 56, 63, 63, 63] : Array Int)[((x2 : Int) - (0)).toNat]? = some (56); rw [e]; rfl) rfl ?_
      refine xw_aload_n (n := 82) (show xlook 186 81 = some (81, .aload_n 0, 1, 0, 0, 0, 0) from xlk (by decide +kernel)) rfl rfl ?_
      refine xw_iconst (n := 83) (show xlook 186 82 = some (82, .iconst 0, 1, 0, 0, 0, 0) from xlk (by decide +kernel)) rfl ?_
      refine xw_iload_n (n := 84) (show xlook 186 83 = some (83, .iload_n 1, 1, 0, 0, 0, 0) from xlk (by decide +kernel)) rfl rfl ?_
      obtain ⟨j2, hj2, rr2, G2, hm2, hG2, t⟩ := t
      obtain ⟨y2, rfl, t⟩ := t
      refine xw_callv (dk := j2) (o := 131) (as := [vi (0), vi (x1)]) (show xlook 186 84 = some (84, .invokevirtual 212, 3, 173, 3, 0, 181) from xlk (by decide +kernel)) (by decide) hj2 ⟨Nat.le_of_ble_eq_true rfl, Nat.le_of_ble_eq_true rfl, Nat.le_of_ble_eq_true rfl⟩ ⟨xob_12.1, xob_12.2, by decide⟩ rfl hm2 (n := 87) rfl ?_
      show xW X d 186 87 [.ref (131), vi (x1), vi (x2), vi ((60) + ((7) * (x1)))] [vi (y2)] G2 (xqi Q)
      exact xw_ireturn hG2 (show xlook 186 87 = some (87, .ireturn, 1, 0, 0, 0, 0) from xlk (by decide +kernel)) rfl (t hG2)
    · replace t := u5 e
      refine xw_tabIn (off := 63) (t := 88) (show xlook 186 25 = some (25, .tableswitch 74 0 7 #[47, 47, 47, 47, 56, 63, 63, 63], 47, 0, 0, 0, 0) from xlk (by decide +kernel)) q1 hq (by show (#[47, 47, 47, 47, 56, 63, 63, 63] : Array Int)[((x2 : Int) - (0)).toNat]? = some (63); rw [e]; rfl) rfl ?_
      refine xw_aload_n (n := 89) (show xlook 186 88 = some (88, .aload_n 0, 1, 0, 0, 0, 0) from xlk (by decide +kernel)) rfl rfl ?_
      refine xw_getr (q := 140) (show xlook 186 89 = some (89, .getfield 42, 3, 12, 18, 0, 229) from xlk (by decide +kernel)) (by decide) (xobf xob_12 (by decide) (by decide)) rfl (xPT_get (k := 18) (f := 9) hG1 xob_12 (by decide)) (by have := (xtg_12_18 _ xob_12.1 xob_12.2).1.1; omega) (n := 92) rfl ?_
      refine xw_iload_n (n := 93) (show xlook 186 92 = some (92, .iload_n 3, 1, 0, 0, 0, 0) from xlk (by decide +kernel)) rfl rfl ?_
      refine xw_iload_n (n := 94) (show xlook 186 93 = some (93, .iload_n 2, 1, 0, 0, 0, 0) from xlk (by decide +kernel)) rfl rfl ?_
      refine xw_iadd (n := 95) (show xlook 186 94 = some (94, .iadd, 1, 0, 0, 0, 0) from xlk (by decide +kernel)) rfl ?_
      refine xw_iconst (n := 96) (show xlook 186 95 = some (95, .iconst 1, 1, 0, 0, 0, 0) from xlk (by decide +kernel)) rfl ?_
      refine xw_isub (n := 97) (show xlook 186 96 = some (96, .isub, 1, 0, 0, 0, 0) from xlk (by decide +kernel)) rfl ?_
      obtain ⟨q1, t⟩ := t
      refine xw_iald (show xlook 186 97 = some (97, .iaload, 1, 0, 0, 0, 0) from xlk (by decide +kernel)) (xtg_12_18 _ xob_12.1 xob_12.2).1 (by rw [(xtg_12_18 _ xob_12.1 xob_12.2).2]; exact q1) (n := 98) rfl ?_
      exact xw_ireturn hG1 (show xlook 186 98 = some (98, .ireturn, 1, 0, 0, 0, 0) from xlk (by decide +kernel)) rfl (t hG1)
    · replace t := u6 e
      refine xw_tabIn (off := 63) (t := 88) (show xlook 186 25 = some (25, .tableswitch 74 0 7 #[47, 47, 47, 47, 56, 63, 63, 63], 47, 0, 0, 0, 0) from xlk (by decide +kernel)) q1 hq (by show (#[47, 47, 47, 47, 56, 63, 63, 63] : Array Int)[((x2 : Int) - (0)).toNat]? = some (63); rw [e]; rfl) rfl ?_
      refine xw_aload_n (n := 89) (show xlook 186 88 = some (88, .aload_n 0, 1, 0, 0, 0, 0) from xlk (by decide +kernel)) rfl rfl ?_
      refine xw_getr (q := 140) (show xlook 186 89 = some (89, .getfield 42, 3, 12, 18, 0, 229) from xlk (by decide +kernel)) (by decide) (xobf xob_12 (by decide) (by decide)) rfl (xPT_get (k := 18) (f := 9) hG1 xob_12 (by decide)) (by have := (xtg_12_18 _ xob_12.1 xob_12.2).1.1; omega) (n := 92) rfl ?_
      refine xw_iload_n (n := 93) (show xlook 186 92 = some (92, .iload_n 3, 1, 0, 0, 0, 0) from xlk (by decide +kernel)) rfl rfl ?_
      refine xw_iload_n (n := 94) (show xlook 186 93 = some (93, .iload_n 2, 1, 0, 0, 0, 0) from xlk (by decide +kernel)) rfl rfl ?_
      refine xw_iadd (n := 95) (show xlook 186 94 = some (94, .iadd, 1, 0, 0, 0, 0) from xlk (by decide +kernel)) rfl ?_
      refine xw_iconst (n := 96) (show xlook 186 95 = some (95, .iconst 1, 1, 0, 0, 0, 0) from xlk (by decide +kernel)) rfl ?_
      refine xw_isub (n := 97) (show xlook 186 96 = some (96, .isub, 1, 0, 0, 0, 0) from xlk (by decide +kernel)) rfl ?_
      obtain ⟨q1, t⟩ := t
      refine xw_iald (show xlook 186 97 = some (97, .iaload, 1, 0, 0, 0, 0) from xlk (by decide +kernel)) (xtg_12_18 _ xob_12.1 xob_12.2).1 (by rw [(xtg_12_18 _ xob_12.1 xob_12.2).2]; exact q1) (n := 98) rfl ?_
      exact xw_ireturn hG1 (show xlook 186 98 = some (98, .ireturn, 1, 0, 0, 0, 0) from xlk (by decide +kernel)) rfl (t hG1)
    · replace t := u7 e
      refine xw_tabIn (off := 63) (t := 88) (show xlook 186 25 = some (25, .tableswitch 74 0 7 #[47, 47, 47, 47, 56, 63, 63, 63], 47, 0, 0, 0, 0) from xlk (by decide +kernel)) q1 hq (by show (#[47, 47, 47, 47, 56, 63, 63, 63] : Array Int)[((x2 : Int) - (0)).toNat]? = some (63); rw [e]; rfl) rfl ?_
      refine xw_aload_n (n := 89) (show xlook 186 88 = some (88, .aload_n 0, 1, 0, 0, 0, 0) from xlk (by decide +kernel)) rfl rfl ?_
      refine xw_getr (q := 140) (show xlook 186 89 = some (89, .getfield 42, 3, 12, 18, 0, 229) from xlk (by decide +kernel)) (by decide) (xobf xob_12 (by decide) (by decide)) rfl (xPT_get (k := 18) (f := 9) hG1 xob_12 (by decide)) (by have := (xtg_12_18 _ xob_12.1 xob_12.2).1.1; omega) (n := 92) rfl ?_
      refine xw_iload_n (n := 93) (show xlook 186 92 = some (92, .iload_n 3, 1, 0, 0, 0, 0) from xlk (by decide +kernel)) rfl rfl ?_
      refine xw_iload_n (n := 94) (show xlook 186 93 = some (93, .iload_n 2, 1, 0, 0, 0, 0) from xlk (by decide +kernel)) rfl rfl ?_
      refine xw_iadd (n := 95) (show xlook 186 94 = some (94, .iadd, 1, 0, 0, 0, 0) from xlk (by decide +kernel)) rfl ?_
      refine xw_iconst (n := 96) (show xlook 186 95 = some (95, .iconst 1, 1, 0, 0, 0, 0) from xlk (by decide +kernel)) rfl ?_
      refine xw_isub (n := 97) (show xlook 186 96 = some (96, .isub, 1, 0, 0, 0, 0) from xlk (by decide +kernel)) rfl ?_
      obtain ⟨q1, t⟩ := t
      refine xw_iald (show xlook 186 97 = some (97, .iaload, 1, 0, 0, 0, 0) from xlk (by decide +kernel)) (xtg_12_18 _ xob_12.1 xob_12.2).1 (by rw [(xtg_12_18 _ xob_12.1 xob_12.2).2]; exact q1) (n := 98) rfl ?_
      exact xw_ireturn hG1 (show xlook 186 98 = some (98, .ireturn, 1, 0, 0, 0, 0) from xlk (by decide +kernel)) rfl (t hG1)
  · replace t := t.2 c
    refine xw_bipush (n := 15) (show xlook 186 13 = some (13, .bipush (-2), 2, 0, 0, 0, 0) from xlk (by decide +kernel)) rfl (by decide) ?_
    exact xw_ireturn hG1 (show xlook 186 15 = some (15, .ireturn, 1, 0, 0, 0, 0) from xlk (by decide +kernel)) rfl (t hG1)
theorem m186 {X : List Int32} {d : Nat} {F : XF} {Q : Int → XF → Prop} {x1 : Int} {x2 : Int} (hPT : xPT F)  (t : ∃ (j1 : Nat), j1 < d ∧ xMI X j1 185 [.ref (131), vi (x1)] (xup (F) (131) 0 (0)) (fun (y1 : Int) (G1 : XF) => (inR (y1) ∧ (((¬ (y1) = (0)) → (inR (x2) ∧ ((x2 < 0 ∨ 7 < x2) → (xPT (G1) → Q ((-2)) (G1))) ∧ (((x2) = 0) → ((0 ≤ (((60) + ((7) * (x1))) + (x2)) ∧ (((60) + ((7) * (x1))) + (x2)) < 264) ∧ (xPT (G1) → Q ((G1) (140) (((60) + ((7) * (x1))) + (x2))) (G1)))) ∧ (((x2) = 1) → ((0 ≤ (((60) + ((7) * (x1))) + (x2)) ∧ (((60) + ((7) * (x1))) + (x2)) < 264) ∧ (xPT (G1) → Q ((G1) (140) (((60) + ((7) * (x1))) + (x2))) (G1)))) ∧ (((x2) = 2) → ((0 ≤ (((60) + ((7) * (x1))) + (x2)) ∧ (((60) + ((7) * (x1))) + (x2)) < 264) ∧ (xPT (G1) → Q ((G1) (140) (((60) + ((7) * (x1))) + (x2))) (G1)))) ∧ (((x2) = 3) → ((0 ≤ (((60) + ((7) * (x1))) + (x2)) ∧ (((60) + ((7) * (x1))) + (x2)) < 264) ∧ (xPT (G1) → Q ((G1) (140) (((60) + ((7) * (x1))) + (x2))) (G1)))) ∧ (((x2) = 4) → (∃ (j2 : Nat), j2 < d ∧ xMI X j2 173 [.ref (131), vi (0), vi (x1)] (G1) (fun (y2 : Int) (G2 : XF) => (xPT (G2) → Q (y2) (G2))))) ∧ (((x2) = 5) → ((0 ≤ ((((60) + ((7) * (x1))) + (x2)) - (1)) ∧ ((((60) + ((7) * (x1))) + (x2)) - (1)) < 264) ∧ (xPT (G1) → Q ((G1) (140) ((((60) + ((7) * (x1))) + (x2)) - (1))) (G1)))) ∧ (((x2) = 6) → ((0 ≤ ((((60) + ((7) * (x1))) + (x2)) - (1)) ∧ ((((60) + ((7) * (x1))) + (x2)) - (1)) < 264) ∧ (xPT (G1) → Q ((G1) (140) ((((60) + ((7) * (x1))) + (x2)) - (1))) (G1)))) ∧ (((x2) = 7) → ((0 ≤ ((((60) + ((7) * (x1))) + (x2)) - (1)) ∧ ((((60) + ((7) * (x1))) + (x2)) - (1)) < 264) ∧ (xPT (G1) → Q ((G1) (140) ((((60) + ((7) * (x1))) + (x2)) - (1))) (G1)))))) ∧ (¬ (¬ (y1) = (0)) → (xPT (G1) → Q ((-2)) (G1))))))) : xMI X d 186 [.ref (131), vi (x1), vi (x2)] F Q := by
  show xW X d 186 0 [.ref (131), vi (x1), vi (x2), xU0] [] F (xqi Q)
  exact s186_0 hPT  t

theorem s187_0 {X : List Int32} {d : Nat} {F : XF} {Q : Int → XF → Prop} {x1 : Int} (hPT : xPT F)  (t : (inR (x1)) ∧ ((inR (((F) (131) 17) - (1))) ∧ (∃ (j1 : Nat), j1 < d ∧ xMI X j1 132 [vl (x1), vl (0), vl (((F) (131) 17) - (1))] (F) (fun (y1 : Int) (G1 : XF) => (((y1 : Int) = 0 ∨ (y1 : Int) = 1) ∧ (xPT (G1) → Q (y1) (G1))))))) : xW X d 187 0 [.ref (131), vi (x1)] [] F (xqi Q) := by
  refine xw_iload_n (n := 1) (show xlook 187 0 = some (0, .iload_n 1, 1, 0, 0, 0, 0) from xlk (by decide +kernel)) rfl rfl ?_
  obtain ⟨q1, t⟩ := t
  refine xw_i2l (n := 2) (show xlook 187 1 = some (1, .i2l, 1, 0, 0, 0, 0) from xlk (by decide +kernel)) rfl q1 ?_
  refine xw_lconst (n := 3) (show xlook 187 2 = some (2, .lconst 0, 1, 0, 0, 0, 0) from xlk (by decide +kernel)) rfl (k := 0) (by decide) ?_
  refine xw_aload_n (n := 4) (show xlook 187 3 = some (3, .aload_n 0, 1, 0, 0, 0, 0) from xlk (by decide +kernel)) rfl rfl ?_
  refine xw_geti (show xlook 187 4 = some (4, .getfield 167, 3, 12, 17, 0, 243) from xlk (by decide +kernel)) (by decide) (xobf xob_12 (by decide) (by decide)) rfl (n := 7) rfl ?_
  refine xw_iconst (n := 8) (show xlook 187 7 = some (7, .iconst 1, 1, 0, 0, 0, 0) from xlk (by decide +kernel)) rfl ?_
  refine xw_isub (n := 9) (show xlook 187 8 = some (8, .isub, 1, 0, 0, 0, 0) from xlk (by decide +kernel)) rfl ?_
  obtain ⟨q1, t⟩ := t
  refine xw_i2l (n := 10) (show xlook 187 9 = some (9, .i2l, 1, 0, 0, 0, 0) from xlk (by decide +kernel)) rfl q1 ?_
  obtain ⟨j1, hj1, rr1, G1, hm1, hG1, t⟩ := t
  obtain ⟨y1, rfl, t⟩ := t
  refine xw_calls (dk := j1) (as := [vl (x1), vl (0), vl (((F) (131) 17) - (1))]) (show xlook 187 10 = some (10, .invokestatic 83, 3, 132, 3, 0, 151) from xlk (by decide +kernel)) (by decide) hj1 ⟨Nat.le_of_ble_eq_true rfl, Nat.le_of_ble_eq_true rfl, Nat.le_of_ble_eq_true rfl, by decide⟩ rfl hm1 (n := 13) rfl ?_
  show xW X d 187 13 [.ref (131), vi (x1)] [vi (y1)] G1 (xqi Q)
  obtain ⟨q1, t⟩ := t
  exact xw_zreturn hG1 (show xlook 187 13 = some (13, .ireturn, 1, 0, 0, 0, 0) from xlk (by decide +kernel)) rfl q1 (t hG1)
theorem m187 {X : List Int32} {d : Nat} {F : XF} {Q : Int → XF → Prop} {x1 : Int} (hPT : xPT F)  (t : (inR (x1)) ∧ ((inR (((F) (131) 17) - (1))) ∧ (∃ (j1 : Nat), j1 < d ∧ xMI X j1 132 [vl (x1), vl (0), vl (((F) (131) 17) - (1))] (F) (fun (y1 : Int) (G1 : XF) => (((y1 : Int) = 0 ∨ (y1 : Int) = 1) ∧ (xPT (G1) → Q (y1) (G1))))))) : xMI X d 187 [.ref (131), vi (x1)] F Q := by
  show xW X d 187 0 [.ref (131), vi (x1)] [] F (xqi Q)
  exact s187_0 hPT  t

theorem s188_0 {X : List Int32} {d : Nat} {F : XF} {Q : Int → XF → Prop} {x1 : Int} {x2 : Int} (hPT : xPT F)  (t : ∃ (j1 : Nat), j1 < d ∧ xMI X j1 187 [.ref (131), vi (x1)] (xup (F) (131) 0 (0)) (fun (y1 : Int) (G1 : XF) => (inR (y1) ∧ (((¬ (y1) = (0)) → (inR (x2) ∧ ((x2 < 0 ∨ 3 < x2) → (xPT (G1) → Q ((-2)) (G1))) ∧ (((x2) = 0) → ((0 ≤ (x1) ∧ (x1) < 30) ∧ (xPT (G1) → Q ((G1) (137) (x1)) (G1)))) ∧ (((x2) = 1) → ((0 ≤ (x1) ∧ (x1) < 30) ∧ (xPT (G1) → Q ((G1) (138) (x1)) (G1)))) ∧ (((x2) = 2) → ((0 ≤ (x1) ∧ (x1) < 30) ∧ (xPT (G1) → Q ((G1) (139) (x1)) (G1)))) ∧ (((x2) = 3) → ((0 ≤ (x1) ∧ (x1) < 30) ∧ ((0 ≤ ((G1) (137) (x1)) ∧ ((G1) (137) (x1)) < 264) ∧ ((0 ≤ (x1) ∧ (x1) < 30) ∧ (∃ (j2 : Nat), j2 < d ∧ xMI X j2 171 [.ref (131), vi (0), vi ((G1) (138) (x1))] (G1) (fun (y2 : Int) (G2 : XF) => (xPT (G2) → Q (((G1) (140) ((G1) (137) (x1))) - (y2)) (G2)))))))))) ∧ (¬ (¬ (y1) = (0)) → (xPT (G1) → Q ((-2)) (G1))))))) : xW X d 188 0 [.ref (131), vi (x1), vi (x2)] [] F (xqi Q) := by
  refine xw_aload_n (n := 1) (show xlook 188 0 = some (0, .aload_n 0, 1, 0, 0, 0, 0) from xlk (by decide +kernel)) rfl rfl ?_
  refine xw_iconst (n := 2) (show xlook 188 1 = some (1, .iconst 0, 1, 0, 0, 0, 0) from xlk (by decide +kernel)) rfl ?_
  refine xw_puti (show xlook 188 2 = some (2, .putfield 1, 3, 12, 0, 0, 235) from xlk (by decide +kernel)) (xobf xob_12 (by decide) (by decide)) rfl (n := 5) rfl ?_
  refine xw_aload_n (n := 6) (show xlook 188 5 = some (5, .aload_n 0, 1, 0, 0, 0, 0) from xlk (by decide +kernel)) rfl rfl ?_
  refine xw_iload_n (n := 7) (show xlook 188 6 = some (6, .iload_n 1, 1, 0, 0, 0, 0) from xlk (by decide +kernel)) rfl rfl ?_
  obtain ⟨j1, hj1, rr1, G1, hm1, hG1, t⟩ := t
  obtain ⟨y1, rfl, t⟩ := t
  refine xw_callv (dk := j1) (o := 131) (as := [vi (x1)]) (show xlook 188 7 = some (7, .invokevirtual 260, 3, 187, 2, 0, 193) from xlk (by decide +kernel)) (by decide) hj1 ⟨Nat.le_of_ble_eq_true rfl, Nat.le_of_ble_eq_true rfl, Nat.le_of_ble_eq_true rfl⟩ ⟨xob_12.1, xob_12.2, by decide⟩ rfl hm1 (n := 10) rfl ?_
  show xW X d 188 10 [.ref (131), vi (x1), vi (x2)] [vi (y1)] G1 (xqi Q)
  obtain ⟨q0, t⟩ := t
  refine xw_if_ne (n := 13) (m := 16) (show xlook 188 10 = some (10, .ifCond .ne 6, 3, 16, 0, 0, 0) from xlk (by decide +kernel)) rfl rfl q0 ⟨fun c => ?_, fun c => ?_⟩
  · replace t := t.1 c
    refine xw_iload_n (n := 17) (show xlook 188 16 = some (16, .iload_n 2, 1, 0, 0, 0, 0) from xlk (by decide +kernel)) rfl rfl ?_
    obtain ⟨q1, td, u0, u1, u2, u3⟩ := t
    by_cases hq : (x2 < 0 ∨ 3 < x2)
    · replace t := td hq
      refine xw_tabOut (t := 93) (show xlook 188 17 = some (17, .tableswitch 76 0 3 #[31, 38, 45, 52], 31, 0, 0, 0, 0) from xlk (by decide +kernel)) q1 hq rfl ?_
      refine xw_bipush (n := 95) (show xlook 188 93 = some (93, .bipush (-2), 2, 0, 0, 0, 0) from xlk (by decide +kernel)) rfl (by decide) ?_
      exact xw_ireturn hG1 (show xlook 188 95 = some (95, .ireturn, 1, 0, 0, 0, 0) from xlk (by decide +kernel)) rfl (t hG1)
    rcases (show (x2) = 0 ∨ (x2) = 1 ∨ (x2) = 2 ∨ (x2) = 3 by omega) with e | e | e | e
    · replace t := u0 e
      refine xw_tabIn (off := 31) (t := 48) (show xlook 188 17 = some (17, .tableswitch 76 0 3 #[31, 38, 45, 52], 31, 0, 0, 0, 0) from xlk (by decide +kernel)) q1 hq (by show (#[31, 38, 45, 52] : Array Int)[((x2 : Int) - (0)).toNat]? = some (31); rw [e]; rfl) rfl ?_
      refine xw_aload_n (n := 49) (show xlook 188 48 = some (48, .aload_n 0, 1, 0, 0, 0, 0) from xlk (by decide +kernel)) rfl rfl ?_
      refine xw_getr (q := 137) (show xlook 188 49 = some (49, .getfield 33, 3, 12, 14, 0, 226) from xlk (by decide +kernel)) (by decide) (xobf xob_12 (by decide) (by decide)) rfl (xPT_get (k := 14) (f := 6) hG1 xob_12 (by decide)) (by have := (xtg_12_14 _ xob_12.1 xob_12.2).1.1; omega) (n := 52) rfl ?_
      refine xw_iload_n (n := 53) (show xlook 188 52 = some (52, .iload_n 1, 1, 0, 0, 0, 0) from xlk (by decide +kernel)) rfl rfl ?_
      obtain ⟨q1, t⟩ := t
      refine xw_iald (show xlook 188 53 = some (53, .iaload, 1, 0, 0, 0, 0) from xlk (by decide +kernel)) (xtg_12_14 _ xob_12.1 xob_12.2).1 (by rw [(xtg_12_14 _ xob_12.1 xob_12.2).2]; exact q1) (n := 54) rfl ?_
      exact xw_ireturn hG1 (show xlook 188 54 = some (54, .ireturn, 1, 0, 0, 0, 0) from xlk (by decide +kernel)) rfl (t hG1)
    · replace t := u1 e
      refine xw_tabIn (off := 38) (t := 55) (show xlook 188 17 = some (17, .tableswitch 76 0 3 #[31, 38, 45, 52], 31, 0, 0, 0, 0) from xlk (by decide +kernel)) q1 hq (by show (#[31, 38, 45, 52] : Array Int)[((x2 : Int) - (0)).toNat]? = some (38); rw [e]; rfl) rfl ?_
      refine xw_aload_n (n := 56) (show xlook 188 55 = some (55, .aload_n 0, 1, 0, 0, 0, 0) from xlk (by decide +kernel)) rfl rfl ?_
      refine xw_getr (q := 138) (show xlook 188 56 = some (56, .getfield 36, 3, 12, 15, 0, 227) from xlk (by decide +kernel)) (by decide) (xobf xob_12 (by decide) (by decide)) rfl (xPT_get (k := 15) (f := 7) hG1 xob_12 (by decide)) (by have := (xtg_12_15 _ xob_12.1 xob_12.2).1.1; omega) (n := 59) rfl ?_
      refine xw_iload_n (n := 60) (show xlook 188 59 = some (59, .iload_n 1, 1, 0, 0, 0, 0) from xlk (by decide +kernel)) rfl rfl ?_
      obtain ⟨q1, t⟩ := t
      refine xw_iald (show xlook 188 60 = some (60, .iaload, 1, 0, 0, 0, 0) from xlk (by decide +kernel)) (xtg_12_15 _ xob_12.1 xob_12.2).1 (by rw [(xtg_12_15 _ xob_12.1 xob_12.2).2]; exact q1) (n := 61) rfl ?_
      exact xw_ireturn hG1 (show xlook 188 61 = some (61, .ireturn, 1, 0, 0, 0, 0) from xlk (by decide +kernel)) rfl (t hG1)
    · replace t := u2 e
      refine xw_tabIn (off := 45) (t := 62) (show xlook 188 17 = some (17, .tableswitch 76 0 3 #[31, 38, 45, 52], 31, 0, 0, 0, 0) from xlk (by decide +kernel)) q1 hq (by show (#[31, 38, 45, 52] : Array Int)[((x2 : Int) - (0)).toNat]? = some (45); rw [e]; rfl) rfl ?_
      refine xw_aload_n (n := 63) (show xlook 188 62 = some (62, .aload_n 0, 1, 0, 0, 0, 0) from xlk (by decide +kernel)) rfl rfl ?_
      refine xw_getr (q := 139) (show xlook 188 63 = some (63, .getfield 39, 3, 12, 16, 0, 228) from xlk (by decide +kernel)) (by decide) (xobf xob_12 (by decide) (by decide)) rfl (xPT_get (k := 16) (f := 8) hG1 xob_12 (by decide)) (by have := (xtg_12_16 _ xob_12.1 xob_12.2).1.1; omega) (n := 66) rfl ?_
      refine xw_iload_n (n := 67) (show xlook 188 66 = some (66, .iload_n 1, 1, 0, 0, 0, 0) from xlk (by decide +kernel)) rfl rfl ?_
      obtain ⟨q1, t⟩ := t
      refine xw_iald (show xlook 188 67 = some (67, .iaload, 1, 0, 0, 0, 0) from xlk (by decide +kernel)) (xtg_12_16 _ xob_12.1 xob_12.2).1 (by rw [(xtg_12_16 _ xob_12.1 xob_12.2).2]; exact q1) (n := 68) rfl ?_
      exact xw_ireturn hG1 (show xlook 188 68 = some (68, .ireturn, 1, 0, 0, 0, 0) from xlk (by decide +kernel)) rfl (t hG1)
    · replace t := u3 e
      refine xw_tabIn (off := 52) (t := 69) (show xlook 188 17 = some (17, .tableswitch 76 0 3 #[31, 38, 45, 52], 31, 0, 0, 0, 0) from xlk (by decide +kernel)) q1 hq (by show (#[31, 38, 45, 52] : Array Int)[((x2 : Int) - (0)).toNat]? = some (52); rw [e]; rfl) rfl ?_
      refine xw_aload_n (n := 70) (show xlook 188 69 = some (69, .aload_n 0, 1, 0, 0, 0, 0) from xlk (by decide +kernel)) rfl rfl ?_
      refine xw_getr (q := 140) (show xlook 188 70 = some (70, .getfield 42, 3, 12, 18, 0, 229) from xlk (by decide +kernel)) (by decide) (xobf xob_12 (by decide) (by decide)) rfl (xPT_get (k := 18) (f := 9) hG1 xob_12 (by decide)) (by have := (xtg_12_18 _ xob_12.1 xob_12.2).1.1; omega) (n := 73) rfl ?_
      refine xw_aload_n (n := 74) (show xlook 188 73 = some (73, .aload_n 0, 1, 0, 0, 0, 0) from xlk (by decide +kernel)) rfl rfl ?_
      refine xw_getr (q := 137) (show xlook 188 74 = some (74, .getfield 33, 3, 12, 14, 0, 226) from xlk (by decide +kernel)) (by decide) (xobf xob_12 (by decide) (by decide)) rfl (xPT_get (k := 14) (f := 6) hG1 xob_12 (by decide)) (by have := (xtg_12_14 _ xob_12.1 xob_12.2).1.1; omega) (n := 77) rfl ?_
      refine xw_iload_n (n := 78) (show xlook 188 77 = some (77, .iload_n 1, 1, 0, 0, 0, 0) from xlk (by decide +kernel)) rfl rfl ?_
      obtain ⟨q1, t⟩ := t
      refine xw_iald (show xlook 188 78 = some (78, .iaload, 1, 0, 0, 0, 0) from xlk (by decide +kernel)) (xtg_12_14 _ xob_12.1 xob_12.2).1 (by rw [(xtg_12_14 _ xob_12.1 xob_12.2).2]; exact q1) (n := 79) rfl ?_
      obtain ⟨q1, t⟩ := t
      refine xw_iald (show xlook 188 79 = some (79, .iaload, 1, 0, 0, 0, 0) from xlk (by decide +kernel)) (xtg_12_18 _ xob_12.1 xob_12.2).1 (by rw [(xtg_12_18 _ xob_12.1 xob_12.2).2]; exact q1) (n := 80) rfl ?_
      refine xw_aload_n (n := 81) (show xlook 188 80 = some (80, .aload_n 0, 1, 0, 0, 0, 0) from xlk (by decide +kernel)) rfl rfl ?_
      refine xw_iconst (n := 82) (show xlook 188 81 = some (81, .iconst 0, 1, 0, 0, 0, 0) from xlk (by decide +kernel)) rfl ?_
      refine xw_aload_n (n := 83) (show xlook 188 82 = some (82, .aload_n 0, 1, 0, 0, 0, 0) from xlk (by decide +kernel)) rfl rfl ?_
      refine xw_getr (q := 138) (show xlook 188 83 = some (83, .getfield 36, 3, 12, 15, 0, 227) from xlk (by decide +kernel)) (by decide) (xobf xob_12 (by decide) (by decide)) rfl (xPT_get (k := 15) (f := 7) hG1 xob_12 (by decide)) (by have := (xtg_12_15 _ xob_12.1 xob_12.2).1.1; omega) (n := 86) rfl ?_
      refine xw_iload_n (n := 87) (show xlook 188 86 = some (86, .iload_n 1, 1, 0, 0, 0, 0) from xlk (by decide +kernel)) rfl rfl ?_
      obtain ⟨q1, t⟩ := t
      refine xw_iald (show xlook 188 87 = some (87, .iaload, 1, 0, 0, 0, 0) from xlk (by decide +kernel)) (xtg_12_15 _ xob_12.1 xob_12.2).1 (by rw [(xtg_12_15 _ xob_12.1 xob_12.2).2]; exact q1) (n := 88) rfl ?_
      obtain ⟨j2, hj2, rr2, G2, hm2, hG2, t⟩ := t
      obtain ⟨y2, rfl, t⟩ := t
      refine xw_callv (dk := j2) (o := 131) (as := [vi (0), vi ((G1) (138) (x1))]) (show xlook 188 88 = some (88, .invokevirtual 203, 3, 171, 3, 0, 179) from xlk (by decide +kernel)) (by decide) hj2 ⟨Nat.le_of_ble_eq_true rfl, Nat.le_of_ble_eq_true rfl, Nat.le_of_ble_eq_true rfl⟩ ⟨xob_12.1, xob_12.2, by decide⟩ rfl hm2 (n := 91) rfl ?_
      show xW X d 188 91 [.ref (131), vi (x1), vi (x2)] [vi (y2), vi ((G1) (140) ((G1) (137) (x1)))] G2 (xqi Q)
      refine xw_isub (n := 92) (show xlook 188 91 = some (91, .isub, 1, 0, 0, 0, 0) from xlk (by decide +kernel)) rfl ?_
      exact xw_ireturn hG2 (show xlook 188 92 = some (92, .ireturn, 1, 0, 0, 0, 0) from xlk (by decide +kernel)) rfl (t hG2)
  · replace t := t.2 c
    refine xw_bipush (n := 15) (show xlook 188 13 = some (13, .bipush (-2), 2, 0, 0, 0, 0) from xlk (by decide +kernel)) rfl (by decide) ?_
    exact xw_ireturn hG1 (show xlook 188 15 = some (15, .ireturn, 1, 0, 0, 0, 0) from xlk (by decide +kernel)) rfl (t hG1)
theorem m188 {X : List Int32} {d : Nat} {F : XF} {Q : Int → XF → Prop} {x1 : Int} {x2 : Int} (hPT : xPT F)  (t : ∃ (j1 : Nat), j1 < d ∧ xMI X j1 187 [.ref (131), vi (x1)] (xup (F) (131) 0 (0)) (fun (y1 : Int) (G1 : XF) => (inR (y1) ∧ (((¬ (y1) = (0)) → (inR (x2) ∧ ((x2 < 0 ∨ 3 < x2) → (xPT (G1) → Q ((-2)) (G1))) ∧ (((x2) = 0) → ((0 ≤ (x1) ∧ (x1) < 30) ∧ (xPT (G1) → Q ((G1) (137) (x1)) (G1)))) ∧ (((x2) = 1) → ((0 ≤ (x1) ∧ (x1) < 30) ∧ (xPT (G1) → Q ((G1) (138) (x1)) (G1)))) ∧ (((x2) = 2) → ((0 ≤ (x1) ∧ (x1) < 30) ∧ (xPT (G1) → Q ((G1) (139) (x1)) (G1)))) ∧ (((x2) = 3) → ((0 ≤ (x1) ∧ (x1) < 30) ∧ ((0 ≤ ((G1) (137) (x1)) ∧ ((G1) (137) (x1)) < 264) ∧ ((0 ≤ (x1) ∧ (x1) < 30) ∧ (∃ (j2 : Nat), j2 < d ∧ xMI X j2 171 [.ref (131), vi (0), vi ((G1) (138) (x1))] (G1) (fun (y2 : Int) (G2 : XF) => (xPT (G2) → Q (((G1) (140) ((G1) (137) (x1))) - (y2)) (G2)))))))))) ∧ (¬ (¬ (y1) = (0)) → (xPT (G1) → Q ((-2)) (G1))))))) : xMI X d 188 [.ref (131), vi (x1), vi (x2)] F Q := by
  show xW X d 188 0 [.ref (131), vi (x1), vi (x2)] [] F (xqi Q)
  exact s188_0 hPT  t

theorem s189_0 {X : List Int32} {d : Nat} {F : XF} {Q : Int → XF → Prop} {x1 : Int} {x2 : Int} (hPT : xPT F)  (t : (inR (x1)) ∧ ((inR (((F) (131) 20) - (1))) ∧ (∃ (j1 : Nat), j1 < d ∧ xMI X j1 132 [vl (x1), vl (0), vl (((F) (131) 20) - (1))] (xup (F) (131) 0 (0)) (fun (y1 : Int) (G1 : XF) => (inR (y1) ∧ ((((y1) = (0)) → (xPT (G1) → Q ((-2)) (G1))) ∧ (¬ ((y1) = (0)) → ((inR (x2)) ∧ (∃ (j2 : Nat), j2 < d ∧ xMI X j2 132 [vl (x2), vl (0), vl (3)] (G1) (fun (y2 : Int) (G2 : XF) => (inR (y2) ∧ ((((y2) = (0)) → (xPT (G2) → Q ((-2)) (G2))) ∧ (¬ ((y2) = (0)) → ((0 ≤ (((4) * (x1)) + (x2)) ∧ (((4) * (x1)) + (x2)) < 800) ∧ (xPT (G2) → Q ((G2) (141) (((4) * (x1)) + (x2))) (G2)))))))))))))))) : xW X d 189 0 [.ref (131), vi (x1), vi (x2)] [] F (xqi Q) := by
  refine xw_aload_n (n := 1) (show xlook 189 0 = some (0, .aload_n 0, 1, 0, 0, 0, 0) from xlk (by decide +kernel)) rfl rfl ?_
  refine xw_iconst (n := 2) (show xlook 189 1 = some (1, .iconst 0, 1, 0, 0, 0, 0) from xlk (by decide +kernel)) rfl ?_
  refine xw_puti (show xlook 189 2 = some (2, .putfield 1, 3, 12, 0, 0, 235) from xlk (by decide +kernel)) (xobf xob_12 (by decide) (by decide)) rfl (n := 5) rfl ?_
  refine xw_iload_n (n := 6) (show xlook 189 5 = some (5, .iload_n 1, 1, 0, 0, 0, 0) from xlk (by decide +kernel)) rfl rfl ?_
  obtain ⟨q1, t⟩ := t
  refine xw_i2l (n := 7) (show xlook 189 6 = some (6, .i2l, 1, 0, 0, 0, 0) from xlk (by decide +kernel)) rfl q1 ?_
  refine xw_lconst (n := 8) (show xlook 189 7 = some (7, .lconst 0, 1, 0, 0, 0, 0) from xlk (by decide +kernel)) rfl (k := 0) (by decide) ?_
  refine xw_aload_n (n := 9) (show xlook 189 8 = some (8, .aload_n 0, 1, 0, 0, 0, 0) from xlk (by decide +kernel)) rfl rfl ?_
  refine xw_geti2 (u := (F) (131) 20) (show xlook 189 9 = some (9, .getfield 206, 3, 12, 20, 0, 244) from xlk (by decide +kernel)) (by decide) (xobf xob_12 (by decide) (by decide)) rfl (xup_i (by decide)) (n := 12) rfl ?_
  refine xw_iconst (n := 13) (show xlook 189 12 = some (12, .iconst 1, 1, 0, 0, 0, 0) from xlk (by decide +kernel)) rfl ?_
  refine xw_isub (n := 14) (show xlook 189 13 = some (13, .isub, 1, 0, 0, 0, 0) from xlk (by decide +kernel)) rfl ?_
  obtain ⟨q1, t⟩ := t
  refine xw_i2l (n := 15) (show xlook 189 14 = some (14, .i2l, 1, 0, 0, 0, 0) from xlk (by decide +kernel)) rfl q1 ?_
  obtain ⟨j1, hj1, rr1, G1, hm1, hG1, t⟩ := t
  obtain ⟨y1, rfl, t⟩ := t
  refine xw_calls (dk := j1) (as := [vl (x1), vl (0), vl (((F) (131) 20) - (1))]) (show xlook 189 15 = some (15, .invokestatic 83, 3, 132, 3, 0, 151) from xlk (by decide +kernel)) (by decide) hj1 ⟨Nat.le_of_ble_eq_true rfl, Nat.le_of_ble_eq_true rfl, Nat.le_of_ble_eq_true rfl, by decide⟩ rfl hm1 (n := 18) rfl ?_
  show xW X d 189 18 [.ref (131), vi (x1), vi (x2)] [vi (y1)] G1 (xqi Q)
  obtain ⟨q0, t⟩ := t
  refine xw_if_eq (n := 21) (m := 46) (show xlook 189 18 = some (18, .ifCond .eq 28, 3, 46, 0, 0, 0) from xlk (by decide +kernel)) rfl rfl q0 ⟨fun c => ?_, fun c => ?_⟩
  · replace t := t.1 c
    refine xw_bipush (n := 48) (show xlook 189 46 = some (46, .bipush (-2), 2, 0, 0, 0, 0) from xlk (by decide +kernel)) rfl (by decide) ?_
    exact xw_ireturn hG1 (show xlook 189 48 = some (48, .ireturn, 1, 0, 0, 0, 0) from xlk (by decide +kernel)) rfl (t hG1)
  · replace t := t.2 c
    refine xw_iload_n (n := 22) (show xlook 189 21 = some (21, .iload_n 2, 1, 0, 0, 0, 0) from xlk (by decide +kernel)) rfl rfl ?_
    obtain ⟨q1, t⟩ := t
    refine xw_i2l (n := 23) (show xlook 189 22 = some (22, .i2l, 1, 0, 0, 0, 0) from xlk (by decide +kernel)) rfl q1 ?_
    refine xw_lconst (n := 24) (show xlook 189 23 = some (23, .lconst 0, 1, 0, 0, 0, 0) from xlk (by decide +kernel)) rfl (k := 0) (by decide) ?_
    refine xw_ldc2 (n := 27) (show xlook 189 24 = some (24, .ldc2_w 263, 3, 0, 0, 3, 12) from xlk (by decide +kernel)) rfl ?_
    obtain ⟨j2, hj2, rr2, G2, hm2, hG2, t⟩ := t
    obtain ⟨y2, rfl, t⟩ := t
    refine xw_calls (dk := j2) (as := [vl (x2), vl (0), vl (3)]) (show xlook 189 27 = some (27, .invokestatic 83, 3, 132, 3, 0, 151) from xlk (by decide +kernel)) (by decide) hj2 ⟨Nat.le_of_ble_eq_true rfl, Nat.le_of_ble_eq_true rfl, Nat.le_of_ble_eq_true rfl, by decide⟩ rfl hm2 (n := 30) rfl ?_
    show xW X d 189 30 [.ref (131), vi (x1), vi (x2)] [vi (y2)] G2 (xqi Q)
    obtain ⟨q0, t⟩ := t
    refine xw_if_eq (n := 33) (m := 46) (show xlook 189 30 = some (30, .ifCond .eq 16, 3, 46, 0, 0, 0) from xlk (by decide +kernel)) rfl rfl q0 ⟨fun c => ?_, fun c => ?_⟩
    · replace t := t.1 c
      refine xw_bipush (n := 48) (show xlook 189 46 = some (46, .bipush (-2), 2, 0, 0, 0, 0) from xlk (by decide +kernel)) rfl (by decide) ?_
      exact xw_ireturn hG2 (show xlook 189 48 = some (48, .ireturn, 1, 0, 0, 0, 0) from xlk (by decide +kernel)) rfl (t hG2)
    · replace t := t.2 c
      refine xw_aload_n (n := 34) (show xlook 189 33 = some (33, .aload_n 0, 1, 0, 0, 0, 0) from xlk (by decide +kernel)) rfl rfl ?_
      refine xw_getr (q := 141) (show xlook 189 34 = some (34, .getfield 45, 3, 12, 19, 0, 230) from xlk (by decide +kernel)) (by decide) (xobf xob_12 (by decide) (by decide)) rfl (xPT_get (k := 19) (f := 10) hG2 xob_12 (by decide)) (by have := (xtg_12_19 _ xob_12.1 xob_12.2).1.1; omega) (n := 37) rfl ?_
      refine xw_iconst (n := 38) (show xlook 189 37 = some (37, .iconst 4, 1, 0, 0, 0, 0) from xlk (by decide +kernel)) rfl ?_
      refine xw_iload_n (n := 39) (show xlook 189 38 = some (38, .iload_n 1, 1, 0, 0, 0, 0) from xlk (by decide +kernel)) rfl rfl ?_
      refine xw_imul (n := 40) (show xlook 189 39 = some (39, .imul, 1, 0, 0, 0, 0) from xlk (by decide +kernel)) rfl ?_
      refine xw_iload_n (n := 41) (show xlook 189 40 = some (40, .iload_n 2, 1, 0, 0, 0, 0) from xlk (by decide +kernel)) rfl rfl ?_
      refine xw_iadd (n := 42) (show xlook 189 41 = some (41, .iadd, 1, 0, 0, 0, 0) from xlk (by decide +kernel)) rfl ?_
      obtain ⟨q1, t⟩ := t
      refine xw_iald (show xlook 189 42 = some (42, .iaload, 1, 0, 0, 0, 0) from xlk (by decide +kernel)) (xtg_12_19 _ xob_12.1 xob_12.2).1 (by rw [(xtg_12_19 _ xob_12.1 xob_12.2).2]; exact q1) (n := 43) rfl ?_
      refine xw_goto (m := 48) (show xlook 189 43 = some (43, .goto 5, 3, 48, 0, 0, 0) from xlk (by decide +kernel)) rfl ?_
      exact xw_ireturn hG2 (show xlook 189 48 = some (48, .ireturn, 1, 0, 0, 0, 0) from xlk (by decide +kernel)) rfl (t hG2)
theorem m189 {X : List Int32} {d : Nat} {F : XF} {Q : Int → XF → Prop} {x1 : Int} {x2 : Int} (hPT : xPT F)  (t : (inR (x1)) ∧ ((inR (((F) (131) 20) - (1))) ∧ (∃ (j1 : Nat), j1 < d ∧ xMI X j1 132 [vl (x1), vl (0), vl (((F) (131) 20) - (1))] (xup (F) (131) 0 (0)) (fun (y1 : Int) (G1 : XF) => (inR (y1) ∧ ((((y1) = (0)) → (xPT (G1) → Q ((-2)) (G1))) ∧ (¬ ((y1) = (0)) → ((inR (x2)) ∧ (∃ (j2 : Nat), j2 < d ∧ xMI X j2 132 [vl (x2), vl (0), vl (3)] (G1) (fun (y2 : Int) (G2 : XF) => (inR (y2) ∧ ((((y2) = (0)) → (xPT (G2) → Q ((-2)) (G2))) ∧ (¬ ((y2) = (0)) → ((0 ≤ (((4) * (x1)) + (x2)) ∧ (((4) * (x1)) + (x2)) < 800) ∧ (xPT (G2) → Q ((G2) (141) (((4) * (x1)) + (x2))) (G2)))))))))))))))) : xMI X d 189 [.ref (131), vi (x1), vi (x2)] F Q := by
  show xW X d 189 0 [.ref (131), vi (x1), vi (x2)] [] F (xqi Q)
  exact s189_0 hPT  t

theorem s190_0 {X : List Int32} {d : Nat} {F : XF} {Q : Int → XF → Prop} {x1 : Int} {x2 : Int} (hPT : xPT F)  (t : ∃ (j1 : Nat), j1 < d ∧ xMI X j1 187 [.ref (131), vi (x1)] (xup (F) (131) 0 (0)) (fun (y1 : Int) (G1 : XF) => (inR (y1) ∧ ((((y1) = (0)) → (xPT (G1) → Q ((-2)) (G1))) ∧ (¬ ((y1) = (0)) → (∃ (j2 : Nat), j2 < d ∧ xMI X j2 185 [.ref (131), vi (x2)] (G1) (fun (y2 : Int) (G2 : XF) => (inR (y2) ∧ ((((y2) = (0)) → (xPT (G2) → Q ((-2)) (G2))) ∧ (¬ ((y2) = (0)) → (∃ (j3 : Nat), j3 < d ∧ xMI X j3 166 [.ref (131), vi (x1), vi (x2)] (G2) (fun (y3 : Int) (G3 : XF) => (xPT (G3) → Q (y3) (G3)))))))))))))) : xW X d 190 0 [.ref (131), vi (x1), vi (x2)] [] F (xqi Q) := by
  refine xw_aload_n (n := 1) (show xlook 190 0 = some (0, .aload_n 0, 1, 0, 0, 0, 0) from xlk (by decide +kernel)) rfl rfl ?_
  refine xw_iconst (n := 2) (show xlook 190 1 = some (1, .iconst 0, 1, 0, 0, 0, 0) from xlk (by decide +kernel)) rfl ?_
  refine xw_puti (show xlook 190 2 = some (2, .putfield 1, 3, 12, 0, 0, 235) from xlk (by decide +kernel)) (xobf xob_12 (by decide) (by decide)) rfl (n := 5) rfl ?_
  refine xw_aload_n (n := 6) (show xlook 190 5 = some (5, .aload_n 0, 1, 0, 0, 0, 0) from xlk (by decide +kernel)) rfl rfl ?_
  refine xw_iload_n (n := 7) (show xlook 190 6 = some (6, .iload_n 1, 1, 0, 0, 0, 0) from xlk (by decide +kernel)) rfl rfl ?_
  obtain ⟨j1, hj1, rr1, G1, hm1, hG1, t⟩ := t
  obtain ⟨y1, rfl, t⟩ := t
  refine xw_callv (dk := j1) (o := 131) (as := [vi (x1)]) (show xlook 190 7 = some (7, .invokevirtual 260, 3, 187, 2, 0, 193) from xlk (by decide +kernel)) (by decide) hj1 ⟨Nat.le_of_ble_eq_true rfl, Nat.le_of_ble_eq_true rfl, Nat.le_of_ble_eq_true rfl⟩ ⟨xob_12.1, xob_12.2, by decide⟩ rfl hm1 (n := 10) rfl ?_
  show xW X d 190 10 [.ref (131), vi (x1), vi (x2)] [vi (y1)] G1 (xqi Q)
  obtain ⟨q0, t⟩ := t
  refine xw_if_eq (n := 13) (m := 30) (show xlook 190 10 = some (10, .ifCond .eq 20, 3, 30, 0, 0, 0) from xlk (by decide +kernel)) rfl rfl q0 ⟨fun c => ?_, fun c => ?_⟩
  · replace t := t.1 c
    refine xw_bipush (n := 32) (show xlook 190 30 = some (30, .bipush (-2), 2, 0, 0, 0, 0) from xlk (by decide +kernel)) rfl (by decide) ?_
    exact xw_ireturn hG1 (show xlook 190 32 = some (32, .ireturn, 1, 0, 0, 0, 0) from xlk (by decide +kernel)) rfl (t hG1)
  · replace t := t.2 c
    refine xw_aload_n (n := 14) (show xlook 190 13 = some (13, .aload_n 0, 1, 0, 0, 0, 0) from xlk (by decide +kernel)) rfl rfl ?_
    refine xw_iload_n (n := 15) (show xlook 190 14 = some (14, .iload_n 2, 1, 0, 0, 0, 0) from xlk (by decide +kernel)) rfl rfl ?_
    obtain ⟨j2, hj2, rr2, G2, hm2, hG2, t⟩ := t
    obtain ⟨y2, rfl, t⟩ := t
    refine xw_callv (dk := j2) (o := 131) (as := [vi (x2)]) (show xlook 190 15 = some (15, .invokevirtual 257, 3, 185, 2, 0, 192) from xlk (by decide +kernel)) (by decide) hj2 ⟨Nat.le_of_ble_eq_true rfl, Nat.le_of_ble_eq_true rfl, Nat.le_of_ble_eq_true rfl⟩ ⟨xob_12.1, xob_12.2, by decide⟩ rfl hm2 (n := 18) rfl ?_
    show xW X d 190 18 [.ref (131), vi (x1), vi (x2)] [vi (y2)] G2 (xqi Q)
    obtain ⟨q0, t⟩ := t
    refine xw_if_eq (n := 21) (m := 30) (show xlook 190 18 = some (18, .ifCond .eq 12, 3, 30, 0, 0, 0) from xlk (by decide +kernel)) rfl rfl q0 ⟨fun c => ?_, fun c => ?_⟩
    · replace t := t.1 c
      refine xw_bipush (n := 32) (show xlook 190 30 = some (30, .bipush (-2), 2, 0, 0, 0, 0) from xlk (by decide +kernel)) rfl (by decide) ?_
      exact xw_ireturn hG2 (show xlook 190 32 = some (32, .ireturn, 1, 0, 0, 0, 0) from xlk (by decide +kernel)) rfl (t hG2)
    · replace t := t.2 c
      refine xw_aload_n (n := 22) (show xlook 190 21 = some (21, .aload_n 0, 1, 0, 0, 0, 0) from xlk (by decide +kernel)) rfl rfl ?_
      refine xw_iload_n (n := 23) (show xlook 190 22 = some (22, .iload_n 1, 1, 0, 0, 0, 0) from xlk (by decide +kernel)) rfl rfl ?_
      refine xw_iload_n (n := 24) (show xlook 190 23 = some (23, .iload_n 2, 1, 0, 0, 0, 0) from xlk (by decide +kernel)) rfl rfl ?_
      obtain ⟨j3, hj3, rr3, G3, hm3, hG3, t⟩ := t
      obtain ⟨y3, rfl, t⟩ := t
      refine xw_callv (dk := j3) (o := 131) (as := [vi (x1), vi (x2)]) (show xlook 190 24 = some (24, .invokevirtual 197, 3, 166, 3, 0, 177) from xlk (by decide +kernel)) (by decide) hj3 ⟨Nat.le_of_ble_eq_true rfl, Nat.le_of_ble_eq_true rfl, Nat.le_of_ble_eq_true rfl⟩ ⟨xob_12.1, xob_12.2, by decide⟩ rfl hm3 (n := 27) rfl ?_
      show xW X d 190 27 [.ref (131), vi (x1), vi (x2)] [vi (y3)] G3 (xqi Q)
      refine xw_goto (m := 32) (show xlook 190 27 = some (27, .goto 5, 3, 32, 0, 0, 0) from xlk (by decide +kernel)) rfl ?_
      exact xw_ireturn hG3 (show xlook 190 32 = some (32, .ireturn, 1, 0, 0, 0, 0) from xlk (by decide +kernel)) rfl (t hG3)
theorem m190 {X : List Int32} {d : Nat} {F : XF} {Q : Int → XF → Prop} {x1 : Int} {x2 : Int} (hPT : xPT F)  (t : ∃ (j1 : Nat), j1 < d ∧ xMI X j1 187 [.ref (131), vi (x1)] (xup (F) (131) 0 (0)) (fun (y1 : Int) (G1 : XF) => (inR (y1) ∧ ((((y1) = (0)) → (xPT (G1) → Q ((-2)) (G1))) ∧ (¬ ((y1) = (0)) → (∃ (j2 : Nat), j2 < d ∧ xMI X j2 185 [.ref (131), vi (x2)] (G1) (fun (y2 : Int) (G2 : XF) => (inR (y2) ∧ ((((y2) = (0)) → (xPT (G2) → Q ((-2)) (G2))) ∧ (¬ ((y2) = (0)) → (∃ (j3 : Nat), j3 < d ∧ xMI X j3 166 [.ref (131), vi (x1), vi (x2)] (G2) (fun (y3 : Int) (G3 : XF) => (xPT (G3) → Q (y3) (G3)))))))))))))) : xMI X d 190 [.ref (131), vi (x1), vi (x2)] F Q := by
  show xW X d 190 0 [.ref (131), vi (x1), vi (x2)] [] F (xqi Q)
  exact s190_0 hPT  t

theorem s191_0 {X : List Int32} {d : Nat} {F : XF} {Q : Int → XF → Prop} {x0 : Int} (hPT : xPT F)  (t : (inR (x0)) ∧ (∃ (j1 : Nat), j1 < d ∧ xMI X j1 132 [vl (x0), vl (0), vl (1999)] (F) (fun (y1 : Int) (G1 : XF) => (((y1 : Int) = 0 ∨ (y1 : Int) = 1) ∧ (xPT (G1) → Q (y1) (G1)))))) : xW X d 191 0 [vi (x0)] [] F (xqi Q) := by
  refine xw_iload_n (n := 1) (show xlook 191 0 = some (0, .iload_n 0, 1, 0, 0, 0, 0) from xlk (by decide +kernel)) rfl rfl ?_
  obtain ⟨q1, t⟩ := t
  refine xw_i2l (n := 2) (show xlook 191 1 = some (1, .i2l, 1, 0, 0, 0, 0) from xlk (by decide +kernel)) rfl q1 ?_
  refine xw_lconst (n := 3) (show xlook 191 2 = some (2, .lconst 0, 1, 0, 0, 0, 0) from xlk (by decide +kernel)) rfl (k := 0) (by decide) ?_
  refine xw_ldc2 (n := 6) (show xlook 191 3 = some (3, .ldc2_w 172, 3, 0, 0, 1999, 9) from xlk (by decide +kernel)) rfl ?_
  obtain ⟨j1, hj1, rr1, G1, hm1, hG1, t⟩ := t
  obtain ⟨y1, rfl, t⟩ := t
  refine xw_calls (dk := j1) (as := [vl (x0), vl (0), vl (1999)]) (show xlook 191 6 = some (6, .invokestatic 83, 3, 132, 3, 0, 151) from xlk (by decide +kernel)) (by decide) hj1 ⟨Nat.le_of_ble_eq_true rfl, Nat.le_of_ble_eq_true rfl, Nat.le_of_ble_eq_true rfl, by decide⟩ rfl hm1 (n := 9) rfl ?_
  show xW X d 191 9 [vi (x0)] [vi (y1)] G1 (xqi Q)
  obtain ⟨q1, t⟩ := t
  exact xw_zreturn hG1 (show xlook 191 9 = some (9, .ireturn, 1, 0, 0, 0, 0) from xlk (by decide +kernel)) rfl q1 (t hG1)
theorem m191 {X : List Int32} {d : Nat} {F : XF} {Q : Int → XF → Prop} {x0 : Int} (hPT : xPT F)  (t : (inR (x0)) ∧ (∃ (j1 : Nat), j1 < d ∧ xMI X j1 132 [vl (x0), vl (0), vl (1999)] (F) (fun (y1 : Int) (G1 : XF) => (((y1 : Int) = 0 ∨ (y1 : Int) = 1) ∧ (xPT (G1) → Q (y1) (G1)))))) : xMI X d 191 [vi (x0)] F Q := by
  show xW X d 191 0 [vi (x0)] [] F (xqi Q)
  exact s191_0 hPT  t

theorem s192_0 {X : List Int32} {d : Nat} {F : XF} {Q : Int → XF → Prop} {x1 : Int} {x2 : Int} {x3 : Int} {w4 : Value} (hPT : xPT F)  (t : ∃ (j1 : Nat), j1 < d ∧ xMI X j1 187 [.ref (131), vi (x1)] (xup (F) (131) 0 (0)) (fun (y1 : Int) (G1 : XF) => (inR (y1) ∧ ((((y1) = (0)) → (xPT (G1) → Q ((-2)) (G1))) ∧ (¬ ((y1) = (0)) → (∃ (j2 : Nat), j2 < d ∧ xMI X j2 185 [.ref (131), vi (x2)] (G1) (fun (y2 : Int) (G2 : XF) => (inR (y2) ∧ (((¬ (y2) = (0)) → (∃ (j3 : Nat), j3 < d ∧ xMI X j3 191 [vi (x3)] (G2) (fun (y3 : Int) (G3 : XF) => (inR (y3) ∧ (((¬ (y3) = (0)) → (xPT (G3) → xW X d 192 37 [.ref (131), vi (x1), vi (x2), vi (x3), vi (x3)] [] (G3) (xqi Q))) ∧ (¬ (¬ (y3) = (0)) → (xPT (G3) → Q ((-3)) (G3)))))))) ∧ (¬ (¬ (y2) = (0)) → (xPT (G2) → Q ((-2)) (G2)))))))))))) : xW X d 192 0 [.ref (131), vi (x1), vi (x2), vi (x3), w4] [] F (xqi Q) := by
  refine xw_aload_n (n := 1) (show xlook 192 0 = some (0, .aload_n 0, 1, 0, 0, 0, 0) from xlk (by decide +kernel)) rfl rfl ?_
  refine xw_iconst (n := 2) (show xlook 192 1 = some (1, .iconst 0, 1, 0, 0, 0, 0) from xlk (by decide +kernel)) rfl ?_
  refine xw_puti (show xlook 192 2 = some (2, .putfield 1, 3, 12, 0, 0, 235) from xlk (by decide +kernel)) (xobf xob_12 (by decide) (by decide)) rfl (n := 5) rfl ?_
  refine xw_aload_n (n := 6) (show xlook 192 5 = some (5, .aload_n 0, 1, 0, 0, 0, 0) from xlk (by decide +kernel)) rfl rfl ?_
  refine xw_iload_n (n := 7) (show xlook 192 6 = some (6, .iload_n 1, 1, 0, 0, 0, 0) from xlk (by decide +kernel)) rfl rfl ?_
  obtain ⟨j1, hj1, rr1, G1, hm1, hG1, t⟩ := t
  obtain ⟨y1, rfl, t⟩ := t
  refine xw_callv (dk := j1) (o := 131) (as := [vi (x1)]) (show xlook 192 7 = some (7, .invokevirtual 260, 3, 187, 2, 0, 193) from xlk (by decide +kernel)) (by decide) hj1 ⟨Nat.le_of_ble_eq_true rfl, Nat.le_of_ble_eq_true rfl, Nat.le_of_ble_eq_true rfl⟩ ⟨xob_12.1, xob_12.2, by decide⟩ rfl hm1 (n := 10) rfl ?_
  show xW X d 192 10 [.ref (131), vi (x1), vi (x2), vi (x3), w4] [vi (y1)] G1 (xqi Q)
  obtain ⟨q0, t⟩ := t
  refine xw_if_eq (n := 13) (m := 21) (show xlook 192 10 = some (10, .ifCond .eq 11, 3, 21, 0, 0, 0) from xlk (by decide +kernel)) rfl rfl q0 ⟨fun c => ?_, fun c => ?_⟩
  · replace t := t.1 c
    refine xw_bipush (n := 23) (show xlook 192 21 = some (21, .bipush (-2), 2, 0, 0, 0, 0) from xlk (by decide +kernel)) rfl (by decide) ?_
    exact xw_ireturn hG1 (show xlook 192 23 = some (23, .ireturn, 1, 0, 0, 0, 0) from xlk (by decide +kernel)) rfl (t hG1)
  · replace t := t.2 c
    refine xw_aload_n (n := 14) (show xlook 192 13 = some (13, .aload_n 0, 1, 0, 0, 0, 0) from xlk (by decide +kernel)) rfl rfl ?_
    refine xw_iload_n (n := 15) (show xlook 192 14 = some (14, .iload_n 2, 1, 0, 0, 0, 0) from xlk (by decide +kernel)) rfl rfl ?_
    obtain ⟨j2, hj2, rr2, G2, hm2, hG2, t⟩ := t
    obtain ⟨y2, rfl, t⟩ := t
    refine xw_callv (dk := j2) (o := 131) (as := [vi (x2)]) (show xlook 192 15 = some (15, .invokevirtual 257, 3, 185, 2, 0, 192) from xlk (by decide +kernel)) (by decide) hj2 ⟨Nat.le_of_ble_eq_true rfl, Nat.le_of_ble_eq_true rfl, Nat.le_of_ble_eq_true rfl⟩ ⟨xob_12.1, xob_12.2, by decide⟩ rfl hm2 (n := 18) rfl ?_
    show xW X d 192 18 [.ref (131), vi (x1), vi (x2), vi (x3), w4] [vi (y2)] G2 (xqi Q)
    obtain ⟨q0, t⟩ := t
    refine xw_if_ne (n := 21) (m := 24) (show xlook 192 18 = some (18, .ifCond .ne 6, 3, 24, 0, 0, 0) from xlk (by decide +kernel)) rfl rfl q0 ⟨fun c => ?_, fun c => ?_⟩
    · replace t := t.1 c
      refine xw_iload_n (n := 25) (show xlook 192 24 = some (24, .iload_n 3, 1, 0, 0, 0, 0) from xlk (by decide +kernel)) rfl rfl ?_
      obtain ⟨j3, hj3, rr3, G3, hm3, hG3, t⟩ := t
      obtain ⟨y3, rfl, t⟩ := t
      refine xw_calls (dk := j3) (as := [vi (x3)]) (show xlook 192 25 = some (25, .invokestatic 265, 3, 191, 1, 0, 194) from xlk (by decide +kernel)) (by decide) hj3 ⟨Nat.le_of_ble_eq_true rfl, Nat.le_of_ble_eq_true rfl, Nat.le_of_ble_eq_true rfl, by decide⟩ rfl hm3 (n := 28) rfl ?_
      show xW X d 192 28 [.ref (131), vi (x1), vi (x2), vi (x3), w4] [vi (y3)] G3 (xqi Q)
      obtain ⟨q0, t⟩ := t
      refine xw_if_ne (n := 31) (m := 34) (show xlook 192 28 = some (28, .ifCond .ne 6, 3, 34, 0, 0, 0) from xlk (by decide +kernel)) rfl rfl q0 ⟨fun c => ?_, fun c => ?_⟩
      · replace t := t.1 c
        refine xw_iload_n (n := 35) (show xlook 192 34 = some (34, .iload_n 3, 1, 0, 0, 0, 0) from xlk (by decide +kernel)) rfl rfl ?_
        refine xw_istore (n := 37) (show xlook 192 35 = some (35, .istore 4, 2, 0, 0, 0, 0) from xlk (by decide +kernel)) rfl (ls' := [.ref (131), vi (x1), vi (x2), vi (x3), vi (x3)]) (Nat.le_of_ble_eq_true rfl) rfl ?_
        exact t hG3
      · replace t := t.2 c
        refine xw_bipush (n := 33) (show xlook 192 31 = some (31, .bipush (-3), 2, 0, 0, 0, 0) from xlk (by decide +kernel)) rfl (by decide) ?_
        exact xw_ireturn hG3 (show xlook 192 33 = some (33, .ireturn, 1, 0, 0, 0, 0) from xlk (by decide +kernel)) rfl (t hG3)
    · replace t := t.2 c
      refine xw_bipush (n := 23) (show xlook 192 21 = some (21, .bipush (-2), 2, 0, 0, 0, 0) from xlk (by decide +kernel)) rfl (by decide) ?_
      exact xw_ireturn hG2 (show xlook 192 23 = some (23, .ireturn, 1, 0, 0, 0, 0) from xlk (by decide +kernel)) rfl (t hG2)
theorem m192 {X : List Int32} {d : Nat} {F : XF} {Q : Int → XF → Prop} {x1 : Int} {x2 : Int} {x3 : Int} (hPT : xPT F)  (t : ∃ (j1 : Nat), j1 < d ∧ xMI X j1 187 [.ref (131), vi (x1)] (xup (F) (131) 0 (0)) (fun (y1 : Int) (G1 : XF) => (inR (y1) ∧ ((((y1) = (0)) → (xPT (G1) → Q ((-2)) (G1))) ∧ (¬ ((y1) = (0)) → (∃ (j2 : Nat), j2 < d ∧ xMI X j2 185 [.ref (131), vi (x2)] (G1) (fun (y2 : Int) (G2 : XF) => (inR (y2) ∧ (((¬ (y2) = (0)) → (∃ (j3 : Nat), j3 < d ∧ xMI X j3 191 [vi (x3)] (G2) (fun (y3 : Int) (G3 : XF) => (inR (y3) ∧ (((¬ (y3) = (0)) → (xPT (G3) → xW X d 192 37 [.ref (131), vi (x1), vi (x2), vi (x3), vi (x3)] [] (G3) (xqi Q))) ∧ (¬ (¬ (y3) = (0)) → (xPT (G3) → Q ((-3)) (G3)))))))) ∧ (¬ (¬ (y2) = (0)) → (xPT (G2) → Q ((-2)) (G2)))))))))))) : xMI X d 192 [.ref (131), vi (x1), vi (x2), vi (x3)] F Q := by
  show xW X d 192 0 [.ref (131), vi (x1), vi (x2), vi (x3), xU0] [] F (xqi Q)
  exact s192_0 hPT  t

theorem s192_37 {X : List Int32} {d : Nat} {F : XF} {Q : Int → XF → Prop} {x1 : Int} {x2 : Int} {x3 : Int} {x4 : Int} (hPT : xPT F)  (t : inR (x4) ∧ ((((2000) ≤ (x4)) → (xPT (F) → Q ((-1)) (F))) ∧ (¬ ((2000) ≤ (x4)) → (∃ (j1 : Nat), j1 < d ∧ xMI X j1 169 [.ref (131), vi (x1), vi (x2), vi (x4)] (F) (fun (y1 : Int) (G1 : XF) => (inR (y1) ∧ ((((y1) = (0)) → (xPT (G1) → xW X d 192 37 [.ref (131), vi (x1), vi (x2), vi (x3), vi (x4 + 1)] [] (G1) (xqi Q))) ∧ (¬ ((y1) = (0)) → (xPT (G1) → Q (x4) (G1)))))))))) : xW X d 192 37 [.ref (131), vi (x1), vi (x2), vi (x3), vi (x4)] [] F (xqi Q) := by
  refine xw_iload (n := 39) (show xlook 192 37 = some (37, .iload 4, 2, 0, 0, 0, 0) from xlk (by decide +kernel)) rfl rfl ?_
  refine xw_sipush (n := 42) (show xlook 192 39 = some (39, .sipush 2000, 3, 0, 0, 0, 0) from xlk (by decide +kernel)) rfl (by decide) ?_
  obtain ⟨q0, t⟩ := t
  refine xw_icmp_ge (n := 45) (m := 65) (show xlook 192 42 = some (42, .if_icmp .ge 23, 3, 65, 0, 0, 0) from xlk (by decide +kernel)) rfl rfl q0 ⟨by decide, by decide⟩ ⟨fun c => ?_, fun c => ?_⟩
  · replace t := t.1 c
    refine xw_iconst (n := 66) (show xlook 192 65 = some (65, .iconst (-1), 1, 0, 0, 0, 0) from xlk (by decide +kernel)) rfl ?_
    exact xw_ireturn hPT (show xlook 192 66 = some (66, .ireturn, 1, 0, 0, 0, 0) from xlk (by decide +kernel)) rfl (t hPT)
  · replace t := t.2 c
    refine xw_aload_n (n := 46) (show xlook 192 45 = some (45, .aload_n 0, 1, 0, 0, 0, 0) from xlk (by decide +kernel)) rfl rfl ?_
    refine xw_iload_n (n := 47) (show xlook 192 46 = some (46, .iload_n 1, 1, 0, 0, 0, 0) from xlk (by decide +kernel)) rfl rfl ?_
    refine xw_iload_n (n := 48) (show xlook 192 47 = some (47, .iload_n 2, 1, 0, 0, 0, 0) from xlk (by decide +kernel)) rfl rfl ?_
    refine xw_iload (n := 50) (show xlook 192 48 = some (48, .iload 4, 2, 0, 0, 0, 0) from xlk (by decide +kernel)) rfl rfl ?_
    obtain ⟨j1, hj1, rr1, G1, hm1, hG1, t⟩ := t
    obtain ⟨y1, rfl, t⟩ := t
    refine xw_callv (dk := j1) (o := 131) (as := [vi (x1), vi (x2), vi (x4)]) (show xlook 192 50 = some (50, .invokevirtual 224, 3, 169, 4, 0, 183) from xlk (by decide +kernel)) (by decide) hj1 ⟨Nat.le_of_ble_eq_true rfl, Nat.le_of_ble_eq_true rfl, Nat.le_of_ble_eq_true rfl⟩ ⟨xob_12.1, xob_12.2, by decide⟩ rfl hm1 (n := 53) rfl ?_
    show xW X d 192 53 [.ref (131), vi (x1), vi (x2), vi (x3), vi (x4)] [vi (y1)] G1 (xqi Q)
    obtain ⟨q0, t⟩ := t
    refine xw_if_eq (n := 56) (m := 59) (show xlook 192 53 = some (53, .ifCond .eq 6, 3, 59, 0, 0, 0) from xlk (by decide +kernel)) rfl rfl q0 ⟨fun c => ?_, fun c => ?_⟩
    · replace t := t.1 c
      refine xw_iinc (n := 62) (show xlook 192 59 = some (59, .iinc 4 1, 3, 0, 0, 0, 0) from xlk (by decide +kernel)) rfl (ls' := [.ref (131), vi (x1), vi (x2), vi (x3), vi (x4 + 1)]) rfl rfl ?_
      refine xw_goto (m := 37) (show xlook 192 62 = some (62, .goto (-25), 3, 37, 0, 0, 0) from xlk (by decide +kernel)) rfl ?_
      exact t hG1
    · replace t := t.2 c
      refine xw_iload (n := 58) (show xlook 192 56 = some (56, .iload 4, 2, 0, 0, 0, 0) from xlk (by decide +kernel)) rfl rfl ?_
      exact xw_ireturn hG1 (show xlook 192 58 = some (58, .ireturn, 1, 0, 0, 0, 0) from xlk (by decide +kernel)) rfl (t hG1)

theorem s193_0 {X : List Int32} {d : Nat} {F : XF} {Q : Int → XF → Prop} {x1 : Int} {x2 : Int} (hPT : xPT F)  (t : ∃ (j1 : Nat), j1 < d ∧ xMI X j1 185 [.ref (131), vi (x1)] (xup (F) (131) 0 (0)) (fun (y1 : Int) (G1 : XF) => (inR (y1) ∧ (((¬ (y1) = (0)) → (∃ (j2 : Nat), j2 < d ∧ xMI X j2 191 [vi (x2)] (G1) (fun (y2 : Int) (G2 : XF) => (inR (y2) ∧ (((¬ (y2) = (0)) → (∃ (j3 : Nat), j3 < d ∧ xMI X j3 167 [.ref (131), vi (x1), vi (x2)] (G2) (fun (y3 : Int) (G3 : XF) => (inR (y3) ∧ ((((y3) = (0)) → (xPT (G3) → Q (0) (G3))) ∧ (¬ ((y3) = (0)) → (xPT (G3) → Q (1) (G3)))))))) ∧ (¬ (¬ (y2) = (0)) → (xPT (G2) → Q ((-3)) (G2)))))))) ∧ (¬ (¬ (y1) = (0)) → (xPT (G1) → Q ((-2)) (G1))))))) : xW X d 193 0 [.ref (131), vi (x1), vi (x2)] [] F (xqi Q) := by
  refine xw_aload_n (n := 1) (show xlook 193 0 = some (0, .aload_n 0, 1, 0, 0, 0, 0) from xlk (by decide +kernel)) rfl rfl ?_
  refine xw_iconst (n := 2) (show xlook 193 1 = some (1, .iconst 0, 1, 0, 0, 0, 0) from xlk (by decide +kernel)) rfl ?_
  refine xw_puti (show xlook 193 2 = some (2, .putfield 1, 3, 12, 0, 0, 235) from xlk (by decide +kernel)) (xobf xob_12 (by decide) (by decide)) rfl (n := 5) rfl ?_
  refine xw_aload_n (n := 6) (show xlook 193 5 = some (5, .aload_n 0, 1, 0, 0, 0, 0) from xlk (by decide +kernel)) rfl rfl ?_
  refine xw_iload_n (n := 7) (show xlook 193 6 = some (6, .iload_n 1, 1, 0, 0, 0, 0) from xlk (by decide +kernel)) rfl rfl ?_
  obtain ⟨j1, hj1, rr1, G1, hm1, hG1, t⟩ := t
  obtain ⟨y1, rfl, t⟩ := t
  refine xw_callv (dk := j1) (o := 131) (as := [vi (x1)]) (show xlook 193 7 = some (7, .invokevirtual 257, 3, 185, 2, 0, 192) from xlk (by decide +kernel)) (by decide) hj1 ⟨Nat.le_of_ble_eq_true rfl, Nat.le_of_ble_eq_true rfl, Nat.le_of_ble_eq_true rfl⟩ ⟨xob_12.1, xob_12.2, by decide⟩ rfl hm1 (n := 10) rfl ?_
  show xW X d 193 10 [.ref (131), vi (x1), vi (x2)] [vi (y1)] G1 (xqi Q)
  obtain ⟨q0, t⟩ := t
  refine xw_if_ne (n := 13) (m := 16) (show xlook 193 10 = some (10, .ifCond .ne 6, 3, 16, 0, 0, 0) from xlk (by decide +kernel)) rfl rfl q0 ⟨fun c => ?_, fun c => ?_⟩
  · replace t := t.1 c
    refine xw_iload_n (n := 17) (show xlook 193 16 = some (16, .iload_n 2, 1, 0, 0, 0, 0) from xlk (by decide +kernel)) rfl rfl ?_
    obtain ⟨j2, hj2, rr2, G2, hm2, hG2, t⟩ := t
    obtain ⟨y2, rfl, t⟩ := t
    refine xw_calls (dk := j2) (as := [vi (x2)]) (show xlook 193 17 = some (17, .invokestatic 265, 3, 191, 1, 0, 194) from xlk (by decide +kernel)) (by decide) hj2 ⟨Nat.le_of_ble_eq_true rfl, Nat.le_of_ble_eq_true rfl, Nat.le_of_ble_eq_true rfl, by decide⟩ rfl hm2 (n := 20) rfl ?_
    show xW X d 193 20 [.ref (131), vi (x1), vi (x2)] [vi (y2)] G2 (xqi Q)
    obtain ⟨q0, t⟩ := t
    refine xw_if_ne (n := 23) (m := 26) (show xlook 193 20 = some (20, .ifCond .ne 6, 3, 26, 0, 0, 0) from xlk (by decide +kernel)) rfl rfl q0 ⟨fun c => ?_, fun c => ?_⟩
    · replace t := t.1 c
      refine xw_aload_n (n := 27) (show xlook 193 26 = some (26, .aload_n 0, 1, 0, 0, 0, 0) from xlk (by decide +kernel)) rfl rfl ?_
      refine xw_iload_n (n := 28) (show xlook 193 27 = some (27, .iload_n 1, 1, 0, 0, 0, 0) from xlk (by decide +kernel)) rfl rfl ?_
      refine xw_iload_n (n := 29) (show xlook 193 28 = some (28, .iload_n 2, 1, 0, 0, 0, 0) from xlk (by decide +kernel)) rfl rfl ?_
      obtain ⟨j3, hj3, rr3, G3, hm3, hG3, t⟩ := t
      obtain ⟨y3, rfl, t⟩ := t
      refine xw_callv (dk := j3) (o := 131) (as := [vi (x1), vi (x2)]) (show xlook 193 29 = some (29, .invokevirtual 194, 3, 167, 3, 0, 176) from xlk (by decide +kernel)) (by decide) hj3 ⟨Nat.le_of_ble_eq_true rfl, Nat.le_of_ble_eq_true rfl, Nat.le_of_ble_eq_true rfl⟩ ⟨xob_12.1, xob_12.2, by decide⟩ rfl hm3 (n := 32) rfl ?_
      show xW X d 193 32 [.ref (131), vi (x1), vi (x2)] [vi (y3)] G3 (xqi Q)
      obtain ⟨q0, t⟩ := t
      refine xw_if_eq (n := 35) (m := 39) (show xlook 193 32 = some (32, .ifCond .eq 7, 3, 39, 0, 0, 0) from xlk (by decide +kernel)) rfl rfl q0 ⟨fun c => ?_, fun c => ?_⟩
      · replace t := t.1 c
        refine xw_iconst (n := 40) (show xlook 193 39 = some (39, .iconst 0, 1, 0, 0, 0, 0) from xlk (by decide +kernel)) rfl ?_
        exact xw_ireturn hG3 (show xlook 193 40 = some (40, .ireturn, 1, 0, 0, 0, 0) from xlk (by decide +kernel)) rfl (t hG3)
      · replace t := t.2 c
        refine xw_iconst (n := 36) (show xlook 193 35 = some (35, .iconst 1, 1, 0, 0, 0, 0) from xlk (by decide +kernel)) rfl ?_
        refine xw_goto (m := 40) (show xlook 193 36 = some (36, .goto 4, 3, 40, 0, 0, 0) from xlk (by decide +kernel)) rfl ?_
        exact xw_ireturn hG3 (show xlook 193 40 = some (40, .ireturn, 1, 0, 0, 0, 0) from xlk (by decide +kernel)) rfl (t hG3)
    · replace t := t.2 c
      refine xw_bipush (n := 25) (show xlook 193 23 = some (23, .bipush (-3), 2, 0, 0, 0, 0) from xlk (by decide +kernel)) rfl (by decide) ?_
      exact xw_ireturn hG2 (show xlook 193 25 = some (25, .ireturn, 1, 0, 0, 0, 0) from xlk (by decide +kernel)) rfl (t hG2)
  · replace t := t.2 c
    refine xw_bipush (n := 15) (show xlook 193 13 = some (13, .bipush (-2), 2, 0, 0, 0, 0) from xlk (by decide +kernel)) rfl (by decide) ?_
    exact xw_ireturn hG1 (show xlook 193 15 = some (15, .ireturn, 1, 0, 0, 0, 0) from xlk (by decide +kernel)) rfl (t hG1)
theorem m193 {X : List Int32} {d : Nat} {F : XF} {Q : Int → XF → Prop} {x1 : Int} {x2 : Int} (hPT : xPT F)  (t : ∃ (j1 : Nat), j1 < d ∧ xMI X j1 185 [.ref (131), vi (x1)] (xup (F) (131) 0 (0)) (fun (y1 : Int) (G1 : XF) => (inR (y1) ∧ (((¬ (y1) = (0)) → (∃ (j2 : Nat), j2 < d ∧ xMI X j2 191 [vi (x2)] (G1) (fun (y2 : Int) (G2 : XF) => (inR (y2) ∧ (((¬ (y2) = (0)) → (∃ (j3 : Nat), j3 < d ∧ xMI X j3 167 [.ref (131), vi (x1), vi (x2)] (G2) (fun (y3 : Int) (G3 : XF) => (inR (y3) ∧ ((((y3) = (0)) → (xPT (G3) → Q (0) (G3))) ∧ (¬ ((y3) = (0)) → (xPT (G3) → Q (1) (G3)))))))) ∧ (¬ (¬ (y2) = (0)) → (xPT (G2) → Q ((-3)) (G2)))))))) ∧ (¬ (¬ (y1) = (0)) → (xPT (G1) → Q ((-2)) (G1))))))) : xMI X d 193 [.ref (131), vi (x1), vi (x2)] F Q := by
  show xW X d 193 0 [.ref (131), vi (x1), vi (x2)] [] F (xqi Q)
  exact s193_0 hPT  t

theorem s194_0 {X : List Int32} {d : Nat} {F : XF} {Q : Int → XF → Prop} {x1 : Int} {x2 : Int} {x3 : Int} {w4 : Value} {w5 : Value} {w6 : Value} {w7 : Value} (hPT : xPT F)  (t : ∃ (j1 : Nat), j1 < d ∧ xMI X j1 185 [.ref (131), vi (x1)] (xup (F) (131) 0 (0)) (fun (y1 : Int) (G1 : XF) => (inR (y1) ∧ ((((y1) = (0)) → (xPT (G1) → Q ((-2)) (G1))) ∧ (¬ ((y1) = (0)) → (inR (x2) ∧ ((((x2) = ((-1))) → (xPT (G1) → xW X d 194 31 [.ref (131), vi (x1), vi (x2), vi (x3), w4, w5, w6, w7] [] (G1) (xqi Q))) ∧ (¬ ((x2) = ((-1))) → ((inR (x3)) ∧ (∃ (j2 : Nat), j2 < d ∧ xMI X j2 132 [vl (x3), vl (0), vl (1)] (G1) (fun (y2 : Int) (G2 : XF) => (inR (y2) ∧ (((¬ (y2) = (0)) → (xPT (G2) → xW X d 194 31 [.ref (131), vi (x1), vi (x2), vi (x3), w4, w5, w6, w7] [] (G2) (xqi Q))) ∧ (¬ (¬ (y2) = (0)) → (xPT (G2) → Q ((-2)) (G2)))))))))))))))) : xW X d 194 0 [.ref (131), vi (x1), vi (x2), vi (x3), w4, w5, w6, w7] [] F (xqi Q) := by
  refine xw_aload_n (n := 1) (show xlook 194 0 = some (0, .aload_n 0, 1, 0, 0, 0, 0) from xlk (by decide +kernel)) rfl rfl ?_
  refine xw_iconst (n := 2) (show xlook 194 1 = some (1, .iconst 0, 1, 0, 0, 0, 0) from xlk (by decide +kernel)) rfl ?_
  refine xw_puti (show xlook 194 2 = some (2, .putfield 1, 3, 12, 0, 0, 235) from xlk (by decide +kernel)) (xobf xob_12 (by decide) (by decide)) rfl (n := 5) rfl ?_
  refine xw_aload_n (n := 6) (show xlook 194 5 = some (5, .aload_n 0, 1, 0, 0, 0, 0) from xlk (by decide +kernel)) rfl rfl ?_
  refine xw_iload_n (n := 7) (show xlook 194 6 = some (6, .iload_n 1, 1, 0, 0, 0, 0) from xlk (by decide +kernel)) rfl rfl ?_
  obtain ⟨j1, hj1, rr1, G1, hm1, hG1, t⟩ := t
  obtain ⟨y1, rfl, t⟩ := t
  refine xw_callv (dk := j1) (o := 131) (as := [vi (x1)]) (show xlook 194 7 = some (7, .invokevirtual 257, 3, 185, 2, 0, 192) from xlk (by decide +kernel)) (by decide) hj1 ⟨Nat.le_of_ble_eq_true rfl, Nat.le_of_ble_eq_true rfl, Nat.le_of_ble_eq_true rfl⟩ ⟨xob_12.1, xob_12.2, by decide⟩ rfl hm1 (n := 10) rfl ?_
  show xW X d 194 10 [.ref (131), vi (x1), vi (x2), vi (x3), w4, w5, w6, w7] [vi (y1)] G1 (xqi Q)
  obtain ⟨q0, t⟩ := t
  refine xw_if_eq (n := 13) (m := 28) (show xlook 194 10 = some (10, .ifCond .eq 18, 3, 28, 0, 0, 0) from xlk (by decide +kernel)) rfl rfl q0 ⟨fun c => ?_, fun c => ?_⟩
  · replace t := t.1 c
    refine xw_bipush (n := 30) (show xlook 194 28 = some (28, .bipush (-2), 2, 0, 0, 0, 0) from xlk (by decide +kernel)) rfl (by decide) ?_
    exact xw_ireturn hG1 (show xlook 194 30 = some (30, .ireturn, 1, 0, 0, 0, 0) from xlk (by decide +kernel)) rfl (t hG1)
  · replace t := t.2 c
    refine xw_iload_n (n := 14) (show xlook 194 13 = some (13, .iload_n 2, 1, 0, 0, 0, 0) from xlk (by decide +kernel)) rfl rfl ?_
    refine xw_iconst (n := 15) (show xlook 194 14 = some (14, .iconst (-1), 1, 0, 0, 0, 0) from xlk (by decide +kernel)) rfl ?_
    obtain ⟨q0, t⟩ := t
    refine xw_icmp_eq (n := 18) (m := 31) (show xlook 194 15 = some (15, .if_icmp .eq 16, 3, 31, 0, 0, 0) from xlk (by decide +kernel)) rfl rfl q0 ⟨by decide, by decide⟩ ⟨fun c => ?_, fun c => ?_⟩
    · replace t := t.1 c
      exact t hG1
    · replace t := t.2 c
      refine xw_iload_n (n := 19) (show xlook 194 18 = some (18, .iload_n 3, 1, 0, 0, 0, 0) from xlk (by decide +kernel)) rfl rfl ?_
      obtain ⟨q1, t⟩ := t
      refine xw_i2l (n := 20) (show xlook 194 19 = some (19, .i2l, 1, 0, 0, 0, 0) from xlk (by decide +kernel)) rfl q1 ?_
      refine xw_lconst (n := 21) (show xlook 194 20 = some (20, .lconst 0, 1, 0, 0, 0, 0) from xlk (by decide +kernel)) rfl (k := 0) (by decide) ?_
      refine xw_lconst (n := 22) (show xlook 194 21 = some (21, .lconst 1, 1, 0, 0, 0, 0) from xlk (by decide +kernel)) rfl (k := 1) (by decide) ?_
      obtain ⟨j2, hj2, rr2, G2, hm2, hG2, t⟩ := t
      obtain ⟨y2, rfl, t⟩ := t
      refine xw_calls (dk := j2) (as := [vl (x3), vl (0), vl (1)]) (show xlook 194 22 = some (22, .invokestatic 83, 3, 132, 3, 0, 151) from xlk (by decide +kernel)) (by decide) hj2 ⟨Nat.le_of_ble_eq_true rfl, Nat.le_of_ble_eq_true rfl, Nat.le_of_ble_eq_true rfl, by decide⟩ rfl hm2 (n := 25) rfl ?_
      show xW X d 194 25 [.ref (131), vi (x1), vi (x2), vi (x3), w4, w5, w6, w7] [vi (y2)] G2 (xqi Q)
      obtain ⟨q0, t⟩ := t
      refine xw_if_ne (n := 28) (m := 31) (show xlook 194 25 = some (25, .ifCond .ne 6, 3, 31, 0, 0, 0) from xlk (by decide +kernel)) rfl rfl q0 ⟨fun c => ?_, fun c => ?_⟩
      · replace t := t.1 c
        exact t hG2
      · replace t := t.2 c
        refine xw_bipush (n := 30) (show xlook 194 28 = some (28, .bipush (-2), 2, 0, 0, 0, 0) from xlk (by decide +kernel)) rfl (by decide) ?_
        exact xw_ireturn hG2 (show xlook 194 30 = some (30, .ireturn, 1, 0, 0, 0, 0) from xlk (by decide +kernel)) rfl (t hG2)
theorem m194 {X : List Int32} {d : Nat} {F : XF} {Q : Int → XF → Prop} {x1 : Int} {x2 : Int} {x3 : Int} (hPT : xPT F)  (t : ∃ (j1 : Nat), j1 < d ∧ xMI X j1 185 [.ref (131), vi (x1)] (xup (F) (131) 0 (0)) (fun (y1 : Int) (G1 : XF) => (inR (y1) ∧ ((((y1) = (0)) → (xPT (G1) → Q ((-2)) (G1))) ∧ (¬ ((y1) = (0)) → (inR (x2) ∧ ((((x2) = ((-1))) → (xPT (G1) → xW X d 194 31 [.ref (131), vi (x1), vi (x2), vi (x3), xU0, xU0, xU0, xU0] [] (G1) (xqi Q))) ∧ (¬ ((x2) = ((-1))) → ((inR (x3)) ∧ (∃ (j2 : Nat), j2 < d ∧ xMI X j2 132 [vl (x3), vl (0), vl (1)] (G1) (fun (y2 : Int) (G2 : XF) => (inR (y2) ∧ (((¬ (y2) = (0)) → (xPT (G2) → xW X d 194 31 [.ref (131), vi (x1), vi (x2), vi (x3), xU0, xU0, xU0, xU0] [] (G2) (xqi Q))) ∧ (¬ (¬ (y2) = (0)) → (xPT (G2) → Q ((-2)) (G2)))))))))))))))) : xMI X d 194 [.ref (131), vi (x1), vi (x2), vi (x3)] F Q := by
  show xW X d 194 0 [.ref (131), vi (x1), vi (x2), vi (x3), xU0, xU0, xU0, xU0] [] F (xqi Q)
  exact s194_0 hPT  t

theorem s194_31 {X : List Int32} {d : Nat} {F : XF} {Q : Int → XF → Prop} {x1 : Int} {x2 : Int} {x3 : Int} {w4 : Value} {w5 : Value} {w6 : Value} {w7 : Value} (hPT : xPT F)  (t : inR (x2) ∧ (((((-1)) ≤ (x2)) → (xPT (F) → xW X d 194 51 [.ref (131), vi (x1), vi (x2), vi (x3), vi ((-1)), vi (0), vi (0), vi (0)] [] (F) (xqi Q))) ∧ (¬ (((-1)) ≤ (x2)) → (xPT (F) → Q ((-3)) (F))))) : xW X d 194 31 [.ref (131), vi (x1), vi (x2), vi (x3), w4, w5, w6, w7] [] F (xqi Q) := by
  refine xw_iload_n (n := 32) (show xlook 194 31 = some (31, .iload_n 2, 1, 0, 0, 0, 0) from xlk (by decide +kernel)) rfl rfl ?_
  refine xw_iconst (n := 33) (show xlook 194 32 = some (32, .iconst (-1), 1, 0, 0, 0, 0) from xlk (by decide +kernel)) rfl ?_
  obtain ⟨q0, t⟩ := t
  refine xw_icmp_ge (n := 36) (m := 39) (show xlook 194 33 = some (33, .if_icmp .ge 6, 3, 39, 0, 0, 0) from xlk (by decide +kernel)) rfl rfl q0 ⟨by decide, by decide⟩ ⟨fun c => ?_, fun c => ?_⟩
  · replace t := t.1 c
    refine xw_iconst (n := 40) (show xlook 194 39 = some (39, .iconst (-1), 1, 0, 0, 0, 0) from xlk (by decide +kernel)) rfl ?_
    refine xw_istore (n := 42) (show xlook 194 40 = some (40, .istore 4, 2, 0, 0, 0, 0) from xlk (by decide +kernel)) rfl (ls' := [.ref (131), vi (x1), vi (x2), vi (x3), vi ((-1)), w5, w6, w7]) (Nat.le_of_ble_eq_true rfl) rfl ?_
    refine xw_iconst (n := 43) (show xlook 194 42 = some (42, .iconst 0, 1, 0, 0, 0, 0) from xlk (by decide +kernel)) rfl ?_
    refine xw_istore (n := 45) (show xlook 194 43 = some (43, .istore 5, 2, 0, 0, 0, 0) from xlk (by decide +kernel)) rfl (ls' := [.ref (131), vi (x1), vi (x2), vi (x3), vi ((-1)), vi (0), w6, w7]) (Nat.le_of_ble_eq_true rfl) rfl ?_
    refine xw_iconst (n := 46) (show xlook 194 45 = some (45, .iconst 0, 1, 0, 0, 0, 0) from xlk (by decide +kernel)) rfl ?_
    refine xw_istore (n := 48) (show xlook 194 46 = some (46, .istore 6, 2, 0, 0, 0, 0) from xlk (by decide +kernel)) rfl (ls' := [.ref (131), vi (x1), vi (x2), vi (x3), vi ((-1)), vi (0), vi (0), w7]) (Nat.le_of_ble_eq_true rfl) rfl ?_
    refine xw_iconst (n := 49) (show xlook 194 48 = some (48, .iconst 0, 1, 0, 0, 0, 0) from xlk (by decide +kernel)) rfl ?_
    refine xw_istore (n := 51) (show xlook 194 49 = some (49, .istore 7, 2, 0, 0, 0, 0) from xlk (by decide +kernel)) rfl (ls' := [.ref (131), vi (x1), vi (x2), vi (x3), vi ((-1)), vi (0), vi (0), vi (0)]) (Nat.le_of_ble_eq_true rfl) rfl ?_
    exact t hPT
  · replace t := t.2 c
    refine xw_bipush (n := 38) (show xlook 194 36 = some (36, .bipush (-3), 2, 0, 0, 0, 0) from xlk (by decide +kernel)) rfl (by decide) ?_
    exact xw_ireturn hPT (show xlook 194 38 = some (38, .ireturn, 1, 0, 0, 0, 0) from xlk (by decide +kernel)) rfl (t hPT)

theorem s194_51 {X : List Int32} {d : Nat} {F : XF} {Q : Int → XF → Prop} {x1 : Int} {x2 : Int} {x3 : Int} {x4 : Int} {x5 : Int} {x6 : Int} {x7 : Int} (hPT : xPT F)  (t : inR (x7) ∧ ((((2000) ≤ (x7)) → (inR (x2) ∧ (((¬ (x2) = ((-1))) → (inR (x2) ∧ inR (x4) ∧ ((((x2) ≤ (x4)) → (inR (x3) ∧ (((¬ (x3) = (0)) → (xPT (F) → Q (x6) (F))) ∧ (¬ (¬ (x3) = (0)) → (xPT (F) → Q (x5) (F)))))) ∧ (¬ ((x2) ≤ (x4)) → (xPT (F) → Q ((-1)) (F)))))) ∧ (¬ (¬ (x2) = ((-1))) → (xPT (F) → Q ((x4) + (1)) (F)))))) ∧ (¬ ((2000) ≤ (x7)) → (∃ (j1 : Nat), j1 < d ∧ xMI X j1 167 [.ref (131), vi (x1), vi (x7)] (F) (fun (y1 : Int) (G1 : XF) => (inR (y1) ∧ (((¬ (y1) = (0)) → (inR (x7) ∧ ((((x7) = (0)) → (xPT (G1) → xW X d 194 89 [.ref (131), vi (x1), vi (x2), vi (x3), vi (x4), vi (x5), vi (x6), vi (x7)] [] (G1) (xqi Q))) ∧ (¬ ((x7) = (0)) → (∃ (j2 : Nat), j2 < d ∧ xMI X j2 167 [.ref (131), vi (x1), vi ((x7) - (1))] (G1) (fun (y2 : Int) (G2 : XF) => (inR (y2) ∧ (((¬ (y2) = (0)) → (xPT (G2) → xW X d 194 107 [.ref (131), vi (x1), vi (x2), vi (x3), vi (x4), vi (x5), vi (x6), vi (x7)] [] (G2) (xqi Q))) ∧ (¬ (¬ (y2) = (0)) → (xPT (G2) → xW X d 194 89 [.ref (131), vi (x1), vi (x2), vi (x3), vi (x4), vi (x5), vi (x6), vi (x7)] [] (G2) (xqi Q))))))))))) ∧ (¬ (¬ (y1) = (0)) → (xPT (G1) → xW X d 194 51 [.ref (131), vi (x1), vi (x2), vi (x3), vi (x4), vi (x5), vi (x6), vi (x7 + 1)] [] (G1) (xqi Q)))))))))) : xW X d 194 51 [.ref (131), vi (x1), vi (x2), vi (x3), vi (x4), vi (x5), vi (x6), vi (x7)] [] F (xqi Q) := by
  refine xw_iload (n := 53) (show xlook 194 51 = some (51, .iload 7, 2, 0, 0, 0, 0) from xlk (by decide +kernel)) rfl rfl ?_
  refine xw_sipush (n := 56) (show xlook 194 53 = some (53, .sipush 2000, 3, 0, 0, 0, 0) from xlk (by decide +kernel)) rfl (by decide) ?_
  obtain ⟨q0, t⟩ := t
  refine xw_icmp_ge (n := 59) (m := 129) (show xlook 194 56 = some (56, .if_icmp .ge 73, 3, 129, 0, 0, 0) from xlk (by decide +kernel)) rfl rfl q0 ⟨by decide, by decide⟩ ⟨fun c => ?_, fun c => ?_⟩
  · replace t := t.1 c
    refine xw_iload_n (n := 130) (show xlook 194 129 = some (129, .iload_n 2, 1, 0, 0, 0, 0) from xlk (by decide +kernel)) rfl rfl ?_
    refine xw_iconst (n := 131) (show xlook 194 130 = some (130, .iconst (-1), 1, 0, 0, 0, 0) from xlk (by decide +kernel)) rfl ?_
    obtain ⟨q0, t⟩ := t
    refine xw_icmp_ne (n := 134) (m := 139) (show xlook 194 131 = some (131, .if_icmp .ne 8, 3, 139, 0, 0, 0) from xlk (by decide +kernel)) rfl rfl q0 ⟨by decide, by decide⟩ ⟨fun c => ?_, fun c => ?_⟩
    · replace t := t.1 c
      refine xw_iload_n (n := 140) (show xlook 194 139 = some (139, .iload_n 2, 1, 0, 0, 0, 0) from xlk (by decide +kernel)) rfl rfl ?_
      refine xw_iload (n := 142) (show xlook 194 140 = some (140, .iload 4, 2, 0, 0, 0, 0) from xlk (by decide +kernel)) rfl rfl ?_
      obtain ⟨q0, q1, t⟩ := t
      refine xw_icmp_le (n := 145) (m := 149) (show xlook 194 142 = some (142, .if_icmp .le 7, 3, 149, 0, 0, 0) from xlk (by decide +kernel)) rfl rfl q0 q1 ⟨fun c => ?_, fun c => ?_⟩
      · replace t := t.1 c
        refine xw_iload_n (n := 150) (show xlook 194 149 = some (149, .iload_n 3, 1, 0, 0, 0, 0) from xlk (by decide +kernel)) rfl rfl ?_
        obtain ⟨q0, t⟩ := t
        refine xw_if_ne (n := 153) (m := 158) (show xlook 194 150 = some (150, .ifCond .ne 8, 3, 158, 0, 0, 0) from xlk (by decide +kernel)) rfl rfl q0 ⟨fun c => ?_, fun c => ?_⟩
        · replace t := t.1 c
          refine xw_iload (n := 160) (show xlook 194 158 = some (158, .iload 6, 2, 0, 0, 0, 0) from xlk (by decide +kernel)) rfl rfl ?_
          exact xw_ireturn hPT (show xlook 194 160 = some (160, .ireturn, 1, 0, 0, 0, 0) from xlk (by decide +kernel)) rfl (t hPT)
        · replace t := t.2 c
          refine xw_iload (n := 155) (show xlook 194 153 = some (153, .iload 5, 2, 0, 0, 0, 0) from xlk (by decide +kernel)) rfl rfl ?_
          refine xw_goto (m := 160) (show xlook 194 155 = some (155, .goto 5, 3, 160, 0, 0, 0) from xlk (by decide +kernel)) rfl ?_
          exact xw_ireturn hPT (show xlook 194 160 = some (160, .ireturn, 1, 0, 0, 0, 0) from xlk (by decide +kernel)) rfl (t hPT)
      · replace t := t.2 c
        refine xw_iconst (n := 146) (show xlook 194 145 = some (145, .iconst (-1), 1, 0, 0, 0, 0) from xlk (by decide +kernel)) rfl ?_
        refine xw_goto (m := 160) (show xlook 194 146 = some (146, .goto 14, 3, 160, 0, 0, 0) from xlk (by decide +kernel)) rfl ?_
        exact xw_ireturn hPT (show xlook 194 160 = some (160, .ireturn, 1, 0, 0, 0, 0) from xlk (by decide +kernel)) rfl (t hPT)
    · replace t := t.2 c
      refine xw_iload (n := 136) (show xlook 194 134 = some (134, .iload 4, 2, 0, 0, 0, 0) from xlk (by decide +kernel)) rfl rfl ?_
      refine xw_iconst (n := 137) (show xlook 194 136 = some (136, .iconst 1, 1, 0, 0, 0, 0) from xlk (by decide +kernel)) rfl ?_
      refine xw_iadd (n := 138) (show xlook 194 137 = some (137, .iadd, 1, 0, 0, 0, 0) from xlk (by decide +kernel)) rfl ?_
      exact xw_ireturn hPT (show xlook 194 138 = some (138, .ireturn, 1, 0, 0, 0, 0) from xlk (by decide +kernel)) rfl (t hPT)
  · replace t := t.2 c
    refine xw_aload_n (n := 60) (show xlook 194 59 = some (59, .aload_n 0, 1, 0, 0, 0, 0) from xlk (by decide +kernel)) rfl rfl ?_
    refine xw_iload_n (n := 61) (show xlook 194 60 = some (60, .iload_n 1, 1, 0, 0, 0, 0) from xlk (by decide +kernel)) rfl rfl ?_
    refine xw_iload (n := 63) (show xlook 194 61 = some (61, .iload 7, 2, 0, 0, 0, 0) from xlk (by decide +kernel)) rfl rfl ?_
    obtain ⟨j1, hj1, rr1, G1, hm1, hG1, t⟩ := t
    obtain ⟨y1, rfl, t⟩ := t
    refine xw_callv (dk := j1) (o := 131) (as := [vi (x1), vi (x7)]) (show xlook 194 63 = some (63, .invokevirtual 194, 3, 167, 3, 0, 176) from xlk (by decide +kernel)) (by decide) hj1 ⟨Nat.le_of_ble_eq_true rfl, Nat.le_of_ble_eq_true rfl, Nat.le_of_ble_eq_true rfl⟩ ⟨xob_12.1, xob_12.2, by decide⟩ rfl hm1 (n := 66) rfl ?_
    show xW X d 194 66 [.ref (131), vi (x1), vi (x2), vi (x3), vi (x4), vi (x5), vi (x6), vi (x7)] [vi (y1)] G1 (xqi Q)
    obtain ⟨q0, t⟩ := t
    refine xw_if_ne (n := 69) (m := 72) (show xlook 194 66 = some (66, .ifCond .ne 6, 3, 72, 0, 0, 0) from xlk (by decide +kernel)) rfl rfl q0 ⟨fun c => ?_, fun c => ?_⟩
    · replace t := t.1 c
      refine xw_iload (n := 74) (show xlook 194 72 = some (72, .iload 7, 2, 0, 0, 0, 0) from xlk (by decide +kernel)) rfl rfl ?_
      obtain ⟨q0, t⟩ := t
      refine xw_if_eq (n := 77) (m := 89) (show xlook 194 74 = some (74, .ifCond .eq 15, 3, 89, 0, 0, 0) from xlk (by decide +kernel)) rfl rfl q0 ⟨fun c => ?_, fun c => ?_⟩
      · replace t := t.1 c
        exact t hG1
      · replace t := t.2 c
        refine xw_aload_n (n := 78) (show xlook 194 77 = some (77, .aload_n 0, 1, 0, 0, 0, 0) from xlk (by decide +kernel)) rfl rfl ?_
        refine xw_iload_n (n := 79) (show xlook 194 78 = some (78, .iload_n 1, 1, 0, 0, 0, 0) from xlk (by decide +kernel)) rfl rfl ?_
        refine xw_iload (n := 81) (show xlook 194 79 = some (79, .iload 7, 2, 0, 0, 0, 0) from xlk (by decide +kernel)) rfl rfl ?_
        refine xw_iconst (n := 82) (show xlook 194 81 = some (81, .iconst 1, 1, 0, 0, 0, 0) from xlk (by decide +kernel)) rfl ?_
        refine xw_isub (n := 83) (show xlook 194 82 = some (82, .isub, 1, 0, 0, 0, 0) from xlk (by decide +kernel)) rfl ?_
        obtain ⟨j2, hj2, rr2, G2, hm2, hG2, t⟩ := t
        obtain ⟨y2, rfl, t⟩ := t
        refine xw_callv (dk := j2) (o := 131) (as := [vi (x1), vi ((x7) - (1))]) (show xlook 194 83 = some (83, .invokevirtual 194, 3, 167, 3, 0, 176) from xlk (by decide +kernel)) (by decide) hj2 ⟨Nat.le_of_ble_eq_true rfl, Nat.le_of_ble_eq_true rfl, Nat.le_of_ble_eq_true rfl⟩ ⟨xob_12.1, xob_12.2, by decide⟩ rfl hm2 (n := 86) rfl ?_
        show xW X d 194 86 [.ref (131), vi (x1), vi (x2), vi (x3), vi (x4), vi (x5), vi (x6), vi (x7)] [vi (y2)] G2 (xqi Q)
        obtain ⟨q0, t⟩ := t
        refine xw_if_ne (n := 89) (m := 107) (show xlook 194 86 = some (86, .ifCond .ne 21, 3, 107, 0, 0, 0) from xlk (by decide +kernel)) rfl rfl q0 ⟨fun c => ?_, fun c => ?_⟩
        · replace t := t.1 c
          exact t hG2
        · replace t := t.2 c
          exact t hG2
    · replace t := t.2 c
      refine xw_goto (m := 123) (show xlook 194 69 = some (69, .goto 54, 3, 123, 0, 0, 0) from xlk (by decide +kernel)) rfl ?_
      refine xw_iinc (n := 126) (show xlook 194 123 = some (123, .iinc 7 1, 3, 0, 0, 0, 0) from xlk (by decide +kernel)) rfl (ls' := [.ref (131), vi (x1), vi (x2), vi (x3), vi (x4), vi (x5), vi (x6), vi (x7 + 1)]) rfl rfl ?_
      refine xw_goto (m := 51) (show xlook 194 126 = some (126, .goto (-75), 3, 51, 0, 0, 0) from xlk (by decide +kernel)) rfl ?_
      exact t hG1

theorem s194_89 {X : List Int32} {d : Nat} {F : XF} {Q : Int → XF → Prop} {x1 : Int} {x2 : Int} {x3 : Int} {x4 : Int} {x5 : Int} {x6 : Int} {x7 : Int} (hPT : xPT F)  (t : inR (x4 + 1) ∧ inR (x2) ∧ (((¬ (x4 + 1) = (x2)) → (xPT (F) → xW X d 194 107 [.ref (131), vi (x1), vi (x2), vi (x3), vi (x4 + 1), vi (x5), vi (x6), vi (x7)] [] (F) (xqi Q))) ∧ (¬ (¬ (x4 + 1) = (x2)) → (xPT (F) → xW X d 194 107 [.ref (131), vi (x1), vi (x2), vi (x3), vi (x4 + 1), vi (x7), vi (x6), vi (x7)] [] (F) (xqi Q))))) : xW X d 194 89 [.ref (131), vi (x1), vi (x2), vi (x3), vi (x4), vi (x5), vi (x6), vi (x7)] [] F (xqi Q) := by
  refine xw_iinc (n := 92) (show xlook 194 89 = some (89, .iinc 4 1, 3, 0, 0, 0, 0) from xlk (by decide +kernel)) rfl (ls' := [.ref (131), vi (x1), vi (x2), vi (x3), vi (x4 + 1), vi (x5), vi (x6), vi (x7)]) rfl rfl ?_
  refine xw_iload (n := 94) (show xlook 194 92 = some (92, .iload 4, 2, 0, 0, 0, 0) from xlk (by decide +kernel)) rfl rfl ?_
  refine xw_iload_n (n := 95) (show xlook 194 94 = some (94, .iload_n 2, 1, 0, 0, 0, 0) from xlk (by decide +kernel)) rfl rfl ?_
  obtain ⟨q0, q1, t⟩ := t
  refine xw_icmp_ne (n := 98) (m := 103) (show xlook 194 95 = some (95, .if_icmp .ne 8, 3, 103, 0, 0, 0) from xlk (by decide +kernel)) rfl rfl q0 q1 ⟨fun c => ?_, fun c => ?_⟩
  · replace t := t.1 c
    refine xw_iload (n := 105) (show xlook 194 103 = some (103, .iload 5, 2, 0, 0, 0, 0) from xlk (by decide +kernel)) rfl rfl ?_
    refine xw_istore (n := 107) (show xlook 194 105 = some (105, .istore 5, 2, 0, 0, 0, 0) from xlk (by decide +kernel)) rfl (ls' := [.ref (131), vi (x1), vi (x2), vi (x3), vi (x4 + 1), vi (x5), vi (x6), vi (x7)]) (Nat.le_of_ble_eq_true rfl) rfl ?_
    exact t hPT
  · replace t := t.2 c
    refine xw_iload (n := 100) (show xlook 194 98 = some (98, .iload 7, 2, 0, 0, 0, 0) from xlk (by decide +kernel)) rfl rfl ?_
    refine xw_goto (m := 105) (show xlook 194 100 = some (100, .goto 5, 3, 105, 0, 0, 0) from xlk (by decide +kernel)) rfl ?_
    refine xw_istore (n := 107) (show xlook 194 105 = some (105, .istore 5, 2, 0, 0, 0, 0) from xlk (by decide +kernel)) rfl (ls' := [.ref (131), vi (x1), vi (x2), vi (x3), vi (x4 + 1), vi (x7), vi (x6), vi (x7)]) (Nat.le_of_ble_eq_true rfl) rfl ?_
    exact t hPT

theorem s194_107 {X : List Int32} {d : Nat} {F : XF} {Q : Int → XF → Prop} {x1 : Int} {x2 : Int} {x3 : Int} {x4 : Int} {x5 : Int} {x6 : Int} {x7 : Int} (hPT : xPT F)  (t : inR (x4) ∧ inR (x2) ∧ (((¬ (x4) = (x2)) → (xPT (F) → xW X d 194 51 [.ref (131), vi (x1), vi (x2), vi (x3), vi (x4), vi (x5), vi ((x6) + (0)), vi (x7 + 1)] [] (F) (xqi Q))) ∧ (¬ (¬ (x4) = (x2)) → (xPT (F) → xW X d 194 51 [.ref (131), vi (x1), vi (x2), vi (x3), vi (x4), vi (x5), vi ((x6) + (1)), vi (x7 + 1)] [] (F) (xqi Q))))) : xW X d 194 107 [.ref (131), vi (x1), vi (x2), vi (x3), vi (x4), vi (x5), vi (x6), vi (x7)] [] F (xqi Q) := by
  refine xw_iload (n := 109) (show xlook 194 107 = some (107, .iload 6, 2, 0, 0, 0, 0) from xlk (by decide +kernel)) rfl rfl ?_
  refine xw_iload (n := 111) (show xlook 194 109 = some (109, .iload 4, 2, 0, 0, 0, 0) from xlk (by decide +kernel)) rfl rfl ?_
  refine xw_iload_n (n := 112) (show xlook 194 111 = some (111, .iload_n 2, 1, 0, 0, 0, 0) from xlk (by decide +kernel)) rfl rfl ?_
  obtain ⟨q0, q1, t⟩ := t
  refine xw_icmp_ne (n := 115) (m := 119) (show xlook 194 112 = some (112, .if_icmp .ne 7, 3, 119, 0, 0, 0) from xlk (by decide +kernel)) rfl rfl q0 q1 ⟨fun c => ?_, fun c => ?_⟩
  · replace t := t.1 c
    refine xw_iconst (n := 120) (show xlook 194 119 = some (119, .iconst 0, 1, 0, 0, 0, 0) from xlk (by decide +kernel)) rfl ?_
    refine xw_iadd (n := 121) (show xlook 194 120 = some (120, .iadd, 1, 0, 0, 0, 0) from xlk (by decide +kernel)) rfl ?_
    refine xw_istore (n := 123) (show xlook 194 121 = some (121, .istore 6, 2, 0, 0, 0, 0) from xlk (by decide +kernel)) rfl (ls' := [.ref (131), vi (x1), vi (x2), vi (x3), vi (x4), vi (x5), vi ((x6) + (0)), vi (x7)]) (Nat.le_of_ble_eq_true rfl) rfl ?_
    refine xw_iinc (n := 126) (show xlook 194 123 = some (123, .iinc 7 1, 3, 0, 0, 0, 0) from xlk (by decide +kernel)) rfl (ls' := [.ref (131), vi (x1), vi (x2), vi (x3), vi (x4), vi (x5), vi ((x6) + (0)), vi (x7 + 1)]) rfl rfl ?_
    refine xw_goto (m := 51) (show xlook 194 126 = some (126, .goto (-75), 3, 51, 0, 0, 0) from xlk (by decide +kernel)) rfl ?_
    exact t hPT
  · replace t := t.2 c
    refine xw_iconst (n := 116) (show xlook 194 115 = some (115, .iconst 1, 1, 0, 0, 0, 0) from xlk (by decide +kernel)) rfl ?_
    refine xw_goto (m := 120) (show xlook 194 116 = some (116, .goto 4, 3, 120, 0, 0, 0) from xlk (by decide +kernel)) rfl ?_
    refine xw_iadd (n := 121) (show xlook 194 120 = some (120, .iadd, 1, 0, 0, 0, 0) from xlk (by decide +kernel)) rfl ?_
    refine xw_istore (n := 123) (show xlook 194 121 = some (121, .istore 6, 2, 0, 0, 0, 0) from xlk (by decide +kernel)) rfl (ls' := [.ref (131), vi (x1), vi (x2), vi (x3), vi (x4), vi (x5), vi ((x6) + (1)), vi (x7)]) (Nat.le_of_ble_eq_true rfl) rfl ?_
    refine xw_iinc (n := 126) (show xlook 194 123 = some (123, .iinc 7 1, 3, 0, 0, 0, 0) from xlk (by decide +kernel)) rfl (ls' := [.ref (131), vi (x1), vi (x2), vi (x3), vi (x4), vi (x5), vi ((x6) + (1)), vi (x7 + 1)]) rfl rfl ?_
    refine xw_goto (m := 51) (show xlook 194 126 = some (126, .goto (-75), 3, 51, 0, 0, 0) from xlk (by decide +kernel)) rfl ?_
    exact t hPT

theorem s195_0 {X : List Int32} {d : Nat} {F : XF} {Q : Int → XF → Prop} {x1 : Int} {w2 : Value} {w3 : Value} (hPT : xPT F)  (t : xPT (F) → xW X d 195 4 [.ref (131), vi (x1), vi (0), vi (0)] [] (F) (xqi Q)) : xW X d 195 0 [.ref (131), vi (x1), w2, w3] [] F (xqi Q) := by
  refine xw_iconst (n := 1) (show xlook 195 0 = some (0, .iconst 0, 1, 0, 0, 0, 0) from xlk (by decide +kernel)) rfl ?_
  refine xw_istore_n (n := 2) (show xlook 195 1 = some (1, .istore_n 2, 1, 0, 0, 0, 0) from xlk (by decide +kernel)) rfl (ls' := [.ref (131), vi (x1), vi (0), w3]) (Nat.le_of_ble_eq_true rfl) rfl ?_
  refine xw_iconst (n := 3) (show xlook 195 2 = some (2, .iconst 0, 1, 0, 0, 0, 0) from xlk (by decide +kernel)) rfl ?_
  refine xw_istore_n (n := 4) (show xlook 195 3 = some (3, .istore_n 3, 1, 0, 0, 0, 0) from xlk (by decide +kernel)) rfl (ls' := [.ref (131), vi (x1), vi (0), vi (0)]) (Nat.le_of_ble_eq_true rfl) rfl ?_
  exact t hPT
theorem m195 {X : List Int32} {d : Nat} {F : XF} {Q : Int → XF → Prop} {x1 : Int} (hPT : xPT F)  (t : xPT (F) → xW X d 195 4 [.ref (131), vi (x1), vi (0), vi (0)] [] (F) (xqi Q)) : xMI X d 195 [.ref (131), vi (x1)] F Q := by
  show xW X d 195 0 [.ref (131), vi (x1), xU0, xU0] [] F (xqi Q)
  exact s195_0 hPT  t

theorem s195_4 {X : List Int32} {d : Nat} {F : XF} {Q : Int → XF → Prop} {x1 : Int} {x2 : Int} {x3 : Int} (hPT : xPT F)  (t : inR (x3) ∧ inR ((F) (132) 4) ∧ (((((F) (132) 4) ≤ (x3)) → (xPT (F) → Q (x2) (F))) ∧ (¬ (((F) (132) 4) ≤ (x3)) → ((0 ≤ ((((x1) + (60)) + ((7) * (x3))) + (1)) ∧ ((((x1) + (60)) + ((7) * (x3))) + (1)) < 264) ∧ (xPT (F) → xW X d 195 4 [.ref (131), vi (x1), vi ((x2) + ((F) (140) ((((x1) + (60)) + ((7) * (x3))) + (1)))), vi (x3 + 1)] [] (F) (xqi Q)))))) : xW X d 195 4 [.ref (131), vi (x1), vi (x2), vi (x3)] [] F (xqi Q) := by
  refine xw_iload_n (n := 5) (show xlook 195 4 = some (4, .iload_n 3, 1, 0, 0, 0, 0) from xlk (by decide +kernel)) rfl rfl ?_
  refine xw_aload_n (n := 6) (show xlook 195 5 = some (5, .aload_n 0, 1, 0, 0, 0, 0) from xlk (by decide +kernel)) rfl rfl ?_
  refine xw_getr (q := 132) (show xlook 195 6 = some (6, .getfield 13, 3, 12, 1, 0, 220) from xlk (by decide +kernel)) (by decide) (xobf xob_12 (by decide) (by decide)) rfl (xPT_get (k := 1) (f := 1) hPT xob_12 (by decide)) (by have := (xtg_12_1 _ xob_12.1 xob_12.2).1.1; omega) (n := 9) rfl ?_
  refine xw_iconst (n := 10) (show xlook 195 9 = some (9, .iconst 4, 1, 0, 0, 0, 0) from xlk (by decide +kernel)) rfl ?_
  refine xw_iald (show xlook 195 10 = some (10, .iaload, 1, 0, 0, 0, 0) from xlk (by decide +kernel)) (xtg_12_1 _ xob_12.1 xob_12.2).1 (by rw [(xtg_12_1 _ xob_12.1 xob_12.2).2]; decide) (n := 11) rfl ?_
  obtain ⟨q0, q1, t⟩ := t
  refine xw_icmp_ge (n := 14) (m := 39) (show xlook 195 11 = some (11, .if_icmp .ge 28, 3, 39, 0, 0, 0) from xlk (by decide +kernel)) rfl rfl q0 q1 ⟨fun c => ?_, fun c => ?_⟩
  · replace t := t.1 c
    refine xw_iload_n (n := 40) (show xlook 195 39 = some (39, .iload_n 2, 1, 0, 0, 0, 0) from xlk (by decide +kernel)) rfl rfl ?_
    exact xw_ireturn hPT (show xlook 195 40 = some (40, .ireturn, 1, 0, 0, 0, 0) from xlk (by decide +kernel)) rfl (t hPT)
  · replace t := t.2 c
    refine xw_iload_n (n := 15) (show xlook 195 14 = some (14, .iload_n 2, 1, 0, 0, 0, 0) from xlk (by decide +kernel)) rfl rfl ?_
    refine xw_aload_n (n := 16) (show xlook 195 15 = some (15, .aload_n 0, 1, 0, 0, 0, 0) from xlk (by decide +kernel)) rfl rfl ?_
    refine xw_getr (q := 140) (show xlook 195 16 = some (16, .getfield 42, 3, 12, 18, 0, 229) from xlk (by decide +kernel)) (by decide) (xobf xob_12 (by decide) (by decide)) rfl (xPT_get (k := 18) (f := 9) hPT xob_12 (by decide)) (by have := (xtg_12_18 _ xob_12.1 xob_12.2).1.1; omega) (n := 19) rfl ?_
    refine xw_iload_n (n := 20) (show xlook 195 19 = some (19, .iload_n 1, 1, 0, 0, 0, 0) from xlk (by decide +kernel)) rfl rfl ?_
    refine xw_bipush (n := 22) (show xlook 195 20 = some (20, .bipush 60, 2, 0, 0, 0, 0) from xlk (by decide +kernel)) rfl (by decide) ?_
    refine xw_iadd (n := 23) (show xlook 195 22 = some (22, .iadd, 1, 0, 0, 0, 0) from xlk (by decide +kernel)) rfl ?_
    refine xw_bipush (n := 25) (show xlook 195 23 = some (23, .bipush 7, 2, 0, 0, 0, 0) from xlk (by decide +kernel)) rfl (by decide) ?_
    refine xw_iload_n (n := 26) (show xlook 195 25 = some (25, .iload_n 3, 1, 0, 0, 0, 0) from xlk (by decide +kernel)) rfl rfl ?_
    refine xw_imul (n := 27) (show xlook 195 26 = some (26, .imul, 1, 0, 0, 0, 0) from xlk (by decide +kernel)) rfl ?_
    refine xw_iadd (n := 28) (show xlook 195 27 = some (27, .iadd, 1, 0, 0, 0, 0) from xlk (by decide +kernel)) rfl ?_
    refine xw_iconst (n := 29) (show xlook 195 28 = some (28, .iconst 1, 1, 0, 0, 0, 0) from xlk (by decide +kernel)) rfl ?_
    refine xw_iadd (n := 30) (show xlook 195 29 = some (29, .iadd, 1, 0, 0, 0, 0) from xlk (by decide +kernel)) rfl ?_
    obtain ⟨q1, t⟩ := t
    refine xw_iald (show xlook 195 30 = some (30, .iaload, 1, 0, 0, 0, 0) from xlk (by decide +kernel)) (xtg_12_18 _ xob_12.1 xob_12.2).1 (by rw [(xtg_12_18 _ xob_12.1 xob_12.2).2]; exact q1) (n := 31) rfl ?_
    refine xw_iadd (n := 32) (show xlook 195 31 = some (31, .iadd, 1, 0, 0, 0, 0) from xlk (by decide +kernel)) rfl ?_
    refine xw_istore_n (n := 33) (show xlook 195 32 = some (32, .istore_n 2, 1, 0, 0, 0, 0) from xlk (by decide +kernel)) rfl (ls' := [.ref (131), vi (x1), vi ((x2) + ((F) (140) ((((x1) + (60)) + ((7) * (x3))) + (1)))), vi (x3)]) (Nat.le_of_ble_eq_true rfl) rfl ?_
    refine xw_iinc (n := 36) (show xlook 195 33 = some (33, .iinc 3 1, 3, 0, 0, 0, 0) from xlk (by decide +kernel)) rfl (ls' := [.ref (131), vi (x1), vi ((x2) + ((F) (140) ((((x1) + (60)) + ((7) * (x3))) + (1)))), vi (x3 + 1)]) rfl rfl ?_
    refine xw_goto (m := 4) (show xlook 195 36 = some (36, .goto (-32), 3, 4, 0, 0, 0) from xlk (by decide +kernel)) rfl ?_
    exact t hPT

theorem s196_0 {X : List Int32} {d : Nat} {F : XF} {Q : Int → XF → Prop}  (hPT : xPT F)  (t : ∃ (j1 : Nat), j1 < d ∧ xMI X j1 154 [.ref (131)] (F) (fun (y1 : Int) (G1 : XF) => (inR ((F) (140) 263) ∧ inR (y1) ∧ (((((F) (140) 263) = (y1)) → (xPT (G1) → Q (0) (G1))) ∧ (¬ (((F) (140) 263) = (y1)) → (inR ((G1) (140) 262) ∧ (((¬ ((G1) (140) 262) = (2000)) → (∃ (j2 : Nat), j2 < d ∧ xMV X j2 181 [.ref (131), vi (132)] (G1) (fun (G2 : XF) => (xPT (G2) → Q (1) (G2))))) ∧ (¬ (¬ ((G1) (140) 262) = (2000)) → (xPT (G1) → Q (0) (G1)))))))))) : xW X d 196 0 [.ref (131)] [] F (xqi Q) := by
  refine xw_aload_n (n := 1) (show xlook 196 0 = some (0, .aload_n 0, 1, 0, 0, 0, 0) from xlk (by decide +kernel)) rfl rfl ?_
  refine xw_getr (q := 140) (show xlook 196 1 = some (1, .getfield 42, 3, 12, 18, 0, 229) from xlk (by decide +kernel)) (by decide) (xobf xob_12 (by decide) (by decide)) rfl (xPT_get (k := 18) (f := 9) hPT xob_12 (by decide)) (by have := (xtg_12_18 _ xob_12.1 xob_12.2).1.1; omega) (n := 4) rfl ?_
  refine xw_sipush (n := 7) (show xlook 196 4 = some (4, .sipush 263, 3, 0, 0, 0, 0) from xlk (by decide +kernel)) rfl (by decide) ?_
  refine xw_iald (show xlook 196 7 = some (7, .iaload, 1, 0, 0, 0, 0) from xlk (by decide +kernel)) (xtg_12_18 _ xob_12.1 xob_12.2).1 (by rw [(xtg_12_18 _ xob_12.1 xob_12.2).2]; decide) (n := 8) rfl ?_
  refine xw_aload_n (n := 9) (show xlook 196 8 = some (8, .aload_n 0, 1, 0, 0, 0, 0) from xlk (by decide +kernel)) rfl rfl ?_
  obtain ⟨j1, hj1, rr1, G1, hm1, hG1, t⟩ := t
  obtain ⟨y1, rfl, t⟩ := t
  refine xw_callv (dk := j1) (o := 131) (as := []) (show xlook 196 9 = some (9, .invokevirtual 161, 3, 154, 1, 0, 169) from xlk (by decide +kernel)) (by decide) hj1 ⟨Nat.le_of_ble_eq_true rfl, Nat.le_of_ble_eq_true rfl, Nat.le_of_ble_eq_true rfl⟩ ⟨xob_12.1, xob_12.2, by decide⟩ rfl hm1 (n := 12) rfl ?_
  show xW X d 196 12 [.ref (131)] [vi (y1), vi ((F) (140) 263)] G1 (xqi Q)
  obtain ⟨q0, q1, t⟩ := t
  refine xw_icmp_eq (n := 15) (m := 29) (show xlook 196 12 = some (12, .if_icmp .eq 17, 3, 29, 0, 0, 0) from xlk (by decide +kernel)) rfl rfl q0 q1 ⟨fun c => ?_, fun c => ?_⟩
  · replace t := t.1 c
    refine xw_iconst (n := 30) (show xlook 196 29 = some (29, .iconst 0, 1, 0, 0, 0, 0) from xlk (by decide +kernel)) rfl ?_
    exact xw_zreturn hG1 (show xlook 196 30 = some (30, .ireturn, 1, 0, 0, 0, 0) from xlk (by decide +kernel)) rfl (by decide) (t hG1)
  · replace t := t.2 c
    refine xw_aload_n (n := 16) (show xlook 196 15 = some (15, .aload_n 0, 1, 0, 0, 0, 0) from xlk (by decide +kernel)) rfl rfl ?_
    refine xw_getr (q := 140) (show xlook 196 16 = some (16, .getfield 42, 3, 12, 18, 0, 229) from xlk (by decide +kernel)) (by decide) (xobf xob_12 (by decide) (by decide)) rfl (xPT_get (k := 18) (f := 9) hG1 xob_12 (by decide)) (by have := (xtg_12_18 _ xob_12.1 xob_12.2).1.1; omega) (n := 19) rfl ?_
    refine xw_sipush (n := 22) (show xlook 196 19 = some (19, .sipush 262, 3, 0, 0, 0, 0) from xlk (by decide +kernel)) rfl (by decide) ?_
    refine xw_iald (show xlook 196 22 = some (22, .iaload, 1, 0, 0, 0, 0) from xlk (by decide +kernel)) (xtg_12_18 _ xob_12.1 xob_12.2).1 (by rw [(xtg_12_18 _ xob_12.1 xob_12.2).2]; decide) (n := 23) rfl ?_
    refine xw_sipush (n := 26) (show xlook 196 23 = some (23, .sipush 2000, 3, 0, 0, 0, 0) from xlk (by decide +kernel)) rfl (by decide) ?_
    obtain ⟨q0, t⟩ := t
    refine xw_icmp_ne (n := 29) (m := 31) (show xlook 196 26 = some (26, .if_icmp .ne 5, 3, 31, 0, 0, 0) from xlk (by decide +kernel)) rfl rfl q0 ⟨by decide, by decide⟩ ⟨fun c => ?_, fun c => ?_⟩
    · replace t := t.1 c
      refine xw_aload_n (n := 32) (show xlook 196 31 = some (31, .aload_n 0, 1, 0, 0, 0, 0) from xlk (by decide +kernel)) rfl rfl ?_
      refine xw_sipush (n := 35) (show xlook 196 32 = some (32, .sipush 132, 3, 0, 0, 0, 0) from xlk (by decide +kernel)) rfl (by decide) ?_
      obtain ⟨j2, hj2, rr2, G2, hm2, hG2, t⟩ := t
      obtain ⟨rfl, t⟩ := t
      refine xw_callv (dk := j2) (o := 131) (as := [vi (132)]) (show xlook 196 35 = some (35, .invokevirtual 253, 3, 181, 2, 0, 191) from xlk (by decide +kernel)) (by decide) hj2 ⟨Nat.le_of_ble_eq_true rfl, Nat.le_of_ble_eq_true rfl, Nat.le_of_ble_eq_true rfl⟩ ⟨xob_12.1, xob_12.2, by decide⟩ rfl hm2 (n := 38) rfl ?_
      show xW X d 196 38 [.ref (131)] [] G2 (xqi Q)
      refine xw_iconst (n := 39) (show xlook 196 38 = some (38, .iconst 1, 1, 0, 0, 0, 0) from xlk (by decide +kernel)) rfl ?_
      exact xw_zreturn hG2 (show xlook 196 39 = some (39, .ireturn, 1, 0, 0, 0, 0) from xlk (by decide +kernel)) rfl (by decide) (t hG2)
    · replace t := t.2 c
      refine xw_iconst (n := 30) (show xlook 196 29 = some (29, .iconst 0, 1, 0, 0, 0, 0) from xlk (by decide +kernel)) rfl ?_
      exact xw_zreturn hG1 (show xlook 196 30 = some (30, .ireturn, 1, 0, 0, 0, 0) from xlk (by decide +kernel)) rfl (by decide) (t hG1)
theorem m196 {X : List Int32} {d : Nat} {F : XF} {Q : Int → XF → Prop}  (hPT : xPT F)  (t : ∃ (j1 : Nat), j1 < d ∧ xMI X j1 154 [.ref (131)] (F) (fun (y1 : Int) (G1 : XF) => (inR ((F) (140) 263) ∧ inR (y1) ∧ (((((F) (140) 263) = (y1)) → (xPT (G1) → Q (0) (G1))) ∧ (¬ (((F) (140) 263) = (y1)) → (inR ((G1) (140) 262) ∧ (((¬ ((G1) (140) 262) = (2000)) → (∃ (j2 : Nat), j2 < d ∧ xMV X j2 181 [.ref (131), vi (132)] (G1) (fun (G2 : XF) => (xPT (G2) → Q (1) (G2))))) ∧ (¬ (¬ ((G1) (140) 262) = (2000)) → (xPT (G1) → Q (0) (G1)))))))))) : xMI X d 196 [.ref (131)] F Q := by
  show xW X d 196 0 [.ref (131)] [] F (xqi Q)
  exact s196_0 hPT  t

theorem s197_0 {X : List Int32} {d : Nat} {F : XF} {Q : Int → XF → Prop}  (hPT : xPT F)  (t : ∃ (j1 : Nat), j1 < d ∧ xMI X j1 154 [.ref (131)] (F) (fun (y1 : Int) (G1 : XF) => (inR ((F) (140) 263) ∧ inR (y1) ∧ (((¬ ((F) (140) 263) = (y1)) → (xPT (G1) → Q ((-1)) (G1))) ∧ (¬ (¬ ((F) (140) 263) = (y1)) → (xPT (G1) → Q ((G1) (140) 262) (G1))))))) : xW X d 197 0 [.ref (131)] [] F (xqi Q) := by
  refine xw_aload_n (n := 1) (show xlook 197 0 = some (0, .aload_n 0, 1, 0, 0, 0, 0) from xlk (by decide +kernel)) rfl rfl ?_
  refine xw_getr (q := 140) (show xlook 197 1 = some (1, .getfield 42, 3, 12, 18, 0, 229) from xlk (by decide +kernel)) (by decide) (xobf xob_12 (by decide) (by decide)) rfl (xPT_get (k := 18) (f := 9) hPT xob_12 (by decide)) (by have := (xtg_12_18 _ xob_12.1 xob_12.2).1.1; omega) (n := 4) rfl ?_
  refine xw_sipush (n := 7) (show xlook 197 4 = some (4, .sipush 263, 3, 0, 0, 0, 0) from xlk (by decide +kernel)) rfl (by decide) ?_
  refine xw_iald (show xlook 197 7 = some (7, .iaload, 1, 0, 0, 0, 0) from xlk (by decide +kernel)) (xtg_12_18 _ xob_12.1 xob_12.2).1 (by rw [(xtg_12_18 _ xob_12.1 xob_12.2).2]; decide) (n := 8) rfl ?_
  refine xw_aload_n (n := 9) (show xlook 197 8 = some (8, .aload_n 0, 1, 0, 0, 0, 0) from xlk (by decide +kernel)) rfl rfl ?_
  obtain ⟨j1, hj1, rr1, G1, hm1, hG1, t⟩ := t
  obtain ⟨y1, rfl, t⟩ := t
  refine xw_callv (dk := j1) (o := 131) (as := []) (show xlook 197 9 = some (9, .invokevirtual 161, 3, 154, 1, 0, 169) from xlk (by decide +kernel)) (by decide) hj1 ⟨Nat.le_of_ble_eq_true rfl, Nat.le_of_ble_eq_true rfl, Nat.le_of_ble_eq_true rfl⟩ ⟨xob_12.1, xob_12.2, by decide⟩ rfl hm1 (n := 12) rfl ?_
  show xW X d 197 12 [.ref (131)] [vi (y1), vi ((F) (140) 263)] G1 (xqi Q)
  obtain ⟨q0, q1, t⟩ := t
  refine xw_icmp_ne (n := 15) (m := 26) (show xlook 197 12 = some (12, .if_icmp .ne 14, 3, 26, 0, 0, 0) from xlk (by decide +kernel)) rfl rfl q0 q1 ⟨fun c => ?_, fun c => ?_⟩
  · replace t := t.1 c
    refine xw_iconst (n := 27) (show xlook 197 26 = some (26, .iconst (-1), 1, 0, 0, 0, 0) from xlk (by decide +kernel)) rfl ?_
    exact xw_ireturn hG1 (show xlook 197 27 = some (27, .ireturn, 1, 0, 0, 0, 0) from xlk (by decide +kernel)) rfl (t hG1)
  · replace t := t.2 c
    refine xw_aload_n (n := 16) (show xlook 197 15 = some (15, .aload_n 0, 1, 0, 0, 0, 0) from xlk (by decide +kernel)) rfl rfl ?_
    refine xw_getr (q := 140) (show xlook 197 16 = some (16, .getfield 42, 3, 12, 18, 0, 229) from xlk (by decide +kernel)) (by decide) (xobf xob_12 (by decide) (by decide)) rfl (xPT_get (k := 18) (f := 9) hG1 xob_12 (by decide)) (by have := (xtg_12_18 _ xob_12.1 xob_12.2).1.1; omega) (n := 19) rfl ?_
    refine xw_sipush (n := 22) (show xlook 197 19 = some (19, .sipush 262, 3, 0, 0, 0, 0) from xlk (by decide +kernel)) rfl (by decide) ?_
    refine xw_iald (show xlook 197 22 = some (22, .iaload, 1, 0, 0, 0, 0) from xlk (by decide +kernel)) (xtg_12_18 _ xob_12.1 xob_12.2).1 (by rw [(xtg_12_18 _ xob_12.1 xob_12.2).2]; decide) (n := 23) rfl ?_
    refine xw_goto (m := 27) (show xlook 197 23 = some (23, .goto 4, 3, 27, 0, 0, 0) from xlk (by decide +kernel)) rfl ?_
    exact xw_ireturn hG1 (show xlook 197 27 = some (27, .ireturn, 1, 0, 0, 0, 0) from xlk (by decide +kernel)) rfl (t hG1)
theorem m197 {X : List Int32} {d : Nat} {F : XF} {Q : Int → XF → Prop}  (hPT : xPT F)  (t : ∃ (j1 : Nat), j1 < d ∧ xMI X j1 154 [.ref (131)] (F) (fun (y1 : Int) (G1 : XF) => (inR ((F) (140) 263) ∧ inR (y1) ∧ (((¬ ((F) (140) 263) = (y1)) → (xPT (G1) → Q ((-1)) (G1))) ∧ (¬ (¬ ((F) (140) 263) = (y1)) → (xPT (G1) → Q ((G1) (140) 262) (G1))))))) : xMI X d 197 [.ref (131)] F Q := by
  show xW X d 197 0 [.ref (131)] [] F (xqi Q)
  exact s197_0 hPT  t

theorem s198_0 {X : List Int32} {d : Nat} {F : XF} {Q : Int → XF → Prop} {w1 : Value} (hPT : xPT F)  (t : ∃ (j1 : Nat), j1 < d ∧ xMV X j1 170 [.ref (131), vi (132)] (F) (fun (G1 : XF) => (xPT (G1) → xW X d 198 9 [.ref (131), vi (1)] [] (G1) (xqi Q)))) : xW X d 198 0 [.ref (131), w1] [] F (xqi Q) := by
  refine xw_aload_n (n := 1) (show xlook 198 0 = some (0, .aload_n 0, 1, 0, 0, 0, 0) from xlk (by decide +kernel)) rfl rfl ?_
  refine xw_sipush (n := 4) (show xlook 198 1 = some (1, .sipush 132, 3, 0, 0, 0, 0) from xlk (by decide +kernel)) rfl (by decide) ?_
  obtain ⟨j1, hj1, rr1, G1, hm1, hG1, t⟩ := t
  obtain ⟨rfl, t⟩ := t
  refine xw_callv (dk := j1) (o := 131) (as := [vi (132)]) (show xlook 198 4 = some (4, .invokevirtual 63, 3, 170, 2, 0, 150) from xlk (by decide +kernel)) (by decide) hj1 ⟨Nat.le_of_ble_eq_true rfl, Nat.le_of_ble_eq_true rfl, Nat.le_of_ble_eq_true rfl⟩ ⟨xob_12.1, xob_12.2, by decide⟩ rfl hm1 (n := 7) rfl ?_
  show xW X d 198 7 [.ref (131), w1] [] G1 (xqi Q)
  refine xw_iconst (n := 8) (show xlook 198 7 = some (7, .iconst 1, 1, 0, 0, 0, 0) from xlk (by decide +kernel)) rfl ?_
  refine xw_istore_n (n := 9) (show xlook 198 8 = some (8, .istore_n 1, 1, 0, 0, 0, 0) from xlk (by decide +kernel)) rfl (ls' := [.ref (131), vi (1)]) (Nat.le_of_ble_eq_true rfl) rfl ?_
  exact t hG1
theorem m198 {X : List Int32} {d : Nat} {F : XF} {Q : Int → XF → Prop}  (hPT : xPT F)  (t : ∃ (j1 : Nat), j1 < d ∧ xMV X j1 170 [.ref (131), vi (132)] (F) (fun (G1 : XF) => (xPT (G1) → xW X d 198 9 [.ref (131), vi (1)] [] (G1) (xqi Q)))) : xMI X d 198 [.ref (131)] F Q := by
  show xW X d 198 0 [.ref (131), xU0] [] F (xqi Q)
  exact s198_0 hPT  t

theorem s198_9 {X : List Int32} {d : Nat} {F : XF} {Q : Int → XF → Prop} {x1 : Int} (hPT : xPT F)  (t : inR (x1) ∧ ((((x1) = (0)) → (∃ (j1 : Nat), j1 < d ∧ xMI X j1 197 [.ref (131)] (F) (fun (y1 : Int) (G1 : XF) => (xPT (G1) → Q (y1) (G1))))) ∧ (¬ ((x1) = (0)) → (∃ (j2 : Nat), j2 < d ∧ xMI X j2 196 [.ref (131)] (F) (fun (y2 : Int) (G2 : XF) => (xPT (G2) → xW X d 198 9 [.ref (131), vi (y2)] [] (G2) (xqi Q))))))) : xW X d 198 9 [.ref (131), vi (x1)] [] F (xqi Q) := by
  refine xw_iload_n (n := 10) (show xlook 198 9 = some (9, .iload_n 1, 1, 0, 0, 0, 0) from xlk (by decide +kernel)) rfl rfl ?_
  obtain ⟨q0, t⟩ := t
  refine xw_if_eq (n := 13) (m := 21) (show xlook 198 10 = some (10, .ifCond .eq 11, 3, 21, 0, 0, 0) from xlk (by decide +kernel)) rfl rfl q0 ⟨fun c => ?_, fun c => ?_⟩
  · replace t := t.1 c
    refine xw_aload_n (n := 22) (show xlook 198 21 = some (21, .aload_n 0, 1, 0, 0, 0, 0) from xlk (by decide +kernel)) rfl rfl ?_
    obtain ⟨j1, hj1, rr1, G1, hm1, hG1, t⟩ := t
    obtain ⟨y1, rfl, t⟩ := t
    refine xw_callv (dk := j1) (o := 131) (as := []) (show xlook 198 22 = some (22, .invokevirtual 272, 3, 197, 1, 0, 196) from xlk (by decide +kernel)) (by decide) hj1 ⟨Nat.le_of_ble_eq_true rfl, Nat.le_of_ble_eq_true rfl, Nat.le_of_ble_eq_true rfl⟩ ⟨xob_12.1, xob_12.2, by decide⟩ rfl hm1 (n := 25) rfl ?_
    show xW X d 198 25 [.ref (131), vi (x1)] [vi (y1)] G1 (xqi Q)
    exact xw_ireturn hG1 (show xlook 198 25 = some (25, .ireturn, 1, 0, 0, 0, 0) from xlk (by decide +kernel)) rfl (t hG1)
  · replace t := t.2 c
    refine xw_aload_n (n := 14) (show xlook 198 13 = some (13, .aload_n 0, 1, 0, 0, 0, 0) from xlk (by decide +kernel)) rfl rfl ?_
    obtain ⟨j2, hj2, rr2, G2, hm2, hG2, t⟩ := t
    obtain ⟨y2, rfl, t⟩ := t
    refine xw_callv (dk := j2) (o := 131) (as := []) (show xlook 198 14 = some (14, .invokevirtual 268, 3, 196, 1, 0, 195) from xlk (by decide +kernel)) (by decide) hj2 ⟨Nat.le_of_ble_eq_true rfl, Nat.le_of_ble_eq_true rfl, Nat.le_of_ble_eq_true rfl⟩ ⟨xob_12.1, xob_12.2, by decide⟩ rfl hm2 (n := 17) rfl ?_
    show xW X d 198 17 [.ref (131), vi (x1)] [vi (y2)] G2 (xqi Q)
    refine xw_istore_n (n := 18) (show xlook 198 17 = some (17, .istore_n 1, 1, 0, 0, 0, 0) from xlk (by decide +kernel)) rfl (ls' := [.ref (131), vi (y2)]) (Nat.le_of_ble_eq_true rfl) rfl ?_
    refine xw_goto (m := 9) (show xlook 198 18 = some (18, .goto (-9), 3, 9, 0, 0, 0) from xlk (by decide +kernel)) rfl ?_
    exact t hG2

theorem s199_0 {X : List Int32} {d : Nat} {F : XF} {Q : Int → XF → Prop}  (hPT : xPT F)  (t : ∃ (j1 : Nat), j1 < d ∧ xMI X j1 198 [.ref (131)] (xup (F) (131) 0 (0)) (fun (y1 : Int) (G1 : XF) => (xPT (G1) → Q (y1) (G1)))) : xW X d 199 0 [.ref (131)] [] F (xqi Q) := by
  refine xw_aload_n (n := 1) (show xlook 199 0 = some (0, .aload_n 0, 1, 0, 0, 0, 0) from xlk (by decide +kernel)) rfl rfl ?_
  refine xw_iconst (n := 2) (show xlook 199 1 = some (1, .iconst 0, 1, 0, 0, 0, 0) from xlk (by decide +kernel)) rfl ?_
  refine xw_puti (show xlook 199 2 = some (2, .putfield 1, 3, 12, 0, 0, 235) from xlk (by decide +kernel)) (xobf xob_12 (by decide) (by decide)) rfl (n := 5) rfl ?_
  refine xw_aload_n (n := 6) (show xlook 199 5 = some (5, .aload_n 0, 1, 0, 0, 0, 0) from xlk (by decide +kernel)) rfl rfl ?_
  obtain ⟨j1, hj1, rr1, G1, hm1, hG1, t⟩ := t
  obtain ⟨y1, rfl, t⟩ := t
  refine xw_callv (dk := j1) (o := 131) (as := []) (show xlook 199 6 = some (6, .invokevirtual 275, 3, 198, 1, 0, 197) from xlk (by decide +kernel)) (by decide) hj1 ⟨Nat.le_of_ble_eq_true rfl, Nat.le_of_ble_eq_true rfl, Nat.le_of_ble_eq_true rfl⟩ ⟨xob_12.1, xob_12.2, by decide⟩ rfl hm1 (n := 9) rfl ?_
  show xW X d 199 9 [.ref (131)] [vi (y1)] G1 (xqi Q)
  exact xw_ireturn hG1 (show xlook 199 9 = some (9, .ireturn, 1, 0, 0, 0, 0) from xlk (by decide +kernel)) rfl (t hG1)
theorem m199 {X : List Int32} {d : Nat} {F : XF} {Q : Int → XF → Prop}  (hPT : xPT F)  (t : ∃ (j1 : Nat), j1 < d ∧ xMI X j1 198 [.ref (131)] (xup (F) (131) 0 (0)) (fun (y1 : Int) (G1 : XF) => (xPT (G1) → Q (y1) (G1)))) : xMI X d 199 [.ref (131)] F Q := by
  show xW X d 199 0 [.ref (131)] [] F (xqi Q)
  exact s199_0 hPT  t

theorem s200_0 {X : List Int32} {d : Nat} {F : XF} {Q : XF → Prop} {x1 : Int} {w2 : Value} (hPT : xPT F)  (t : ∃ (j1 : Nat), j1 < d ∧ xMV X j1 170 [.ref (131), vi (132)] (F) (fun (G1 : XF) => (xPT (G1) → xW X d 200 9 [.ref (131), vi (x1), vi (0)] [] (G1) (xqv Q)))) : xW X d 200 0 [.ref (131), vi (x1), w2] [] F (xqv Q) := by
  refine xw_aload_n (n := 1) (show xlook 200 0 = some (0, .aload_n 0, 1, 0, 0, 0, 0) from xlk (by decide +kernel)) rfl rfl ?_
  refine xw_sipush (n := 4) (show xlook 200 1 = some (1, .sipush 132, 3, 0, 0, 0, 0) from xlk (by decide +kernel)) rfl (by decide) ?_
  obtain ⟨j1, hj1, rr1, G1, hm1, hG1, t⟩ := t
  obtain ⟨rfl, t⟩ := t
  refine xw_callv (dk := j1) (o := 131) (as := [vi (132)]) (show xlook 200 4 = some (4, .invokevirtual 63, 3, 170, 2, 0, 150) from xlk (by decide +kernel)) (by decide) hj1 ⟨Nat.le_of_ble_eq_true rfl, Nat.le_of_ble_eq_true rfl, Nat.le_of_ble_eq_true rfl⟩ ⟨xob_12.1, xob_12.2, by decide⟩ rfl hm1 (n := 7) rfl ?_
  show xW X d 200 7 [.ref (131), vi (x1), w2] [] G1 (xqv Q)
  refine xw_iconst (n := 8) (show xlook 200 7 = some (7, .iconst 0, 1, 0, 0, 0, 0) from xlk (by decide +kernel)) rfl ?_
  refine xw_istore_n (n := 9) (show xlook 200 8 = some (8, .istore_n 2, 1, 0, 0, 0, 0) from xlk (by decide +kernel)) rfl (ls' := [.ref (131), vi (x1), vi (0)]) (Nat.le_of_ble_eq_true rfl) rfl ?_
  exact t hG1
theorem m200 {X : List Int32} {d : Nat} {F : XF} {Q : XF → Prop} {x1 : Int} (hPT : xPT F)  (t : ∃ (j1 : Nat), j1 < d ∧ xMV X j1 170 [.ref (131), vi (132)] (F) (fun (G1 : XF) => (xPT (G1) → xW X d 200 9 [.ref (131), vi (x1), vi (0)] [] (G1) (xqv Q)))) : xMV X d 200 [.ref (131), vi (x1)] F Q := by
  show xW X d 200 0 [.ref (131), vi (x1), xU0] [] F (xqv Q)
  exact s200_0 hPT  t

theorem s200_9 {X : List Int32} {d : Nat} {F : XF} {Q : XF → Prop} {x1 : Int} {x2 : Int} (hPT : xPT F)  (t : inR (x2) ∧ inR (x1) ∧ ((((x1) ≤ (x2)) → (xPT (F) → Q (F))) ∧ (¬ ((x1) ≤ (x2)) → (∃ (j1 : Nat), j1 < d ∧ xMV X j1 181 [.ref (131), vi (132)] (F) (fun (G1 : XF) => (xPT (G1) → xW X d 200 9 [.ref (131), vi (x1), vi (x2 + 1)] [] (G1) (xqv Q))))))) : xW X d 200 9 [.ref (131), vi (x1), vi (x2)] [] F (xqv Q) := by
  refine xw_iload_n (n := 10) (show xlook 200 9 = some (9, .iload_n 2, 1, 0, 0, 0, 0) from xlk (by decide +kernel)) rfl rfl ?_
  refine xw_iload_n (n := 11) (show xlook 200 10 = some (10, .iload_n 1, 1, 0, 0, 0, 0) from xlk (by decide +kernel)) rfl rfl ?_
  obtain ⟨q0, q1, t⟩ := t
  refine xw_icmp_ge (n := 14) (m := 27) (show xlook 200 11 = some (11, .if_icmp .ge 16, 3, 27, 0, 0, 0) from xlk (by decide +kernel)) rfl rfl q0 q1 ⟨fun c => ?_, fun c => ?_⟩
  · replace t := t.1 c
    exact xw_return hPT (show xlook 200 27 = some (27, .return_, 1, 0, 0, 0, 0) from xlk (by decide +kernel)) rfl (t hPT)
  · replace t := t.2 c
    refine xw_aload_n (n := 15) (show xlook 200 14 = some (14, .aload_n 0, 1, 0, 0, 0, 0) from xlk (by decide +kernel)) rfl rfl ?_
    refine xw_sipush (n := 18) (show xlook 200 15 = some (15, .sipush 132, 3, 0, 0, 0, 0) from xlk (by decide +kernel)) rfl (by decide) ?_
    obtain ⟨j1, hj1, rr1, G1, hm1, hG1, t⟩ := t
    obtain ⟨rfl, t⟩ := t
    refine xw_callv (dk := j1) (o := 131) (as := [vi (132)]) (show xlook 200 18 = some (18, .invokevirtual 253, 3, 181, 2, 0, 191) from xlk (by decide +kernel)) (by decide) hj1 ⟨Nat.le_of_ble_eq_true rfl, Nat.le_of_ble_eq_true rfl, Nat.le_of_ble_eq_true rfl⟩ ⟨xob_12.1, xob_12.2, by decide⟩ rfl hm1 (n := 21) rfl ?_
    show xW X d 200 21 [.ref (131), vi (x1), vi (x2)] [] G1 (xqv Q)
    refine xw_iinc (n := 24) (show xlook 200 21 = some (21, .iinc 2 1, 3, 0, 0, 0, 0) from xlk (by decide +kernel)) rfl (ls' := [.ref (131), vi (x1), vi (x2 + 1)]) rfl rfl ?_
    refine xw_goto (m := 9) (show xlook 200 24 = some (24, .goto (-15), 3, 9, 0, 0, 0) from xlk (by decide +kernel)) rfl ?_
    exact t hG1

theorem s201_0 {X : List Int32} {d : Nat} {F : XF} {Q : Int → XF → Prop} {x1 : Int} {x2 : Int} (hPT : xPT F)  (t : ∃ (j1 : Nat), j1 < d ∧ xMI X j1 155 [.ref (131), vi (x1)] (xup (F) (131) 0 (0)) (fun (y1 : Int) (G1 : XF) => (inR (y1) ∧ (((¬ (y1) = (0)) → ((inR (x2)) ∧ (∃ (j2 : Nat), j2 < d ∧ xMI X j2 132 [vl (x2), vl (0), vl (2000)] (G1) (fun (y2 : Int) (G2 : XF) => (inR (y2) ∧ (((¬ (y2) = (0)) → (∃ (j3 : Nat), j3 < d ∧ xMV X j3 200 [.ref (131), vi (x2)] (G2) (fun (G3 : XF) => ((0 ≤ ((132) + (x1)) ∧ ((132) + (x1)) < 264) ∧ (xPT (G3) → Q (((G3) (140) ((132) + (x1))) + (100000)) (G3)))))) ∧ (¬ (¬ (y2) = (0)) → (xPT (G2) → Q ((-3)) (G2))))))))) ∧ (¬ (¬ (y1) = (0)) → (xPT (G1) → Q ((-2)) (G1))))))) : xW X d 201 0 [.ref (131), vi (x1), vi (x2)] [] F (xqi Q) := by
  refine xw_aload_n (n := 1) (show xlook 201 0 = some (0, .aload_n 0, 1, 0, 0, 0, 0) from xlk (by decide +kernel)) rfl rfl ?_
  refine xw_iconst (n := 2) (show xlook 201 1 = some (1, .iconst 0, 1, 0, 0, 0, 0) from xlk (by decide +kernel)) rfl ?_
  refine xw_puti (show xlook 201 2 = some (2, .putfield 1, 3, 12, 0, 0, 235) from xlk (by decide +kernel)) (xobf xob_12 (by decide) (by decide)) rfl (n := 5) rfl ?_
  refine xw_aload_n (n := 6) (show xlook 201 5 = some (5, .aload_n 0, 1, 0, 0, 0, 0) from xlk (by decide +kernel)) rfl rfl ?_
  refine xw_iload_n (n := 7) (show xlook 201 6 = some (6, .iload_n 1, 1, 0, 0, 0, 0) from xlk (by decide +kernel)) rfl rfl ?_
  obtain ⟨j1, hj1, rr1, G1, hm1, hG1, t⟩ := t
  obtain ⟨y1, rfl, t⟩ := t
  refine xw_callv (dk := j1) (o := 131) (as := [vi (x1)]) (show xlook 201 7 = some (7, .invokevirtual 176, 3, 155, 2, 0, 171) from xlk (by decide +kernel)) (by decide) hj1 ⟨Nat.le_of_ble_eq_true rfl, Nat.le_of_ble_eq_true rfl, Nat.le_of_ble_eq_true rfl⟩ ⟨xob_12.1, xob_12.2, by decide⟩ rfl hm1 (n := 10) rfl ?_
  show xW X d 201 10 [.ref (131), vi (x1), vi (x2)] [vi (y1)] G1 (xqi Q)
  obtain ⟨q0, t⟩ := t
  refine xw_if_ne (n := 13) (m := 16) (show xlook 201 10 = some (10, .ifCond .ne 6, 3, 16, 0, 0, 0) from xlk (by decide +kernel)) rfl rfl q0 ⟨fun c => ?_, fun c => ?_⟩
  · replace t := t.1 c
    refine xw_iload_n (n := 17) (show xlook 201 16 = some (16, .iload_n 2, 1, 0, 0, 0, 0) from xlk (by decide +kernel)) rfl rfl ?_
    obtain ⟨q1, t⟩ := t
    refine xw_i2l (n := 18) (show xlook 201 17 = some (17, .i2l, 1, 0, 0, 0, 0) from xlk (by decide +kernel)) rfl q1 ?_
    refine xw_lconst (n := 19) (show xlook 201 18 = some (18, .lconst 0, 1, 0, 0, 0, 0) from xlk (by decide +kernel)) rfl (k := 0) (by decide) ?_
    refine xw_ldc2 (n := 22) (show xlook 201 19 = some (19, .ldc2_w 251, 3, 0, 0, 2000, 11) from xlk (by decide +kernel)) rfl ?_
    obtain ⟨j2, hj2, rr2, G2, hm2, hG2, t⟩ := t
    obtain ⟨y2, rfl, t⟩ := t
    refine xw_calls (dk := j2) (as := [vl (x2), vl (0), vl (2000)]) (show xlook 201 22 = some (22, .invokestatic 83, 3, 132, 3, 0, 151) from xlk (by decide +kernel)) (by decide) hj2 ⟨Nat.le_of_ble_eq_true rfl, Nat.le_of_ble_eq_true rfl, Nat.le_of_ble_eq_true rfl, by decide⟩ rfl hm2 (n := 25) rfl ?_
    show xW X d 201 25 [.ref (131), vi (x1), vi (x2)] [vi (y2)] G2 (xqi Q)
    obtain ⟨q0, t⟩ := t
    refine xw_if_ne (n := 28) (m := 31) (show xlook 201 25 = some (25, .ifCond .ne 6, 3, 31, 0, 0, 0) from xlk (by decide +kernel)) rfl rfl q0 ⟨fun c => ?_, fun c => ?_⟩
    · replace t := t.1 c
      refine xw_aload_n (n := 32) (show xlook 201 31 = some (31, .aload_n 0, 1, 0, 0, 0, 0) from xlk (by decide +kernel)) rfl rfl ?_
      refine xw_iload_n (n := 33) (show xlook 201 32 = some (32, .iload_n 2, 1, 0, 0, 0, 0) from xlk (by decide +kernel)) rfl rfl ?_
      obtain ⟨j3, hj3, rr3, G3, hm3, hG3, t⟩ := t
      obtain ⟨rfl, t⟩ := t
      refine xw_callv (dk := j3) (o := 131) (as := [vi (x2)]) (show xlook 201 33 = some (33, .invokevirtual 278, 3, 200, 2, 0, 198) from xlk (by decide +kernel)) (by decide) hj3 ⟨Nat.le_of_ble_eq_true rfl, Nat.le_of_ble_eq_true rfl, Nat.le_of_ble_eq_true rfl⟩ ⟨xob_12.1, xob_12.2, by decide⟩ rfl hm3 (n := 36) rfl ?_
      show xW X d 201 36 [.ref (131), vi (x1), vi (x2)] [] G3 (xqi Q)
      refine xw_aload_n (n := 37) (show xlook 201 36 = some (36, .aload_n 0, 1, 0, 0, 0, 0) from xlk (by decide +kernel)) rfl rfl ?_
      refine xw_getr (q := 140) (show xlook 201 37 = some (37, .getfield 42, 3, 12, 18, 0, 229) from xlk (by decide +kernel)) (by decide) (xobf xob_12 (by decide) (by decide)) rfl (xPT_get (k := 18) (f := 9) hG3 xob_12 (by decide)) (by have := (xtg_12_18 _ xob_12.1 xob_12.2).1.1; omega) (n := 40) rfl ?_
      refine xw_sipush (n := 43) (show xlook 201 40 = some (40, .sipush 132, 3, 0, 0, 0, 0) from xlk (by decide +kernel)) rfl (by decide) ?_
      refine xw_iload_n (n := 44) (show xlook 201 43 = some (43, .iload_n 1, 1, 0, 0, 0, 0) from xlk (by decide +kernel)) rfl rfl ?_
      refine xw_iadd (n := 45) (show xlook 201 44 = some (44, .iadd, 1, 0, 0, 0, 0) from xlk (by decide +kernel)) rfl ?_
      obtain ⟨q1, t⟩ := t
      refine xw_iald (show xlook 201 45 = some (45, .iaload, 1, 0, 0, 0, 0) from xlk (by decide +kernel)) (xtg_12_18 _ xob_12.1 xob_12.2).1 (by rw [(xtg_12_18 _ xob_12.1 xob_12.2).2]; exact q1) (n := 46) rfl ?_
      refine xw_ldcw (n := 49) (show xlook 201 46 = some (46, .ldc_w 256, 3, 0, 0, 100000, 1) from xlk (by decide +kernel)) rfl rfl ?_
      refine xw_iadd (n := 50) (show xlook 201 49 = some (49, .iadd, 1, 0, 0, 0, 0) from xlk (by decide +kernel)) rfl ?_
      exact xw_ireturn hG3 (show xlook 201 50 = some (50, .ireturn, 1, 0, 0, 0, 0) from xlk (by decide +kernel)) rfl (t hG3)
    · replace t := t.2 c
      refine xw_bipush (n := 30) (show xlook 201 28 = some (28, .bipush (-3), 2, 0, 0, 0, 0) from xlk (by decide +kernel)) rfl (by decide) ?_
      exact xw_ireturn hG2 (show xlook 201 30 = some (30, .ireturn, 1, 0, 0, 0, 0) from xlk (by decide +kernel)) rfl (t hG2)
  · replace t := t.2 c
    refine xw_bipush (n := 15) (show xlook 201 13 = some (13, .bipush (-2), 2, 0, 0, 0, 0) from xlk (by decide +kernel)) rfl (by decide) ?_
    exact xw_ireturn hG1 (show xlook 201 15 = some (15, .ireturn, 1, 0, 0, 0, 0) from xlk (by decide +kernel)) rfl (t hG1)
theorem m201 {X : List Int32} {d : Nat} {F : XF} {Q : Int → XF → Prop} {x1 : Int} {x2 : Int} (hPT : xPT F)  (t : ∃ (j1 : Nat), j1 < d ∧ xMI X j1 155 [.ref (131), vi (x1)] (xup (F) (131) 0 (0)) (fun (y1 : Int) (G1 : XF) => (inR (y1) ∧ (((¬ (y1) = (0)) → ((inR (x2)) ∧ (∃ (j2 : Nat), j2 < d ∧ xMI X j2 132 [vl (x2), vl (0), vl (2000)] (G1) (fun (y2 : Int) (G2 : XF) => (inR (y2) ∧ (((¬ (y2) = (0)) → (∃ (j3 : Nat), j3 < d ∧ xMV X j3 200 [.ref (131), vi (x2)] (G2) (fun (G3 : XF) => ((0 ≤ ((132) + (x1)) ∧ ((132) + (x1)) < 264) ∧ (xPT (G3) → Q (((G3) (140) ((132) + (x1))) + (100000)) (G3)))))) ∧ (¬ (¬ (y2) = (0)) → (xPT (G2) → Q ((-3)) (G2))))))))) ∧ (¬ (¬ (y1) = (0)) → (xPT (G1) → Q ((-2)) (G1))))))) : xMI X d 201 [.ref (131), vi (x1), vi (x2)] F Q := by
  show xW X d 201 0 [.ref (131), vi (x1), vi (x2)] [] F (xqi Q)
  exact s201_0 hPT  t

theorem s202_0 {X : List Int32} {d : Nat} {F : XF} {Q : Int → XF → Prop} {x1 : Int} (hPT : xPT F)  (t : (inR (x1)) ∧ (∃ (j1 : Nat), j1 < d ∧ xMI X j1 132 [vl (x1), vl (0), vl (2000)] (xup (F) (131) 0 (0)) (fun (y1 : Int) (G1 : XF) => (inR (y1) ∧ (((¬ (y1) = (0)) → (∃ (j2 : Nat), j2 < d ∧ xMV X j2 200 [.ref (131), vi (x1)] (G1) (fun (G2 : XF) => (∃ (j3 : Nat), j3 < d ∧ xMI X j3 195 [.ref (131), vi (132)] (G2) (fun (y3 : Int) (G3 : XF) => (xPT (G3) → Q (y3) (G3))))))) ∧ (¬ (¬ (y1) = (0)) → (xPT (G1) → Q ((-3)) (G1)))))))) : xW X d 202 0 [.ref (131), vi (x1)] [] F (xqi Q) := by
  refine xw_aload_n (n := 1) (show xlook 202 0 = some (0, .aload_n 0, 1, 0, 0, 0, 0) from xlk (by decide +kernel)) rfl rfl ?_
  refine xw_iconst (n := 2) (show xlook 202 1 = some (1, .iconst 0, 1, 0, 0, 0, 0) from xlk (by decide +kernel)) rfl ?_
  refine xw_puti (show xlook 202 2 = some (2, .putfield 1, 3, 12, 0, 0, 235) from xlk (by decide +kernel)) (xobf xob_12 (by decide) (by decide)) rfl (n := 5) rfl ?_
  refine xw_iload_n (n := 6) (show xlook 202 5 = some (5, .iload_n 1, 1, 0, 0, 0, 0) from xlk (by decide +kernel)) rfl rfl ?_
  obtain ⟨q1, t⟩ := t
  refine xw_i2l (n := 7) (show xlook 202 6 = some (6, .i2l, 1, 0, 0, 0, 0) from xlk (by decide +kernel)) rfl q1 ?_
  refine xw_lconst (n := 8) (show xlook 202 7 = some (7, .lconst 0, 1, 0, 0, 0, 0) from xlk (by decide +kernel)) rfl (k := 0) (by decide) ?_
  refine xw_ldc2 (n := 11) (show xlook 202 8 = some (8, .ldc2_w 251, 3, 0, 0, 2000, 11) from xlk (by decide +kernel)) rfl ?_
  obtain ⟨j1, hj1, rr1, G1, hm1, hG1, t⟩ := t
  obtain ⟨y1, rfl, t⟩ := t
  refine xw_calls (dk := j1) (as := [vl (x1), vl (0), vl (2000)]) (show xlook 202 11 = some (11, .invokestatic 83, 3, 132, 3, 0, 151) from xlk (by decide +kernel)) (by decide) hj1 ⟨Nat.le_of_ble_eq_true rfl, Nat.le_of_ble_eq_true rfl, Nat.le_of_ble_eq_true rfl, by decide⟩ rfl hm1 (n := 14) rfl ?_
  show xW X d 202 14 [.ref (131), vi (x1)] [vi (y1)] G1 (xqi Q)
  obtain ⟨q0, t⟩ := t
  refine xw_if_ne (n := 17) (m := 20) (show xlook 202 14 = some (14, .ifCond .ne 6, 3, 20, 0, 0, 0) from xlk (by decide +kernel)) rfl rfl q0 ⟨fun c => ?_, fun c => ?_⟩
  · replace t := t.1 c
    refine xw_aload_n (n := 21) (show xlook 202 20 = some (20, .aload_n 0, 1, 0, 0, 0, 0) from xlk (by decide +kernel)) rfl rfl ?_
    refine xw_iload_n (n := 22) (show xlook 202 21 = some (21, .iload_n 1, 1, 0, 0, 0, 0) from xlk (by decide +kernel)) rfl rfl ?_
    obtain ⟨j2, hj2, rr2, G2, hm2, hG2, t⟩ := t
    obtain ⟨rfl, t⟩ := t
    refine xw_callv (dk := j2) (o := 131) (as := [vi (x1)]) (show xlook 202 22 = some (22, .invokevirtual 278, 3, 200, 2, 0, 198) from xlk (by decide +kernel)) (by decide) hj2 ⟨Nat.le_of_ble_eq_true rfl, Nat.le_of_ble_eq_true rfl, Nat.le_of_ble_eq_true rfl⟩ ⟨xob_12.1, xob_12.2, by decide⟩ rfl hm2 (n := 25) rfl ?_
    show xW X d 202 25 [.ref (131), vi (x1)] [] G2 (xqi Q)
    refine xw_aload_n (n := 26) (show xlook 202 25 = some (25, .aload_n 0, 1, 0, 0, 0, 0) from xlk (by decide +kernel)) rfl rfl ?_
    refine xw_sipush (n := 29) (show xlook 202 26 = some (26, .sipush 132, 3, 0, 0, 0, 0) from xlk (by decide +kernel)) rfl (by decide) ?_
    obtain ⟨j3, hj3, rr3, G3, hm3, hG3, t⟩ := t
    obtain ⟨y3, rfl, t⟩ := t
    refine xw_callv (dk := j3) (o := 131) (as := [vi (132)]) (show xlook 202 29 = some (29, .invokevirtual 281, 3, 195, 2, 0, 199) from xlk (by decide +kernel)) (by decide) hj3 ⟨Nat.le_of_ble_eq_true rfl, Nat.le_of_ble_eq_true rfl, Nat.le_of_ble_eq_true rfl⟩ ⟨xob_12.1, xob_12.2, by decide⟩ rfl hm3 (n := 32) rfl ?_
    show xW X d 202 32 [.ref (131), vi (x1)] [vi (y3)] G3 (xqi Q)
    exact xw_ireturn hG3 (show xlook 202 32 = some (32, .ireturn, 1, 0, 0, 0, 0) from xlk (by decide +kernel)) rfl (t hG3)
  · replace t := t.2 c
    refine xw_bipush (n := 19) (show xlook 202 17 = some (17, .bipush (-3), 2, 0, 0, 0, 0) from xlk (by decide +kernel)) rfl (by decide) ?_
    exact xw_ireturn hG1 (show xlook 202 19 = some (19, .ireturn, 1, 0, 0, 0, 0) from xlk (by decide +kernel)) rfl (t hG1)
theorem m202 {X : List Int32} {d : Nat} {F : XF} {Q : Int → XF → Prop} {x1 : Int} (hPT : xPT F)  (t : (inR (x1)) ∧ (∃ (j1 : Nat), j1 < d ∧ xMI X j1 132 [vl (x1), vl (0), vl (2000)] (xup (F) (131) 0 (0)) (fun (y1 : Int) (G1 : XF) => (inR (y1) ∧ (((¬ (y1) = (0)) → (∃ (j2 : Nat), j2 < d ∧ xMV X j2 200 [.ref (131), vi (x1)] (G1) (fun (G2 : XF) => (∃ (j3 : Nat), j3 < d ∧ xMI X j3 195 [.ref (131), vi (132)] (G2) (fun (y3 : Int) (G3 : XF) => (xPT (G3) → Q (y3) (G3))))))) ∧ (¬ (¬ (y1) = (0)) → (xPT (G1) → Q ((-3)) (G1)))))))) : xMI X d 202 [.ref (131), vi (x1)] F Q := by
  show xW X d 202 0 [.ref (131), vi (x1)] [] F (xqi Q)
  exact s202_0 hPT  t

theorem s203_0 {X : List Int32} {d : Nat} {F : XF} {Q : Int → XF → Prop} {x1 : Int} {w2 : Value} {w3 : Value} {w4 : Value} (hPT : xPT F)  (t : ∃ (j1 : Nat), j1 < d ∧ xMI X j1 154 [.ref (131)] (xup (F) (131) 0 (0)) (fun (y1 : Int) (G1 : XF) => (inR (y1) ∧ (((¬ (y1) = (0)) → ((inR (x1)) ∧ (∃ (j2 : Nat), j2 < d ∧ xMI X j2 132 [vl (x1), vl (0), vl (1)] (G1) (fun (y2 : Int) (G2 : XF) => (inR (y2) ∧ (((¬ (y2) = (0)) → (∃ (j3 : Nat), j3 < d ∧ xMV X j3 170 [.ref (131), vi (132)] (G2) (fun (G3 : XF) => (xPT (G3) → xW X d 203 39 [.ref (131), vi (x1), vi (0), vi ((-1)), w4] [] (G3) (xqi Q))))) ∧ (¬ (¬ (y2) = (0)) → (xPT (G2) → Q ((-2)) (G2))))))))) ∧ (¬ (¬ (y1) = (0)) → (xPT (G1) → Q ((-5)) (G1))))))) : xW X d 203 0 [.ref (131), vi (x1), w2, w3, w4] [] F (xqi Q) := by
  refine xw_aload_n (n := 1) (show xlook 203 0 = some (0, .aload_n 0, 1, 0, 0, 0, 0) from xlk (by decide +kernel)) rfl rfl ?_
  refine xw_iconst (n := 2) (show xlook 203 1 = some (1, .iconst 0, 1, 0, 0, 0, 0) from xlk (by decide +kernel)) rfl ?_
  refine xw_puti (show xlook 203 2 = some (2, .putfield 1, 3, 12, 0, 0, 235) from xlk (by decide +kernel)) (xobf xob_12 (by decide) (by decide)) rfl (n := 5) rfl ?_
  refine xw_aload_n (n := 6) (show xlook 203 5 = some (5, .aload_n 0, 1, 0, 0, 0, 0) from xlk (by decide +kernel)) rfl rfl ?_
  obtain ⟨j1, hj1, rr1, G1, hm1, hG1, t⟩ := t
  obtain ⟨y1, rfl, t⟩ := t
  refine xw_callv (dk := j1) (o := 131) (as := []) (show xlook 203 6 = some (6, .invokevirtual 161, 3, 154, 1, 0, 169) from xlk (by decide +kernel)) (by decide) hj1 ⟨Nat.le_of_ble_eq_true rfl, Nat.le_of_ble_eq_true rfl, Nat.le_of_ble_eq_true rfl⟩ ⟨xob_12.1, xob_12.2, by decide⟩ rfl hm1 (n := 9) rfl ?_
  show xW X d 203 9 [.ref (131), vi (x1), w2, w3, w4] [vi (y1)] G1 (xqi Q)
  obtain ⟨q0, t⟩ := t
  refine xw_if_ne (n := 12) (m := 15) (show xlook 203 9 = some (9, .ifCond .ne 6, 3, 15, 0, 0, 0) from xlk (by decide +kernel)) rfl rfl q0 ⟨fun c => ?_, fun c => ?_⟩
  · replace t := t.1 c
    refine xw_iload_n (n := 16) (show xlook 203 15 = some (15, .iload_n 1, 1, 0, 0, 0, 0) from xlk (by decide +kernel)) rfl rfl ?_
    obtain ⟨q1, t⟩ := t
    refine xw_i2l (n := 17) (show xlook 203 16 = some (16, .i2l, 1, 0, 0, 0, 0) from xlk (by decide +kernel)) rfl q1 ?_
    refine xw_lconst (n := 18) (show xlook 203 17 = some (17, .lconst 0, 1, 0, 0, 0, 0) from xlk (by decide +kernel)) rfl (k := 0) (by decide) ?_
    refine xw_lconst (n := 19) (show xlook 203 18 = some (18, .lconst 1, 1, 0, 0, 0, 0) from xlk (by decide +kernel)) rfl (k := 1) (by decide) ?_
    obtain ⟨j2, hj2, rr2, G2, hm2, hG2, t⟩ := t
    obtain ⟨y2, rfl, t⟩ := t
    refine xw_calls (dk := j2) (as := [vl (x1), vl (0), vl (1)]) (show xlook 203 19 = some (19, .invokestatic 83, 3, 132, 3, 0, 151) from xlk (by decide +kernel)) (by decide) hj2 ⟨Nat.le_of_ble_eq_true rfl, Nat.le_of_ble_eq_true rfl, Nat.le_of_ble_eq_true rfl, by decide⟩ rfl hm2 (n := 22) rfl ?_
    show xW X d 203 22 [.ref (131), vi (x1), w2, w3, w4] [vi (y2)] G2 (xqi Q)
    obtain ⟨q0, t⟩ := t
    refine xw_if_ne (n := 25) (m := 28) (show xlook 203 22 = some (22, .ifCond .ne 6, 3, 28, 0, 0, 0) from xlk (by decide +kernel)) rfl rfl q0 ⟨fun c => ?_, fun c => ?_⟩
    · replace t := t.1 c
      refine xw_aload_n (n := 29) (show xlook 203 28 = some (28, .aload_n 0, 1, 0, 0, 0, 0) from xlk (by decide +kernel)) rfl rfl ?_
      refine xw_sipush (n := 32) (show xlook 203 29 = some (29, .sipush 132, 3, 0, 0, 0, 0) from xlk (by decide +kernel)) rfl (by decide) ?_
      obtain ⟨j3, hj3, rr3, G3, hm3, hG3, t⟩ := t
      obtain ⟨rfl, t⟩ := t
      refine xw_callv (dk := j3) (o := 131) (as := [vi (132)]) (show xlook 203 32 = some (32, .invokevirtual 63, 3, 170, 2, 0, 150) from xlk (by decide +kernel)) (by decide) hj3 ⟨Nat.le_of_ble_eq_true rfl, Nat.le_of_ble_eq_true rfl, Nat.le_of_ble_eq_true rfl⟩ ⟨xob_12.1, xob_12.2, by decide⟩ rfl hm3 (n := 35) rfl ?_
      show xW X d 203 35 [.ref (131), vi (x1), w2, w3, w4] [] G3 (xqi Q)
      refine xw_iconst (n := 36) (show xlook 203 35 = some (35, .iconst 0, 1, 0, 0, 0, 0) from xlk (by decide +kernel)) rfl ?_
      refine xw_istore_n (n := 37) (show xlook 203 36 = some (36, .istore_n 2, 1, 0, 0, 0, 0) from xlk (by decide +kernel)) rfl (ls' := [.ref (131), vi (x1), vi (0), w3, w4]) (Nat.le_of_ble_eq_true rfl) rfl ?_
      refine xw_iconst (n := 38) (show xlook 203 37 = some (37, .iconst (-1), 1, 0, 0, 0, 0) from xlk (by decide +kernel)) rfl ?_
      refine xw_istore_n (n := 39) (show xlook 203 38 = some (38, .istore_n 3, 1, 0, 0, 0, 0) from xlk (by decide +kernel)) rfl (ls' := [.ref (131), vi (x1), vi (0), vi ((-1)), w4]) (Nat.le_of_ble_eq_true rfl) rfl ?_
      exact t hG3
    · replace t := t.2 c
      refine xw_bipush (n := 27) (show xlook 203 25 = some (25, .bipush (-2), 2, 0, 0, 0, 0) from xlk (by decide +kernel)) rfl (by decide) ?_
      exact xw_ireturn hG2 (show xlook 203 27 = some (27, .ireturn, 1, 0, 0, 0, 0) from xlk (by decide +kernel)) rfl (t hG2)
  · replace t := t.2 c
    refine xw_bipush (n := 14) (show xlook 203 12 = some (12, .bipush (-5), 2, 0, 0, 0, 0) from xlk (by decide +kernel)) rfl (by decide) ?_
    exact xw_ireturn hG1 (show xlook 203 14 = some (14, .ireturn, 1, 0, 0, 0, 0) from xlk (by decide +kernel)) rfl (t hG1)
theorem m203 {X : List Int32} {d : Nat} {F : XF} {Q : Int → XF → Prop} {x1 : Int} (hPT : xPT F)  (t : ∃ (j1 : Nat), j1 < d ∧ xMI X j1 154 [.ref (131)] (xup (F) (131) 0 (0)) (fun (y1 : Int) (G1 : XF) => (inR (y1) ∧ (((¬ (y1) = (0)) → ((inR (x1)) ∧ (∃ (j2 : Nat), j2 < d ∧ xMI X j2 132 [vl (x1), vl (0), vl (1)] (G1) (fun (y2 : Int) (G2 : XF) => (inR (y2) ∧ (((¬ (y2) = (0)) → (∃ (j3 : Nat), j3 < d ∧ xMV X j3 170 [.ref (131), vi (132)] (G2) (fun (G3 : XF) => (xPT (G3) → xW X d 203 39 [.ref (131), vi (x1), vi (0), vi ((-1)), xU0] [] (G3) (xqi Q))))) ∧ (¬ (¬ (y2) = (0)) → (xPT (G2) → Q ((-2)) (G2))))))))) ∧ (¬ (¬ (y1) = (0)) → (xPT (G1) → Q ((-5)) (G1))))))) : xMI X d 203 [.ref (131), vi (x1)] F Q := by
  show xW X d 203 0 [.ref (131), vi (x1), xU0, xU0, xU0] [] F (xqi Q)
  exact s203_0 hPT  t

theorem s203_39 {X : List Int32} {d : Nat} {F : XF} {Q : Int → XF → Prop} {x1 : Int} {x2 : Int} {x3 : Int} {w4 : Value} (hPT : xPT F)  (t : ∃ (j1 : Nat), j1 < d ∧ xMI X j1 154 [.ref (131)] (F) (fun (y1 : Int) (G1 : XF) => (∃ (j2 : Nat), j2 < d ∧ xMI X j2 171 [.ref (131), vi (132), vi ((y1) - (1))] (G1) (fun (y2 : Int) (G2 : XF) => (inR (((F) (140) 132) - (y2)) ∧ inR (x2) ∧ ((((((F) (140) 132) - (y2)) ≤ (x2)) → (xPT (G2) → xW X d 203 81 [.ref (131), vi (x1), vi (x2), vi (x3), vi (((F) (140) 132) - (y2))] [] (G2) (xqi Q))) ∧ (¬ ((((F) (140) 132) - (y2)) ≤ (x2)) → (xPT (G2) → xW X d 203 81 [.ref (131), vi (x1), vi (((F) (140) 132) - (y2)), vi ((G2) (140) 262), vi (((F) (140) 132) - (y2))] [] (G2) (xqi Q))))))))) : xW X d 203 39 [.ref (131), vi (x1), vi (x2), vi (x3), w4] [] F (xqi Q) := by
  refine xw_aload_n (n := 40) (show xlook 203 39 = some (39, .aload_n 0, 1, 0, 0, 0, 0) from xlk (by decide +kernel)) rfl rfl ?_
  refine xw_getr (q := 140) (show xlook 203 40 = some (40, .getfield 42, 3, 12, 18, 0, 229) from xlk (by decide +kernel)) (by decide) (xobf xob_12 (by decide) (by decide)) rfl (xPT_get (k := 18) (f := 9) hPT xob_12 (by decide)) (by have := (xtg_12_18 _ xob_12.1 xob_12.2).1.1; omega) (n := 43) rfl ?_
  refine xw_sipush (n := 46) (show xlook 203 43 = some (43, .sipush 132, 3, 0, 0, 0, 0) from xlk (by decide +kernel)) rfl (by decide) ?_
  refine xw_iald (show xlook 203 46 = some (46, .iaload, 1, 0, 0, 0, 0) from xlk (by decide +kernel)) (xtg_12_18 _ xob_12.1 xob_12.2).1 (by rw [(xtg_12_18 _ xob_12.1 xob_12.2).2]; decide) (n := 47) rfl ?_
  refine xw_aload_n (n := 48) (show xlook 203 47 = some (47, .aload_n 0, 1, 0, 0, 0, 0) from xlk (by decide +kernel)) rfl rfl ?_
  refine xw_sipush (n := 51) (show xlook 203 48 = some (48, .sipush 132, 3, 0, 0, 0, 0) from xlk (by decide +kernel)) rfl (by decide) ?_
  refine xw_aload_n (n := 52) (show xlook 203 51 = some (51, .aload_n 0, 1, 0, 0, 0, 0) from xlk (by decide +kernel)) rfl rfl ?_
  obtain ⟨j1, hj1, rr1, G1, hm1, hG1, t⟩ := t
  obtain ⟨y1, rfl, t⟩ := t
  refine xw_callv (dk := j1) (o := 131) (as := []) (show xlook 203 52 = some (52, .invokevirtual 161, 3, 154, 1, 0, 169) from xlk (by decide +kernel)) (by decide) hj1 ⟨Nat.le_of_ble_eq_true rfl, Nat.le_of_ble_eq_true rfl, Nat.le_of_ble_eq_true rfl⟩ ⟨xob_12.1, xob_12.2, by decide⟩ rfl hm1 (n := 55) rfl ?_
  show xW X d 203 55 [.ref (131), vi (x1), vi (x2), vi (x3), w4] [vi (y1), vi (132), .ref (131), vi ((F) (140) 132)] G1 (xqi Q)
  refine xw_iconst (n := 56) (show xlook 203 55 = some (55, .iconst 1, 1, 0, 0, 0, 0) from xlk (by decide +kernel)) rfl ?_
  refine xw_isub (n := 57) (show xlook 203 56 = some (56, .isub, 1, 0, 0, 0, 0) from xlk (by decide +kernel)) rfl ?_
  obtain ⟨j2, hj2, rr2, G2, hm2, hG2, t⟩ := t
  obtain ⟨y2, rfl, t⟩ := t
  refine xw_callv (dk := j2) (o := 131) (as := [vi (132), vi ((y1) - (1))]) (show xlook 203 57 = some (57, .invokevirtual 203, 3, 171, 3, 0, 179) from xlk (by decide +kernel)) (by decide) hj2 ⟨Nat.le_of_ble_eq_true rfl, Nat.le_of_ble_eq_true rfl, Nat.le_of_ble_eq_true rfl⟩ ⟨xob_12.1, xob_12.2, by decide⟩ rfl hm2 (n := 60) rfl ?_
  show xW X d 203 60 [.ref (131), vi (x1), vi (x2), vi (x3), w4] [vi (y2), vi ((F) (140) 132)] G2 (xqi Q)
  refine xw_isub (n := 61) (show xlook 203 60 = some (60, .isub, 1, 0, 0, 0, 0) from xlk (by decide +kernel)) rfl ?_
  refine xw_istore (n := 63) (show xlook 203 61 = some (61, .istore 4, 2, 0, 0, 0, 0) from xlk (by decide +kernel)) rfl (ls' := [.ref (131), vi (x1), vi (x2), vi (x3), vi (((F) (140) 132) - (y2))]) (Nat.le_of_ble_eq_true rfl) rfl ?_
  refine xw_iload (n := 65) (show xlook 203 63 = some (63, .iload 4, 2, 0, 0, 0, 0) from xlk (by decide +kernel)) rfl rfl ?_
  refine xw_iload_n (n := 66) (show xlook 203 65 = some (65, .iload_n 2, 1, 0, 0, 0, 0) from xlk (by decide +kernel)) rfl rfl ?_
  obtain ⟨q0, q1, t⟩ := t
  refine xw_icmp_le (n := 69) (m := 81) (show xlook 203 66 = some (66, .if_icmp .le 15, 3, 81, 0, 0, 0) from xlk (by decide +kernel)) rfl rfl q0 q1 ⟨fun c => ?_, fun c => ?_⟩
  · replace t := t.1 c
    exact t hG2
  · replace t := t.2 c
    refine xw_iload (n := 71) (show xlook 203 69 = some (69, .iload 4, 2, 0, 0, 0, 0) from xlk (by decide +kernel)) rfl rfl ?_
    refine xw_istore_n (n := 72) (show xlook 203 71 = some (71, .istore_n 2, 1, 0, 0, 0, 0) from xlk (by decide +kernel)) rfl (ls' := [.ref (131), vi (x1), vi (((F) (140) 132) - (y2)), vi (x3), vi (((F) (140) 132) - (y2))]) (Nat.le_of_ble_eq_true rfl) rfl ?_
    refine xw_aload_n (n := 73) (show xlook 203 72 = some (72, .aload_n 0, 1, 0, 0, 0, 0) from xlk (by decide +kernel)) rfl rfl ?_
    refine xw_getr (q := 140) (show xlook 203 73 = some (73, .getfield 42, 3, 12, 18, 0, 229) from xlk (by decide +kernel)) (by decide) (xobf xob_12 (by decide) (by decide)) rfl (xPT_get (k := 18) (f := 9) hG2 xob_12 (by decide)) (by have := (xtg_12_18 _ xob_12.1 xob_12.2).1.1; omega) (n := 76) rfl ?_
    refine xw_sipush (n := 79) (show xlook 203 76 = some (76, .sipush 262, 3, 0, 0, 0, 0) from xlk (by decide +kernel)) rfl (by decide) ?_
    refine xw_iald (show xlook 203 79 = some (79, .iaload, 1, 0, 0, 0, 0) from xlk (by decide +kernel)) (xtg_12_18 _ xob_12.1 xob_12.2).1 (by rw [(xtg_12_18 _ xob_12.1 xob_12.2).2]; decide) (n := 80) rfl ?_
    refine xw_istore_n (n := 81) (show xlook 203 80 = some (80, .istore_n 3, 1, 0, 0, 0, 0) from xlk (by decide +kernel)) rfl (ls' := [.ref (131), vi (x1), vi (((F) (140) 132) - (y2)), vi ((G2) (140) 262), vi (((F) (140) 132) - (y2))]) (Nat.le_of_ble_eq_true rfl) rfl ?_
    exact t hG2

theorem s203_81 {X : List Int32} {d : Nat} {F : XF} {Q : Int → XF → Prop} {x1 : Int} {x2 : Int} {x3 : Int} {x4 : Int} (hPT : xPT F)  (t : ∃ (j1 : Nat), j1 < d ∧ xMI X j1 154 [.ref (131)] (F) (fun (y1 : Int) (G1 : XF) => (inR ((F) (140) 263) ∧ inR (y1) ∧ (((((F) (140) 263) = (y1)) → (inR (x1) ∧ (((¬ (x1) = (0)) → (xPT (G1) → Q (x3) (G1))) ∧ (¬ (¬ (x1) = (0)) → (xPT (G1) → Q (x2) (G1)))))) ∧ (¬ (((F) (140) 263) = (y1)) → (inR ((G1) (140) 262) ∧ (((¬ ((G1) (140) 262) = (2000)) → (∃ (j2 : Nat), j2 < d ∧ xMV X j2 181 [.ref (131), vi (132)] (G1) (fun (G2 : XF) => (xPT (G2) → xW X d 203 39 [.ref (131), vi (x1), vi (x2), vi (x3), vi (x4)] [] (G2) (xqi Q))))) ∧ (¬ (¬ ((G1) (140) 262) = (2000)) → (inR (x1) ∧ (((¬ (x1) = (0)) → (xPT (G1) → Q (x3) (G1))) ∧ (¬ (¬ (x1) = (0)) → (xPT (G1) → Q (x2) (G1))))))))))))) : xW X d 203 81 [.ref (131), vi (x1), vi (x2), vi (x3), vi (x4)] [] F (xqi Q) := by
  refine xw_aload_n (n := 82) (show xlook 203 81 = some (81, .aload_n 0, 1, 0, 0, 0, 0) from xlk (by decide +kernel)) rfl rfl ?_
  refine xw_getr (q := 140) (show xlook 203 82 = some (82, .getfield 42, 3, 12, 18, 0, 229) from xlk (by decide +kernel)) (by decide) (xobf xob_12 (by decide) (by decide)) rfl (xPT_get (k := 18) (f := 9) hPT xob_12 (by decide)) (by have := (xtg_12_18 _ xob_12.1 xob_12.2).1.1; omega) (n := 85) rfl ?_
  refine xw_sipush (n := 88) (show xlook 203 85 = some (85, .sipush 263, 3, 0, 0, 0, 0) from xlk (by decide +kernel)) rfl (by decide) ?_
  refine xw_iald (show xlook 203 88 = some (88, .iaload, 1, 0, 0, 0, 0) from xlk (by decide +kernel)) (xtg_12_18 _ xob_12.1 xob_12.2).1 (by rw [(xtg_12_18 _ xob_12.1 xob_12.2).2]; decide) (n := 89) rfl ?_
  refine xw_aload_n (n := 90) (show xlook 203 89 = some (89, .aload_n 0, 1, 0, 0, 0, 0) from xlk (by decide +kernel)) rfl rfl ?_
  obtain ⟨j1, hj1, rr1, G1, hm1, hG1, t⟩ := t
  obtain ⟨y1, rfl, t⟩ := t
  refine xw_callv (dk := j1) (o := 131) (as := []) (show xlook 203 90 = some (90, .invokevirtual 161, 3, 154, 1, 0, 169) from xlk (by decide +kernel)) (by decide) hj1 ⟨Nat.le_of_ble_eq_true rfl, Nat.le_of_ble_eq_true rfl, Nat.le_of_ble_eq_true rfl⟩ ⟨xob_12.1, xob_12.2, by decide⟩ rfl hm1 (n := 93) rfl ?_
  show xW X d 203 93 [.ref (131), vi (x1), vi (x2), vi (x3), vi (x4)] [vi (y1), vi ((F) (140) 263)] G1 (xqi Q)
  obtain ⟨q0, q1, t⟩ := t
  refine xw_icmp_eq (n := 96) (m := 110) (show xlook 203 93 = some (93, .if_icmp .eq 17, 3, 110, 0, 0, 0) from xlk (by decide +kernel)) rfl rfl q0 q1 ⟨fun c => ?_, fun c => ?_⟩
  · replace t := t.1 c
    refine xw_iload_n (n := 111) (show xlook 203 110 = some (110, .iload_n 1, 1, 0, 0, 0, 0) from xlk (by decide +kernel)) rfl rfl ?_
    obtain ⟨q0, t⟩ := t
    refine xw_if_ne (n := 114) (m := 118) (show xlook 203 111 = some (111, .ifCond .ne 7, 3, 118, 0, 0, 0) from xlk (by decide +kernel)) rfl rfl q0 ⟨fun c => ?_, fun c => ?_⟩
    · replace t := t.1 c
      refine xw_iload_n (n := 119) (show xlook 203 118 = some (118, .iload_n 3, 1, 0, 0, 0, 0) from xlk (by decide +kernel)) rfl rfl ?_
      exact xw_ireturn hG1 (show xlook 203 119 = some (119, .ireturn, 1, 0, 0, 0, 0) from xlk (by decide +kernel)) rfl (t hG1)
    · replace t := t.2 c
      refine xw_iload_n (n := 115) (show xlook 203 114 = some (114, .iload_n 2, 1, 0, 0, 0, 0) from xlk (by decide +kernel)) rfl rfl ?_
      refine xw_goto (m := 119) (show xlook 203 115 = some (115, .goto 4, 3, 119, 0, 0, 0) from xlk (by decide +kernel)) rfl ?_
      exact xw_ireturn hG1 (show xlook 203 119 = some (119, .ireturn, 1, 0, 0, 0, 0) from xlk (by decide +kernel)) rfl (t hG1)
  · replace t := t.2 c
    refine xw_aload_n (n := 97) (show xlook 203 96 = some (96, .aload_n 0, 1, 0, 0, 0, 0) from xlk (by decide +kernel)) rfl rfl ?_
    refine xw_getr (q := 140) (show xlook 203 97 = some (97, .getfield 42, 3, 12, 18, 0, 229) from xlk (by decide +kernel)) (by decide) (xobf xob_12 (by decide) (by decide)) rfl (xPT_get (k := 18) (f := 9) hG1 xob_12 (by decide)) (by have := (xtg_12_18 _ xob_12.1 xob_12.2).1.1; omega) (n := 100) rfl ?_
    refine xw_sipush (n := 103) (show xlook 203 100 = some (100, .sipush 262, 3, 0, 0, 0, 0) from xlk (by decide +kernel)) rfl (by decide) ?_
    refine xw_iald (show xlook 203 103 = some (103, .iaload, 1, 0, 0, 0, 0) from xlk (by decide +kernel)) (xtg_12_18 _ xob_12.1 xob_12.2).1 (by rw [(xtg_12_18 _ xob_12.1 xob_12.2).2]; decide) (n := 104) rfl ?_
    refine xw_sipush (n := 107) (show xlook 203 104 = some (104, .sipush 2000, 3, 0, 0, 0, 0) from xlk (by decide +kernel)) rfl (by decide) ?_
    obtain ⟨q0, t⟩ := t
    refine xw_icmp_ne (n := 110) (m := 120) (show xlook 203 107 = some (107, .if_icmp .ne 13, 3, 120, 0, 0, 0) from xlk (by decide +kernel)) rfl rfl q0 ⟨by decide, by decide⟩ ⟨fun c => ?_, fun c => ?_⟩
    · replace t := t.1 c
      refine xw_aload_n (n := 121) (show xlook 203 120 = some (120, .aload_n 0, 1, 0, 0, 0, 0) from xlk (by decide +kernel)) rfl rfl ?_
      refine xw_sipush (n := 124) (show xlook 203 121 = some (121, .sipush 132, 3, 0, 0, 0, 0) from xlk (by decide +kernel)) rfl (by decide) ?_
      obtain ⟨j2, hj2, rr2, G2, hm2, hG2, t⟩ := t
      obtain ⟨rfl, t⟩ := t
      refine xw_callv (dk := j2) (o := 131) (as := [vi (132)]) (show xlook 203 124 = some (124, .invokevirtual 253, 3, 181, 2, 0, 191) from xlk (by decide +kernel)) (by decide) hj2 ⟨Nat.le_of_ble_eq_true rfl, Nat.le_of_ble_eq_true rfl, Nat.le_of_ble_eq_true rfl⟩ ⟨xob_12.1, xob_12.2, by decide⟩ rfl hm2 (n := 127) rfl ?_
      show xW X d 203 127 [.ref (131), vi (x1), vi (x2), vi (x3), vi (x4)] [] G2 (xqi Q)
      refine xw_goto (m := 39) (show xlook 203 127 = some (127, .goto (-88), 3, 39, 0, 0, 0) from xlk (by decide +kernel)) rfl ?_
      exact t hG2
    · replace t := t.2 c
      refine xw_iload_n (n := 111) (show xlook 203 110 = some (110, .iload_n 1, 1, 0, 0, 0, 0) from xlk (by decide +kernel)) rfl rfl ?_
      obtain ⟨q0, t⟩ := t
      refine xw_if_ne (n := 114) (m := 118) (show xlook 203 111 = some (111, .ifCond .ne 7, 3, 118, 0, 0, 0) from xlk (by decide +kernel)) rfl rfl q0 ⟨fun c => ?_, fun c => ?_⟩
      · replace t := t.1 c
        refine xw_iload_n (n := 119) (show xlook 203 118 = some (118, .iload_n 3, 1, 0, 0, 0, 0) from xlk (by decide +kernel)) rfl rfl ?_
        exact xw_ireturn hG1 (show xlook 203 119 = some (119, .ireturn, 1, 0, 0, 0, 0) from xlk (by decide +kernel)) rfl (t hG1)
      · replace t := t.2 c
        refine xw_iload_n (n := 115) (show xlook 203 114 = some (114, .iload_n 2, 1, 0, 0, 0, 0) from xlk (by decide +kernel)) rfl rfl ?_
        refine xw_goto (m := 119) (show xlook 203 115 = some (115, .goto 4, 3, 119, 0, 0, 0) from xlk (by decide +kernel)) rfl ?_
        exact xw_ireturn hG1 (show xlook 203 119 = some (119, .ireturn, 1, 0, 0, 0, 0) from xlk (by decide +kernel)) rfl (t hG1)

theorem s204_0 {X : List Int32} {d : Nat} {F : XF} {Q : Int → XF → Prop} {x1 : Int} {x2 : Int} {w3 : Value} {w4 : Value} {w5 : Value} (hPT : xPT F)  (t : xPT (F) → xW X d 204 5 [.ref (131), vi (x1), vi (x2), vi (0), vi (x1), w5] [] (F) (xqi Q)) : xW X d 204 0 [.ref (131), vi (x1), vi (x2), w3, w4, w5] [] F (xqi Q) := by
  refine xw_iconst (n := 1) (show xlook 204 0 = some (0, .iconst 0, 1, 0, 0, 0, 0) from xlk (by decide +kernel)) rfl ?_
  refine xw_istore_n (n := 2) (show xlook 204 1 = some (1, .istore_n 3, 1, 0, 0, 0, 0) from xlk (by decide +kernel)) rfl (ls' := [.ref (131), vi (x1), vi (x2), vi (0), w4, w5]) (Nat.le_of_ble_eq_true rfl) rfl ?_
  refine xw_iload_n (n := 3) (show xlook 204 2 = some (2, .iload_n 1, 1, 0, 0, 0, 0) from xlk (by decide +kernel)) rfl rfl ?_
  refine xw_istore (n := 5) (show xlook 204 3 = some (3, .istore 4, 2, 0, 0, 0, 0) from xlk (by decide +kernel)) rfl (ls' := [.ref (131), vi (x1), vi (x2), vi (0), vi (x1), w5]) (Nat.le_of_ble_eq_true rfl) rfl ?_
  exact t hPT
theorem m204 {X : List Int32} {d : Nat} {F : XF} {Q : Int → XF → Prop} {x1 : Int} {x2 : Int} (hPT : xPT F)  (t : xPT (F) → xW X d 204 5 [.ref (131), vi (x1), vi (x2), vi (0), vi (x1), xU0] [] (F) (xqi Q)) : xMI X d 204 [.ref (131), vi (x1), vi (x2)] F Q := by
  show xW X d 204 0 [.ref (131), vi (x1), vi (x2), xU0, xU0, xU0] [] F (xqi Q)
  exact s204_0 hPT  t

theorem s204_5 {X : List Int32} {d : Nat} {F : XF} {Q : Int → XF → Prop} {x1 : Int} {x2 : Int} {x3 : Int} {x4 : Int} {w5 : Value} (hPT : xPT F)  (t : inR (x4) ∧ inR (x2) ∧ ((((x2) < (x4)) → (xPT (F) → xW X d 204 50 [.ref (131), vi (x1), vi (x2), vi (x3), vi (0), w5] [] (F) (xqi Q))) ∧ (¬ ((x2) < (x4)) → ((0 ≤ ((78) + (x4)) ∧ ((78) + (x4)) < 163) ∧ (inR (x4) ∧ inR (x1) ∧ (((¬ (x4) = (x1)) → (xPT (F) → xW X d 204 5 [.ref (131), vi (x1), vi (x2), vi ((x3) + (((F) (132) ((78) + (x4))) + ((F) (132) 2))), vi (x4 + 1), w5] [] (F) (xqi Q))) ∧ (¬ (¬ (x4) = (x1)) → (xPT (F) → xW X d 204 5 [.ref (131), vi (x1), vi (x2), vi ((x3) + (((F) (132) ((78) + (x4))) + (0))), vi (x4 + 1), w5] [] (F) (xqi Q))))))))) : xW X d 204 5 [.ref (131), vi (x1), vi (x2), vi (x3), vi (x4), w5] [] F (xqi Q) := by
  refine xw_iload (n := 7) (show xlook 204 5 = some (5, .iload 4, 2, 0, 0, 0, 0) from xlk (by decide +kernel)) rfl rfl ?_
  refine xw_iload_n (n := 8) (show xlook 204 7 = some (7, .iload_n 2, 1, 0, 0, 0, 0) from xlk (by decide +kernel)) rfl rfl ?_
  obtain ⟨q0, q1, t⟩ := t
  refine xw_icmp_gt (n := 11) (m := 47) (show xlook 204 8 = some (8, .if_icmp .gt 39, 3, 47, 0, 0, 0) from xlk (by decide +kernel)) rfl rfl q0 q1 ⟨fun c => ?_, fun c => ?_⟩
  · replace t := t.1 c
    refine xw_iconst (n := 48) (show xlook 204 47 = some (47, .iconst 0, 1, 0, 0, 0, 0) from xlk (by decide +kernel)) rfl ?_
    refine xw_istore (n := 50) (show xlook 204 48 = some (48, .istore 4, 2, 0, 0, 0, 0) from xlk (by decide +kernel)) rfl (ls' := [.ref (131), vi (x1), vi (x2), vi (x3), vi (0), w5]) (Nat.le_of_ble_eq_true rfl) rfl ?_
    exact t hPT
  · replace t := t.2 c
    refine xw_iload_n (n := 12) (show xlook 204 11 = some (11, .iload_n 3, 1, 0, 0, 0, 0) from xlk (by decide +kernel)) rfl rfl ?_
    refine xw_aload_n (n := 13) (show xlook 204 12 = some (12, .aload_n 0, 1, 0, 0, 0, 0) from xlk (by decide +kernel)) rfl rfl ?_
    refine xw_getr (q := 132) (show xlook 204 13 = some (13, .getfield 13, 3, 12, 1, 0, 220) from xlk (by decide +kernel)) (by decide) (xobf xob_12 (by decide) (by decide)) rfl (xPT_get (k := 1) (f := 1) hPT xob_12 (by decide)) (by have := (xtg_12_1 _ xob_12.1 xob_12.2).1.1; omega) (n := 16) rfl ?_
    refine xw_bipush (n := 18) (show xlook 204 16 = some (16, .bipush 78, 2, 0, 0, 0, 0) from xlk (by decide +kernel)) rfl (by decide) ?_
    refine xw_iload (n := 20) (show xlook 204 18 = some (18, .iload 4, 2, 0, 0, 0, 0) from xlk (by decide +kernel)) rfl rfl ?_
    refine xw_iadd (n := 21) (show xlook 204 20 = some (20, .iadd, 1, 0, 0, 0, 0) from xlk (by decide +kernel)) rfl ?_
    obtain ⟨q1, t⟩ := t
    refine xw_iald (show xlook 204 21 = some (21, .iaload, 1, 0, 0, 0, 0) from xlk (by decide +kernel)) (xtg_12_1 _ xob_12.1 xob_12.2).1 (by rw [(xtg_12_1 _ xob_12.1 xob_12.2).2]; exact q1) (n := 22) rfl ?_
    refine xw_iload (n := 24) (show xlook 204 22 = some (22, .iload 4, 2, 0, 0, 0, 0) from xlk (by decide +kernel)) rfl rfl ?_
    refine xw_iload_n (n := 25) (show xlook 204 24 = some (24, .iload_n 1, 1, 0, 0, 0, 0) from xlk (by decide +kernel)) rfl rfl ?_
    obtain ⟨q0, q1, t⟩ := t
    refine xw_icmp_ne (n := 28) (m := 32) (show xlook 204 25 = some (25, .if_icmp .ne 7, 3, 32, 0, 0, 0) from xlk (by decide +kernel)) rfl rfl q0 q1 ⟨fun c => ?_, fun c => ?_⟩
    · replace t := t.1 c
      refine xw_aload_n (n := 33) (show xlook 204 32 = some (32, .aload_n 0, 1, 0, 0, 0, 0) from xlk (by decide +kernel)) rfl rfl ?_
      refine xw_getr (q := 132) (show xlook 204 33 = some (33, .getfield 13, 3, 12, 1, 0, 220) from xlk (by decide +kernel)) (by decide) (xobf xob_12 (by decide) (by decide)) rfl (xPT_get (k := 1) (f := 1) hPT xob_12 (by decide)) (by have := (xtg_12_1 _ xob_12.1 xob_12.2).1.1; omega) (n := 36) rfl ?_
      refine xw_iconst (n := 37) (show xlook 204 36 = some (36, .iconst 2, 1, 0, 0, 0, 0) from xlk (by decide +kernel)) rfl ?_
      refine xw_iald (show xlook 204 37 = some (37, .iaload, 1, 0, 0, 0, 0) from xlk (by decide +kernel)) (xtg_12_1 _ xob_12.1 xob_12.2).1 (by rw [(xtg_12_1 _ xob_12.1 xob_12.2).2]; decide) (n := 38) rfl ?_
      refine xw_iadd (n := 39) (show xlook 204 38 = some (38, .iadd, 1, 0, 0, 0, 0) from xlk (by decide +kernel)) rfl ?_
      refine xw_iadd (n := 40) (show xlook 204 39 = some (39, .iadd, 1, 0, 0, 0, 0) from xlk (by decide +kernel)) rfl ?_
      refine xw_istore_n (n := 41) (show xlook 204 40 = some (40, .istore_n 3, 1, 0, 0, 0, 0) from xlk (by decide +kernel)) rfl (ls' := [.ref (131), vi (x1), vi (x2), vi ((x3) + (((F) (132) ((78) + (x4))) + ((F) (132) 2))), vi (x4), w5]) (Nat.le_of_ble_eq_true rfl) rfl ?_
      refine xw_iinc (n := 44) (show xlook 204 41 = some (41, .iinc 4 1, 3, 0, 0, 0, 0) from xlk (by decide +kernel)) rfl (ls' := [.ref (131), vi (x1), vi (x2), vi ((x3) + (((F) (132) ((78) + (x4))) + ((F) (132) 2))), vi (x4 + 1), w5]) rfl rfl ?_
      refine xw_goto (m := 5) (show xlook 204 44 = some (44, .goto (-39), 3, 5, 0, 0, 0) from xlk (by decide +kernel)) rfl ?_
      exact t hPT
    · replace t := t.2 c
      refine xw_iconst (n := 29) (show xlook 204 28 = some (28, .iconst 0, 1, 0, 0, 0, 0) from xlk (by decide +kernel)) rfl ?_
      refine xw_goto (m := 38) (show xlook 204 29 = some (29, .goto 9, 3, 38, 0, 0, 0) from xlk (by decide +kernel)) rfl ?_
      refine xw_iadd (n := 39) (show xlook 204 38 = some (38, .iadd, 1, 0, 0, 0, 0) from xlk (by decide +kernel)) rfl ?_
      refine xw_iadd (n := 40) (show xlook 204 39 = some (39, .iadd, 1, 0, 0, 0, 0) from xlk (by decide +kernel)) rfl ?_
      refine xw_istore_n (n := 41) (show xlook 204 40 = some (40, .istore_n 3, 1, 0, 0, 0, 0) from xlk (by decide +kernel)) rfl (ls' := [.ref (131), vi (x1), vi (x2), vi ((x3) + (((F) (132) ((78) + (x4))) + (0))), vi (x4), w5]) (Nat.le_of_ble_eq_true rfl) rfl ?_
      refine xw_iinc (n := 44) (show xlook 204 41 = some (41, .iinc 4 1, 3, 0, 0, 0, 0) from xlk (by decide +kernel)) rfl (ls' := [.ref (131), vi (x1), vi (x2), vi ((x3) + (((F) (132) ((78) + (x4))) + (0))), vi (x4 + 1), w5]) rfl rfl ?_
      refine xw_goto (m := 5) (show xlook 204 44 = some (44, .goto (-39), 3, 5, 0, 0, 0) from xlk (by decide +kernel)) rfl ?_
      exact t hPT

theorem s204_50 {X : List Int32} {d : Nat} {F : XF} {Q : Int → XF → Prop} {x1 : Int} {x2 : Int} {x3 : Int} {x4 : Int} {w5 : Value} (hPT : xPT F)  (t : inR (x4) ∧ inR ((F) (132) 4) ∧ (((((F) (132) 4) ≤ (x4)) → (xPT (F) → Q (1) (F))) ∧ (¬ (((F) (132) 4) ≤ (x4)) → (∃ (j1 : Nat), j1 < d ∧ xMI X j1 168 [.ref (131), vi (x4)] (F) (fun (y1 : Int) (G1 : XF) => (inR (y1) ∧ (((¬ (y1) = (0)) → (xPT (G1) → xW X d 204 50 [.ref (131), vi (x1), vi (x2), vi (x3), vi (x4 + 1), vi ((8) + ((7) * (x4)))] [] (G1) (xqi Q))) ∧ (¬ (¬ (y1) = (0)) → (∃ (j2 : Nat), j2 < d ∧ xMI X j2 165 [.ref (131), vi (x4)] (G1) (fun (y2 : Int) (G2 : XF) => ((0 ≤ ((((y2) + (x3)) + ((G2) (132) 1)) - (1) : Int) ∧ ((((y2) + (x3)) + ((G2) (132) 1)) - (1) : Int) ≤ 2147483647) ∧ (0 < ((G2) (132) 1 : Int) ∧ ((G2) (132) 1 : Int) ≤ 2147483647) ∧ ((0 ≤ (((8) + ((7) * (x4))) + (4)) ∧ (((8) + ((7) * (x4))) + (4)) < 163) ∧ ((0 ≤ (((8) + ((7) * (x4))) + (3)) ∧ (((8) + ((7) * (x4))) + (3)) < 163) ∧ (inR (((((y2) + (x3)) + ((G2) (132) 1)) - (1)) / ((G2) (132) 1)) ∧ inR (((G2) (132) (((8) + ((7) * (x4))) + (4))) - ((G2) (132) (((8) + ((7) * (x4))) + (3)))) ∧ ((((((((y2) + (x3)) + ((G2) (132) 1)) - (1)) / ((G2) (132) 1)) ≤ (((G2) (132) (((8) + ((7) * (x4))) + (4))) - ((G2) (132) (((8) + ((7) * (x4))) + (3))))) → (xPT (G2) → xW X d 204 50 [.ref (131), vi (x1), vi (x2), vi (x3), vi (x4 + 1), vi ((8) + ((7) * (x4)))] [] (G2) (xqi Q))) ∧ (¬ ((((((y2) + (x3)) + ((G2) (132) 1)) - (1)) / ((G2) (132) 1)) ≤ (((G2) (132) (((8) + ((7) * (x4))) + (4))) - ((G2) (132) (((8) + ((7) * (x4))) + (3))))) → (xPT (G2) → Q (0) (G2)))))))))))))))))) : xW X d 204 50 [.ref (131), vi (x1), vi (x2), vi (x3), vi (x4), w5] [] F (xqi Q) := by
  refine xw_iload (n := 52) (show xlook 204 50 = some (50, .iload 4, 2, 0, 0, 0, 0) from xlk (by decide +kernel)) rfl rfl ?_
  refine xw_aload_n (n := 53) (show xlook 204 52 = some (52, .aload_n 0, 1, 0, 0, 0, 0) from xlk (by decide +kernel)) rfl rfl ?_
  refine xw_getr (q := 132) (show xlook 204 53 = some (53, .getfield 13, 3, 12, 1, 0, 220) from xlk (by decide +kernel)) (by decide) (xobf xob_12 (by decide) (by decide)) rfl (xPT_get (k := 1) (f := 1) hPT xob_12 (by decide)) (by have := (xtg_12_1 _ xob_12.1 xob_12.2).1.1; omega) (n := 56) rfl ?_
  refine xw_iconst (n := 57) (show xlook 204 56 = some (56, .iconst 4, 1, 0, 0, 0, 0) from xlk (by decide +kernel)) rfl ?_
  refine xw_iald (show xlook 204 57 = some (57, .iaload, 1, 0, 0, 0, 0) from xlk (by decide +kernel)) (xtg_12_1 _ xob_12.1 xob_12.2).1 (by rw [(xtg_12_1 _ xob_12.1 xob_12.2).2]; decide) (n := 58) rfl ?_
  obtain ⟨q0, q1, t⟩ := t
  refine xw_icmp_ge (n := 61) (m := 134) (show xlook 204 58 = some (58, .if_icmp .ge 76, 3, 134, 0, 0, 0) from xlk (by decide +kernel)) rfl rfl q0 q1 ⟨fun c => ?_, fun c => ?_⟩
  · replace t := t.1 c
    refine xw_iconst (n := 135) (show xlook 204 134 = some (134, .iconst 1, 1, 0, 0, 0, 0) from xlk (by decide +kernel)) rfl ?_
    exact xw_zreturn hPT (show xlook 204 135 = some (135, .ireturn, 1, 0, 0, 0, 0) from xlk (by decide +kernel)) rfl (by decide) (t hPT)
  · replace t := t.2 c
    refine xw_bipush (n := 63) (show xlook 204 61 = some (61, .bipush 8, 2, 0, 0, 0, 0) from xlk (by decide +kernel)) rfl (by decide) ?_
    refine xw_bipush (n := 65) (show xlook 204 63 = some (63, .bipush 7, 2, 0, 0, 0, 0) from xlk (by decide +kernel)) rfl (by decide) ?_
    refine xw_iload (n := 67) (show xlook 204 65 = some (65, .iload 4, 2, 0, 0, 0, 0) from xlk (by decide +kernel)) rfl rfl ?_
    refine xw_imul (n := 68) (show xlook 204 67 = some (67, .imul, 1, 0, 0, 0, 0) from xlk (by decide +kernel)) rfl ?_
    refine xw_iadd (n := 69) (show xlook 204 68 = some (68, .iadd, 1, 0, 0, 0, 0) from xlk (by decide +kernel)) rfl ?_
    refine xw_istore (n := 71) (show xlook 204 69 = some (69, .istore 5, 2, 0, 0, 0, 0) from xlk (by decide +kernel)) rfl (ls' := [.ref (131), vi (x1), vi (x2), vi (x3), vi (x4), vi ((8) + ((7) * (x4)))]) (Nat.le_of_ble_eq_true rfl) rfl ?_
    refine xw_aload_n (n := 72) (show xlook 204 71 = some (71, .aload_n 0, 1, 0, 0, 0, 0) from xlk (by decide +kernel)) rfl rfl ?_
    refine xw_iload (n := 74) (show xlook 204 72 = some (72, .iload 4, 2, 0, 0, 0, 0) from xlk (by decide +kernel)) rfl rfl ?_
    obtain ⟨j1, hj1, rr1, G1, hm1, hG1, t⟩ := t
    obtain ⟨y1, rfl, t⟩ := t
    refine xw_callv (dk := j1) (o := 131) (as := [vi (x4)]) (show xlook 204 74 = some (74, .invokevirtual 191, 3, 168, 2, 0, 175) from xlk (by decide +kernel)) (by decide) hj1 ⟨Nat.le_of_ble_eq_true rfl, Nat.le_of_ble_eq_true rfl, Nat.le_of_ble_eq_true rfl⟩ ⟨xob_12.1, xob_12.2, by decide⟩ rfl hm1 (n := 77) rfl ?_
    show xW X d 204 77 [.ref (131), vi (x1), vi (x2), vi (x3), vi (x4), vi ((8) + ((7) * (x4)))] [vi (y1)] G1 (xqi Q)
    obtain ⟨q0, t⟩ := t
    refine xw_if_ne (n := 80) (m := 128) (show xlook 204 77 = some (77, .ifCond .ne 51, 3, 128, 0, 0, 0) from xlk (by decide +kernel)) rfl rfl q0 ⟨fun c => ?_, fun c => ?_⟩
    · replace t := t.1 c
      refine xw_iinc (n := 131) (show xlook 204 128 = some (128, .iinc 4 1, 3, 0, 0, 0, 0) from xlk (by decide +kernel)) rfl (ls' := [.ref (131), vi (x1), vi (x2), vi (x3), vi (x4 + 1), vi ((8) + ((7) * (x4)))]) rfl rfl ?_
      refine xw_goto (m := 50) (show xlook 204 131 = some (131, .goto (-81), 3, 50, 0, 0, 0) from xlk (by decide +kernel)) rfl ?_
      exact t hG1
    · replace t := t.2 c
      refine xw_aload_n (n := 81) (show xlook 204 80 = some (80, .aload_n 0, 1, 0, 0, 0, 0) from xlk (by decide +kernel)) rfl rfl ?_
      refine xw_iload (n := 83) (show xlook 204 81 = some (81, .iload 4, 2, 0, 0, 0, 0) from xlk (by decide +kernel)) rfl rfl ?_
      obtain ⟨j2, hj2, rr2, G2, hm2, hG2, t⟩ := t
      obtain ⟨y2, rfl, t⟩ := t
      refine xw_callv (dk := j2) (o := 131) (as := [vi (x4)]) (show xlook 204 83 = some (83, .invokevirtual 187, 3, 165, 2, 0, 174) from xlk (by decide +kernel)) (by decide) hj2 ⟨Nat.le_of_ble_eq_true rfl, Nat.le_of_ble_eq_true rfl, Nat.le_of_ble_eq_true rfl⟩ ⟨xob_12.1, xob_12.2, by decide⟩ rfl hm2 (n := 86) rfl ?_
      show xW X d 204 86 [.ref (131), vi (x1), vi (x2), vi (x3), vi (x4), vi ((8) + ((7) * (x4)))] [vi (y2)] G2 (xqi Q)
      refine xw_iload_n (n := 87) (show xlook 204 86 = some (86, .iload_n 3, 1, 0, 0, 0, 0) from xlk (by decide +kernel)) rfl rfl ?_
      refine xw_iadd (n := 88) (show xlook 204 87 = some (87, .iadd, 1, 0, 0, 0, 0) from xlk (by decide +kernel)) rfl ?_
      refine xw_aload_n (n := 89) (show xlook 204 88 = some (88, .aload_n 0, 1, 0, 0, 0, 0) from xlk (by decide +kernel)) rfl rfl ?_
      refine xw_getr (q := 132) (show xlook 204 89 = some (89, .getfield 13, 3, 12, 1, 0, 220) from xlk (by decide +kernel)) (by decide) (xobf xob_12 (by decide) (by decide)) rfl (xPT_get (k := 1) (f := 1) hG2 xob_12 (by decide)) (by have := (xtg_12_1 _ xob_12.1 xob_12.2).1.1; omega) (n := 92) rfl ?_
      refine xw_iconst (n := 93) (show xlook 204 92 = some (92, .iconst 1, 1, 0, 0, 0, 0) from xlk (by decide +kernel)) rfl ?_
      refine xw_iald (show xlook 204 93 = some (93, .iaload, 1, 0, 0, 0, 0) from xlk (by decide +kernel)) (xtg_12_1 _ xob_12.1 xob_12.2).1 (by rw [(xtg_12_1 _ xob_12.1 xob_12.2).2]; decide) (n := 94) rfl ?_
      refine xw_iadd (n := 95) (show xlook 204 94 = some (94, .iadd, 1, 0, 0, 0, 0) from xlk (by decide +kernel)) rfl ?_
      refine xw_iconst (n := 96) (show xlook 204 95 = some (95, .iconst 1, 1, 0, 0, 0, 0) from xlk (by decide +kernel)) rfl ?_
      refine xw_isub (n := 97) (show xlook 204 96 = some (96, .isub, 1, 0, 0, 0, 0) from xlk (by decide +kernel)) rfl ?_
      refine xw_aload_n (n := 98) (show xlook 204 97 = some (97, .aload_n 0, 1, 0, 0, 0, 0) from xlk (by decide +kernel)) rfl rfl ?_
      refine xw_getr (q := 132) (show xlook 204 98 = some (98, .getfield 13, 3, 12, 1, 0, 220) from xlk (by decide +kernel)) (by decide) (xobf xob_12 (by decide) (by decide)) rfl (xPT_get (k := 1) (f := 1) hG2 xob_12 (by decide)) (by have := (xtg_12_1 _ xob_12.1 xob_12.2).1.1; omega) (n := 101) rfl ?_
      refine xw_iconst (n := 102) (show xlook 204 101 = some (101, .iconst 1, 1, 0, 0, 0, 0) from xlk (by decide +kernel)) rfl ?_
      refine xw_iald (show xlook 204 102 = some (102, .iaload, 1, 0, 0, 0, 0) from xlk (by decide +kernel)) (xtg_12_1 _ xob_12.1 xob_12.2).1 (by rw [(xtg_12_1 _ xob_12.1 xob_12.2).2]; decide) (n := 103) rfl ?_
      obtain ⟨q1, q2, t⟩ := t
      refine xw_idiv (n := 104) (show xlook 204 103 = some (103, .idiv, 1, 0, 0, 0, 0) from xlk (by decide +kernel)) rfl q1 q2 ?_
      refine xw_aload_n (n := 105) (show xlook 204 104 = some (104, .aload_n 0, 1, 0, 0, 0, 0) from xlk (by decide +kernel)) rfl rfl ?_
      refine xw_getr (q := 132) (show xlook 204 105 = some (105, .getfield 13, 3, 12, 1, 0, 220) from xlk (by decide +kernel)) (by decide) (xobf xob_12 (by decide) (by decide)) rfl (xPT_get (k := 1) (f := 1) hG2 xob_12 (by decide)) (by have := (xtg_12_1 _ xob_12.1 xob_12.2).1.1; omega) (n := 108) rfl ?_
      refine xw_iload (n := 110) (show xlook 204 108 = some (108, .iload 5, 2, 0, 0, 0, 0) from xlk (by decide +kernel)) rfl rfl ?_
      refine xw_iconst (n := 111) (show xlook 204 110 = some (110, .iconst 4, 1, 0, 0, 0, 0) from xlk (by decide +kernel)) rfl ?_
      refine xw_iadd (n := 112) (show xlook 204 111 = some (111, .iadd, 1, 0, 0, 0, 0) from xlk (by decide +kernel)) rfl ?_
      obtain ⟨q1, t⟩ := t
      refine xw_iald (show xlook 204 112 = some (112, .iaload, 1, 0, 0, 0, 0) from xlk (by decide +kernel)) (xtg_12_1 _ xob_12.1 xob_12.2).1 (by rw [(xtg_12_1 _ xob_12.1 xob_12.2).2]; exact q1) (n := 113) rfl ?_
      refine xw_aload_n (n := 114) (show xlook 204 113 = some (113, .aload_n 0, 1, 0, 0, 0, 0) from xlk (by decide +kernel)) rfl rfl ?_
      refine xw_getr (q := 132) (show xlook 204 114 = some (114, .getfield 13, 3, 12, 1, 0, 220) from xlk (by decide +kernel)) (by decide) (xobf xob_12 (by decide) (by decide)) rfl (xPT_get (k := 1) (f := 1) hG2 xob_12 (by decide)) (by have := (xtg_12_1 _ xob_12.1 xob_12.2).1.1; omega) (n := 117) rfl ?_
      refine xw_iload (n := 119) (show xlook 204 117 = some (117, .iload 5, 2, 0, 0, 0, 0) from xlk (by decide +kernel)) rfl rfl ?_
      refine xw_iconst (n := 120) (show xlook 204 119 = some (119, .iconst 3, 1, 0, 0, 0, 0) from xlk (by decide +kernel)) rfl ?_
      refine xw_iadd (n := 121) (show xlook 204 120 = some (120, .iadd, 1, 0, 0, 0, 0) from xlk (by decide +kernel)) rfl ?_
      obtain ⟨q1, t⟩ := t
      refine xw_iald (show xlook 204 121 = some (121, .iaload, 1, 0, 0, 0, 0) from xlk (by decide +kernel)) (xtg_12_1 _ xob_12.1 xob_12.2).1 (by rw [(xtg_12_1 _ xob_12.1 xob_12.2).2]; exact q1) (n := 122) rfl ?_
      refine xw_isub (n := 123) (show xlook 204 122 = some (122, .isub, 1, 0, 0, 0, 0) from xlk (by decide +kernel)) rfl ?_
      obtain ⟨q0, q1, t⟩ := t
      refine xw_icmp_le (n := 126) (m := 128) (show xlook 204 123 = some (123, .if_icmp .le 5, 3, 128, 0, 0, 0) from xlk (by decide +kernel)) rfl rfl q0 q1 ⟨fun c => ?_, fun c => ?_⟩
      · replace t := t.1 c
        refine xw_iinc (n := 131) (show xlook 204 128 = some (128, .iinc 4 1, 3, 0, 0, 0, 0) from xlk (by decide +kernel)) rfl (ls' := [.ref (131), vi (x1), vi (x2), vi (x3), vi (x4 + 1), vi ((8) + ((7) * (x4)))]) rfl rfl ?_
        refine xw_goto (m := 50) (show xlook 204 131 = some (131, .goto (-81), 3, 50, 0, 0, 0) from xlk (by decide +kernel)) rfl ?_
        exact t hG2
      · replace t := t.2 c
        refine xw_iconst (n := 127) (show xlook 204 126 = some (126, .iconst 0, 1, 0, 0, 0, 0) from xlk (by decide +kernel)) rfl ?_
        exact xw_zreturn hG2 (show xlook 204 127 = some (127, .ireturn, 1, 0, 0, 0, 0) from xlk (by decide +kernel)) rfl (by decide) (t hG2)

theorem s205_0 {X : List Int32} {d : Nat} {F : XF} {Q : Int → XF → Prop} {w1 : Value} {w2 : Value} {w3 : Value} (hPT : xPT F)  (t : ∃ (j1 : Nat), j1 < d ∧ xMI X j1 154 [.ref (131)] (xup (F) (131) 0 (0)) (fun (y1 : Int) (G1 : XF) => (inR (y1) ∧ (((¬ (y1) = (0)) → (xPT (G1) → xW X d 205 21 [.ref (131), vi (0), vi (0), vi (0)] [] (G1) (xqi Q))) ∧ (¬ (¬ (y1) = (0)) → (xPT (G1) → Q ((-5)) (G1))))))) : xW X d 205 0 [.ref (131), w1, w2, w3] [] F (xqi Q) := by
  refine xw_aload_n (n := 1) (show xlook 205 0 = some (0, .aload_n 0, 1, 0, 0, 0, 0) from xlk (by decide +kernel)) rfl rfl ?_
  refine xw_iconst (n := 2) (show xlook 205 1 = some (1, .iconst 0, 1, 0, 0, 0, 0) from xlk (by decide +kernel)) rfl ?_
  refine xw_puti (show xlook 205 2 = some (2, .putfield 1, 3, 12, 0, 0, 235) from xlk (by decide +kernel)) (xobf xob_12 (by decide) (by decide)) rfl (n := 5) rfl ?_
  refine xw_aload_n (n := 6) (show xlook 205 5 = some (5, .aload_n 0, 1, 0, 0, 0, 0) from xlk (by decide +kernel)) rfl rfl ?_
  obtain ⟨j1, hj1, rr1, G1, hm1, hG1, t⟩ := t
  obtain ⟨y1, rfl, t⟩ := t
  refine xw_callv (dk := j1) (o := 131) (as := []) (show xlook 205 6 = some (6, .invokevirtual 161, 3, 154, 1, 0, 169) from xlk (by decide +kernel)) (by decide) hj1 ⟨Nat.le_of_ble_eq_true rfl, Nat.le_of_ble_eq_true rfl, Nat.le_of_ble_eq_true rfl⟩ ⟨xob_12.1, xob_12.2, by decide⟩ rfl hm1 (n := 9) rfl ?_
  show xW X d 205 9 [.ref (131), w1, w2, w3] [vi (y1)] G1 (xqi Q)
  obtain ⟨q0, t⟩ := t
  refine xw_if_ne (n := 12) (m := 15) (show xlook 205 9 = some (9, .ifCond .ne 6, 3, 15, 0, 0, 0) from xlk (by decide +kernel)) rfl rfl q0 ⟨fun c => ?_, fun c => ?_⟩
  · replace t := t.1 c
    refine xw_iconst (n := 16) (show xlook 205 15 = some (15, .iconst 0, 1, 0, 0, 0, 0) from xlk (by decide +kernel)) rfl ?_
    refine xw_istore_n (n := 17) (show xlook 205 16 = some (16, .istore_n 1, 1, 0, 0, 0, 0) from xlk (by decide +kernel)) rfl (ls' := [.ref (131), vi (0), w2, w3]) (Nat.le_of_ble_eq_true rfl) rfl ?_
    refine xw_iconst (n := 18) (show xlook 205 17 = some (17, .iconst 0, 1, 0, 0, 0, 0) from xlk (by decide +kernel)) rfl ?_
    refine xw_istore_n (n := 19) (show xlook 205 18 = some (18, .istore_n 2, 1, 0, 0, 0, 0) from xlk (by decide +kernel)) rfl (ls' := [.ref (131), vi (0), vi (0), w3]) (Nat.le_of_ble_eq_true rfl) rfl ?_
    refine xw_iconst (n := 20) (show xlook 205 19 = some (19, .iconst 0, 1, 0, 0, 0, 0) from xlk (by decide +kernel)) rfl ?_
    refine xw_istore_n (n := 21) (show xlook 205 20 = some (20, .istore_n 3, 1, 0, 0, 0, 0) from xlk (by decide +kernel)) rfl (ls' := [.ref (131), vi (0), vi (0), vi (0)]) (Nat.le_of_ble_eq_true rfl) rfl ?_
    exact t hG1
  · replace t := t.2 c
    refine xw_bipush (n := 14) (show xlook 205 12 = some (12, .bipush (-5), 2, 0, 0, 0, 0) from xlk (by decide +kernel)) rfl (by decide) ?_
    exact xw_ireturn hG1 (show xlook 205 14 = some (14, .ireturn, 1, 0, 0, 0, 0) from xlk (by decide +kernel)) rfl (t hG1)
theorem m205 {X : List Int32} {d : Nat} {F : XF} {Q : Int → XF → Prop}  (hPT : xPT F)  (t : ∃ (j1 : Nat), j1 < d ∧ xMI X j1 154 [.ref (131)] (xup (F) (131) 0 (0)) (fun (y1 : Int) (G1 : XF) => (inR (y1) ∧ (((¬ (y1) = (0)) → (xPT (G1) → xW X d 205 21 [.ref (131), vi (0), vi (0), vi (0)] [] (G1) (xqi Q))) ∧ (¬ (¬ (y1) = (0)) → (xPT (G1) → Q ((-5)) (G1))))))) : xMI X d 205 [.ref (131)] F Q := by
  show xW X d 205 0 [.ref (131), xU0, xU0, xU0] [] F (xqi Q)
  exact s205_0 hPT  t

theorem s205_21 {X : List Int32} {d : Nat} {F : XF} {Q : Int → XF → Prop} {x1 : Int} {x2 : Int} {x3 : Int} (hPT : xPT F)  (t : ∃ (j1 : Nat), j1 < d ∧ xMI X j1 154 [.ref (131)] (F) (fun (y1 : Int) (G1 : XF) => (inR (x3) ∧ inR (y1) ∧ ((((y1) ≤ (x3)) → (xPT (G1) → Q (x1) (G1))) ∧ (¬ ((y1) ≤ (x3)) → (∃ (j2 : Nat), j2 < d ∧ xMI X j2 204 [.ref (131), vi (x2), vi (x3)] (G1) (fun (y2 : Int) (G2 : XF) => (inR (y2) ∧ ((((y2) = (0)) → (∃ (j3 : Nat), j3 < d ∧ xMI X j3 204 [.ref (131), vi (x3), vi (x3)] (G2) (fun (y3 : Int) (G3 : XF) => (inR (y3) ∧ (((¬ (y3) = (0)) → (xPT (G3) → xW X d 205 21 [.ref (131), vi (x1 + 1), vi (x3), vi (x3 + 1)] [] (G3) (xqi Q))) ∧ (¬ (¬ (y3) = (0)) → (xPT (G3) → Q ((-1)) (G3)))))))) ∧ (¬ ((y2) = (0)) → (xPT (G2) → xW X d 205 21 [.ref (131), vi (x1), vi (x2), vi (x3 + 1)] [] (G2) (xqi Q)))))))))))) : xW X d 205 21 [.ref (131), vi (x1), vi (x2), vi (x3)] [] F (xqi Q) := by
  refine xw_iload_n (n := 22) (show xlook 205 21 = some (21, .iload_n 3, 1, 0, 0, 0, 0) from xlk (by decide +kernel)) rfl rfl ?_
  refine xw_aload_n (n := 23) (show xlook 205 22 = some (22, .aload_n 0, 1, 0, 0, 0, 0) from xlk (by decide +kernel)) rfl rfl ?_
  obtain ⟨j1, hj1, rr1, G1, hm1, hG1, t⟩ := t
  obtain ⟨y1, rfl, t⟩ := t
  refine xw_callv (dk := j1) (o := 131) (as := []) (show xlook 205 23 = some (23, .invokevirtual 161, 3, 154, 1, 0, 169) from xlk (by decide +kernel)) (by decide) hj1 ⟨Nat.le_of_ble_eq_true rfl, Nat.le_of_ble_eq_true rfl, Nat.le_of_ble_eq_true rfl⟩ ⟨xob_12.1, xob_12.2, by decide⟩ rfl hm1 (n := 26) rfl ?_
  show xW X d 205 26 [.ref (131), vi (x1), vi (x2), vi (x3)] [vi (y1), vi (x3)] G1 (xqi Q)
  obtain ⟨q0, q1, t⟩ := t
  refine xw_icmp_ge (n := 29) (m := 63) (show xlook 205 26 = some (26, .if_icmp .ge 37, 3, 63, 0, 0, 0) from xlk (by decide +kernel)) rfl rfl q0 q1 ⟨fun c => ?_, fun c => ?_⟩
  · replace t := t.1 c
    refine xw_iload_n (n := 64) (show xlook 205 63 = some (63, .iload_n 1, 1, 0, 0, 0, 0) from xlk (by decide +kernel)) rfl rfl ?_
    exact xw_ireturn hG1 (show xlook 205 64 = some (64, .ireturn, 1, 0, 0, 0, 0) from xlk (by decide +kernel)) rfl (t hG1)
  · replace t := t.2 c
    refine xw_aload_n (n := 30) (show xlook 205 29 = some (29, .aload_n 0, 1, 0, 0, 0, 0) from xlk (by decide +kernel)) rfl rfl ?_
    refine xw_iload_n (n := 31) (show xlook 205 30 = some (30, .iload_n 2, 1, 0, 0, 0, 0) from xlk (by decide +kernel)) rfl rfl ?_
    refine xw_iload_n (n := 32) (show xlook 205 31 = some (31, .iload_n 3, 1, 0, 0, 0, 0) from xlk (by decide +kernel)) rfl rfl ?_
    obtain ⟨j2, hj2, rr2, G2, hm2, hG2, t⟩ := t
    obtain ⟨y2, rfl, t⟩ := t
    refine xw_callv (dk := j2) (o := 131) (as := [vi (x2), vi (x3)]) (show xlook 205 32 = some (32, .invokevirtual 284, 3, 204, 3, 0, 200) from xlk (by decide +kernel)) (by decide) hj2 ⟨Nat.le_of_ble_eq_true rfl, Nat.le_of_ble_eq_true rfl, Nat.le_of_ble_eq_true rfl⟩ ⟨xob_12.1, xob_12.2, by decide⟩ rfl hm2 (n := 35) rfl ?_
    show xW X d 205 35 [.ref (131), vi (x1), vi (x2), vi (x3)] [vi (y2)] G2 (xqi Q)
    obtain ⟨q0, t⟩ := t
    refine xw_if_eq (n := 38) (m := 41) (show xlook 205 35 = some (35, .ifCond .eq 6, 3, 41, 0, 0, 0) from xlk (by decide +kernel)) rfl rfl q0 ⟨fun c => ?_, fun c => ?_⟩
    · replace t := t.1 c
      refine xw_iinc (n := 44) (show xlook 205 41 = some (41, .iinc 1 1, 3, 0, 0, 0, 0) from xlk (by decide +kernel)) rfl (ls' := [.ref (131), vi (x1 + 1), vi (x2), vi (x3)]) rfl rfl ?_
      refine xw_iload_n (n := 45) (show xlook 205 44 = some (44, .iload_n 3, 1, 0, 0, 0, 0) from xlk (by decide +kernel)) rfl rfl ?_
      refine xw_istore_n (n := 46) (show xlook 205 45 = some (45, .istore_n 2, 1, 0, 0, 0, 0) from xlk (by decide +kernel)) rfl (ls' := [.ref (131), vi (x1 + 1), vi (x3), vi (x3)]) (Nat.le_of_ble_eq_true rfl) rfl ?_
      refine xw_aload_n (n := 47) (show xlook 205 46 = some (46, .aload_n 0, 1, 0, 0, 0, 0) from xlk (by decide +kernel)) rfl rfl ?_
      refine xw_iload_n (n := 48) (show xlook 205 47 = some (47, .iload_n 3, 1, 0, 0, 0, 0) from xlk (by decide +kernel)) rfl rfl ?_
      refine xw_iload_n (n := 49) (show xlook 205 48 = some (48, .iload_n 3, 1, 0, 0, 0, 0) from xlk (by decide +kernel)) rfl rfl ?_
      obtain ⟨j3, hj3, rr3, G3, hm3, hG3, t⟩ := t
      obtain ⟨y3, rfl, t⟩ := t
      refine xw_callv (dk := j3) (o := 131) (as := [vi (x3), vi (x3)]) (show xlook 205 49 = some (49, .invokevirtual 284, 3, 204, 3, 0, 200) from xlk (by decide +kernel)) (by decide) hj3 ⟨Nat.le_of_ble_eq_true rfl, Nat.le_of_ble_eq_true rfl, Nat.le_of_ble_eq_true rfl⟩ ⟨xob_12.1, xob_12.2, by decide⟩ rfl hm3 (n := 52) rfl ?_
      show xW X d 205 52 [.ref (131), vi (x1 + 1), vi (x3), vi (x3)] [vi (y3)] G3 (xqi Q)
      obtain ⟨q0, t⟩ := t
      refine xw_if_ne (n := 55) (m := 57) (show xlook 205 52 = some (52, .ifCond .ne 5, 3, 57, 0, 0, 0) from xlk (by decide +kernel)) rfl rfl q0 ⟨fun c => ?_, fun c => ?_⟩
      · replace t := t.1 c
        refine xw_iinc (n := 60) (show xlook 205 57 = some (57, .iinc 3 1, 3, 0, 0, 0, 0) from xlk (by decide +kernel)) rfl (ls' := [.ref (131), vi (x1 + 1), vi (x3), vi (x3 + 1)]) rfl rfl ?_
        refine xw_goto (m := 21) (show xlook 205 60 = some (60, .goto (-39), 3, 21, 0, 0, 0) from xlk (by decide +kernel)) rfl ?_
        exact t hG3
      · replace t := t.2 c
        refine xw_iconst (n := 56) (show xlook 205 55 = some (55, .iconst (-1), 1, 0, 0, 0, 0) from xlk (by decide +kernel)) rfl ?_
        exact xw_ireturn hG3 (show xlook 205 56 = some (56, .ireturn, 1, 0, 0, 0, 0) from xlk (by decide +kernel)) rfl (t hG3)
    · replace t := t.2 c
      refine xw_goto (m := 57) (show xlook 205 38 = some (38, .goto 19, 3, 57, 0, 0, 0) from xlk (by decide +kernel)) rfl ?_
      refine xw_iinc (n := 60) (show xlook 205 57 = some (57, .iinc 3 1, 3, 0, 0, 0, 0) from xlk (by decide +kernel)) rfl (ls' := [.ref (131), vi (x1), vi (x2), vi (x3 + 1)]) rfl rfl ?_
      refine xw_goto (m := 21) (show xlook 205 60 = some (60, .goto (-39), 3, 21, 0, 0, 0) from xlk (by decide +kernel)) rfl ?_
      exact t hG2

theorem s206_0 {X : List Int32} {d : Nat} {F : XF} {Q : XF → Prop} {w1 : Value} (hPT : xPT F)  (t : xPT (F) → xW X d 206 2 [.ref (131), vi (0)] [] (F) (xqv Q)) : xW X d 206 0 [.ref (131), w1] [] F (xqv Q) := by
  refine xw_iconst (n := 1) (show xlook 206 0 = some (0, .iconst 0, 1, 0, 0, 0, 0) from xlk (by decide +kernel)) rfl ?_
  refine xw_istore_n (n := 2) (show xlook 206 1 = some (1, .istore_n 1, 1, 0, 0, 0, 0) from xlk (by decide +kernel)) rfl (ls' := [.ref (131), vi (0)]) (Nat.le_of_ble_eq_true rfl) rfl ?_
  exact t hPT
theorem m206 {X : List Int32} {d : Nat} {F : XF} {Q : XF → Prop}  (hPT : xPT F)  (t : xPT (F) → xW X d 206 2 [.ref (131), vi (0)] [] (F) (xqv Q)) : xMV X d 206 [.ref (131)] F Q := by
  show xW X d 206 0 [.ref (131), xU0] [] F (xqv Q)
  exact s206_0 hPT  t

theorem s206_2 {X : List Int32} {d : Nat} {F : XF} {Q : XF → Prop} {x1 : Int} (hPT : xPT F)  (t : inR (x1) ∧ ((((163) ≤ (x1)) → (xPT (F) → Q (F))) ∧ (¬ ((163) ≤ (x1)) → ((0 ≤ (x1) ∧ (x1) < 163) ∧ ((0 ≤ (x1) ∧ (x1) < 163) ∧ (xPT (xup (F) (142) (x1) ((F) (132) (x1))) → xW X d 206 2 [.ref (131), vi (x1 + 1)] [] (xup (F) (142) (x1) ((F) (132) (x1))) (xqv Q))))))) : xW X d 206 2 [.ref (131), vi (x1)] [] F (xqv Q) := by
  refine xw_iload_n (n := 3) (show xlook 206 2 = some (2, .iload_n 1, 1, 0, 0, 0, 0) from xlk (by decide +kernel)) rfl rfl ?_
  refine xw_sipush (n := 6) (show xlook 206 3 = some (3, .sipush 163, 3, 0, 0, 0, 0) from xlk (by decide +kernel)) rfl (by decide) ?_
  obtain ⟨q0, t⟩ := t
  refine xw_icmp_ge (n := 9) (m := 27) (show xlook 206 6 = some (6, .if_icmp .ge 21, 3, 27, 0, 0, 0) from xlk (by decide +kernel)) rfl rfl q0 ⟨by decide, by decide⟩ ⟨fun c => ?_, fun c => ?_⟩
  · replace t := t.1 c
    exact xw_return hPT (show xlook 206 27 = some (27, .return_, 1, 0, 0, 0, 0) from xlk (by decide +kernel)) rfl (t hPT)
  · replace t := t.2 c
    refine xw_aload_n (n := 10) (show xlook 206 9 = some (9, .aload_n 0, 1, 0, 0, 0, 0) from xlk (by decide +kernel)) rfl rfl ?_
    refine xw_getr (q := 142) (show xlook 206 10 = some (10, .getfield 48, 3, 12, 23, 0, 231) from xlk (by decide +kernel)) (by decide) (xobf xob_12 (by decide) (by decide)) rfl (xPT_get (k := 23) (f := 11) hPT xob_12 (by decide)) (by have := (xtg_12_23 _ xob_12.1 xob_12.2).1.1; omega) (n := 13) rfl ?_
    refine xw_iload_n (n := 14) (show xlook 206 13 = some (13, .iload_n 1, 1, 0, 0, 0, 0) from xlk (by decide +kernel)) rfl rfl ?_
    refine xw_aload_n (n := 15) (show xlook 206 14 = some (14, .aload_n 0, 1, 0, 0, 0, 0) from xlk (by decide +kernel)) rfl rfl ?_
    refine xw_getr (q := 132) (show xlook 206 15 = some (15, .getfield 13, 3, 12, 1, 0, 220) from xlk (by decide +kernel)) (by decide) (xobf xob_12 (by decide) (by decide)) rfl (xPT_get (k := 1) (f := 1) hPT xob_12 (by decide)) (by have := (xtg_12_1 _ xob_12.1 xob_12.2).1.1; omega) (n := 18) rfl ?_
    refine xw_iload_n (n := 19) (show xlook 206 18 = some (18, .iload_n 1, 1, 0, 0, 0, 0) from xlk (by decide +kernel)) rfl rfl ?_
    obtain ⟨q1, t⟩ := t
    refine xw_iald (show xlook 206 19 = some (19, .iaload, 1, 0, 0, 0, 0) from xlk (by decide +kernel)) (xtg_12_1 _ xob_12.1 xob_12.2).1 (by rw [(xtg_12_1 _ xob_12.1 xob_12.2).2]; exact q1) (n := 20) rfl ?_
    obtain ⟨q1, t⟩ := t
    refine xw_iast (show xlook 206 20 = some (20, .iastore, 1, 0, 0, 0, 0) from xlk (by decide +kernel)) (xtg_12_23 _ xob_12.1 xob_12.2).1 (by rw [(xtg_12_23 _ xob_12.1 xob_12.2).2]; exact q1) (n := 21) rfl ?_
    refine xw_iinc (n := 24) (show xlook 206 21 = some (21, .iinc 1 1, 3, 0, 0, 0, 0) from xlk (by decide +kernel)) rfl (ls' := [.ref (131), vi (x1 + 1)]) rfl rfl ?_
    refine xw_goto (m := 2) (show xlook 206 24 = some (24, .goto (-22), 3, 2, 0, 0, 0) from xlk (by decide +kernel)) rfl ?_
    exact t (xPT_arr hPT (Or.inl (xtg_12_23 _ xob_12.1 xob_12.2).1.2))

theorem s207_0 {X : List Int32} {d : Nat} {F : XF} {Q : XF → Prop} {w1 : Value} (hPT : xPT F)  (t : xPT (F) → xW X d 207 2 [.ref (131), vi (0)] [] (F) (xqv Q)) : xW X d 207 0 [.ref (131), w1] [] F (xqv Q) := by
  refine xw_iconst (n := 1) (show xlook 207 0 = some (0, .iconst 0, 1, 0, 0, 0, 0) from xlk (by decide +kernel)) rfl ?_
  refine xw_istore_n (n := 2) (show xlook 207 1 = some (1, .istore_n 1, 1, 0, 0, 0, 0) from xlk (by decide +kernel)) rfl (ls' := [.ref (131), vi (0)]) (Nat.le_of_ble_eq_true rfl) rfl ?_
  exact t hPT
theorem m207 {X : List Int32} {d : Nat} {F : XF} {Q : XF → Prop}  (hPT : xPT F)  (t : xPT (F) → xW X d 207 2 [.ref (131), vi (0)] [] (F) (xqv Q)) : xMV X d 207 [.ref (131)] F Q := by
  show xW X d 207 0 [.ref (131), xU0] [] F (xqv Q)
  exact s207_0 hPT  t

theorem s207_2 {X : List Int32} {d : Nat} {F : XF} {Q : XF → Prop} {x1 : Int} (hPT : xPT F)  (t : inR (x1) ∧ ((((163) ≤ (x1)) → (∃ (j1 : Nat), j1 < d ∧ xMV X j1 163 [.ref (131)] (F) (fun (G1 : XF) => (xPT (G1) → Q (G1))))) ∧ (¬ ((163) ≤ (x1)) → ((0 ≤ (x1) ∧ (x1) < 163) ∧ ((0 ≤ (x1) ∧ (x1) < 163) ∧ (xPT (xup (F) (132) (x1) ((F) (142) (x1))) → xW X d 207 2 [.ref (131), vi (x1 + 1)] [] (xup (F) (132) (x1) ((F) (142) (x1))) (xqv Q))))))) : xW X d 207 2 [.ref (131), vi (x1)] [] F (xqv Q) := by
  refine xw_iload_n (n := 3) (show xlook 207 2 = some (2, .iload_n 1, 1, 0, 0, 0, 0) from xlk (by decide +kernel)) rfl rfl ?_
  refine xw_sipush (n := 6) (show xlook 207 3 = some (3, .sipush 163, 3, 0, 0, 0, 0) from xlk (by decide +kernel)) rfl (by decide) ?_
  obtain ⟨q0, t⟩ := t
  refine xw_icmp_ge (n := 9) (m := 27) (show xlook 207 6 = some (6, .if_icmp .ge 21, 3, 27, 0, 0, 0) from xlk (by decide +kernel)) rfl rfl q0 ⟨by decide, by decide⟩ ⟨fun c => ?_, fun c => ?_⟩
  · replace t := t.1 c
    refine xw_aload_n (n := 28) (show xlook 207 27 = some (27, .aload_n 0, 1, 0, 0, 0, 0) from xlk (by decide +kernel)) rfl rfl ?_
    obtain ⟨j1, hj1, rr1, G1, hm1, hG1, t⟩ := t
    obtain ⟨rfl, t⟩ := t
    refine xw_callv (dk := j1) (o := 131) (as := []) (show xlook 207 28 = some (28, .invokevirtual 200, 3, 163, 1, 0, 178) from xlk (by decide +kernel)) (by decide) hj1 ⟨Nat.le_of_ble_eq_true rfl, Nat.le_of_ble_eq_true rfl, Nat.le_of_ble_eq_true rfl⟩ ⟨xob_12.1, xob_12.2, by decide⟩ rfl hm1 (n := 31) rfl ?_
    show xW X d 207 31 [.ref (131), vi (x1)] [] G1 (xqv Q)
    exact xw_return hG1 (show xlook 207 31 = some (31, .return_, 1, 0, 0, 0, 0) from xlk (by decide +kernel)) rfl (t hG1)
  · replace t := t.2 c
    refine xw_aload_n (n := 10) (show xlook 207 9 = some (9, .aload_n 0, 1, 0, 0, 0, 0) from xlk (by decide +kernel)) rfl rfl ?_
    refine xw_getr (q := 132) (show xlook 207 10 = some (10, .getfield 13, 3, 12, 1, 0, 220) from xlk (by decide +kernel)) (by decide) (xobf xob_12 (by decide) (by decide)) rfl (xPT_get (k := 1) (f := 1) hPT xob_12 (by decide)) (by have := (xtg_12_1 _ xob_12.1 xob_12.2).1.1; omega) (n := 13) rfl ?_
    refine xw_iload_n (n := 14) (show xlook 207 13 = some (13, .iload_n 1, 1, 0, 0, 0, 0) from xlk (by decide +kernel)) rfl rfl ?_
    refine xw_aload_n (n := 15) (show xlook 207 14 = some (14, .aload_n 0, 1, 0, 0, 0, 0) from xlk (by decide +kernel)) rfl rfl ?_
    refine xw_getr (q := 142) (show xlook 207 15 = some (15, .getfield 48, 3, 12, 23, 0, 231) from xlk (by decide +kernel)) (by decide) (xobf xob_12 (by decide) (by decide)) rfl (xPT_get (k := 23) (f := 11) hPT xob_12 (by decide)) (by have := (xtg_12_23 _ xob_12.1 xob_12.2).1.1; omega) (n := 18) rfl ?_
    refine xw_iload_n (n := 19) (show xlook 207 18 = some (18, .iload_n 1, 1, 0, 0, 0, 0) from xlk (by decide +kernel)) rfl rfl ?_
    obtain ⟨q1, t⟩ := t
    refine xw_iald (show xlook 207 19 = some (19, .iaload, 1, 0, 0, 0, 0) from xlk (by decide +kernel)) (xtg_12_23 _ xob_12.1 xob_12.2).1 (by rw [(xtg_12_23 _ xob_12.1 xob_12.2).2]; exact q1) (n := 20) rfl ?_
    obtain ⟨q1, t⟩ := t
    refine xw_iast (show xlook 207 20 = some (20, .iastore, 1, 0, 0, 0, 0) from xlk (by decide +kernel)) (xtg_12_1 _ xob_12.1 xob_12.2).1 (by rw [(xtg_12_1 _ xob_12.1 xob_12.2).2]; exact q1) (n := 21) rfl ?_
    refine xw_iinc (n := 24) (show xlook 207 21 = some (21, .iinc 1 1, 3, 0, 0, 0, 0) from xlk (by decide +kernel)) rfl (ls' := [.ref (131), vi (x1 + 1)]) rfl rfl ?_
    refine xw_goto (m := 2) (show xlook 207 24 = some (24, .goto (-22), 3, 2, 0, 0, 0) from xlk (by decide +kernel)) rfl ?_
    exact t (xPT_arr hPT (Or.inl (xtg_12_1 _ xob_12.1 xob_12.2).1.2))

theorem s208_0 {X : List Int32} {d : Nat} {F : XF} {Q : Int → XF → Prop} {x1 : Int} {x2 : Int} {w3 : Value} (hPT : xPT F)  (t : xPT (F) → xW X d 208 2 [.ref (131), vi (x1), vi (x2), vi (0)] [] (F) (xqi Q)) : xW X d 208 0 [.ref (131), vi (x1), vi (x2), w3] [] F (xqi Q) := by
  refine xw_iconst (n := 1) (show xlook 208 0 = some (0, .iconst 0, 1, 0, 0, 0, 0) from xlk (by decide +kernel)) rfl ?_
  refine xw_istore_n (n := 2) (show xlook 208 1 = some (1, .istore_n 3, 1, 0, 0, 0, 0) from xlk (by decide +kernel)) rfl (ls' := [.ref (131), vi (x1), vi (x2), vi (0)]) (Nat.le_of_ble_eq_true rfl) rfl ?_
  exact t hPT
theorem m208 {X : List Int32} {d : Nat} {F : XF} {Q : Int → XF → Prop} {x1 : Int} {x2 : Int} (hPT : xPT F)  (t : xPT (F) → xW X d 208 2 [.ref (131), vi (x1), vi (x2), vi (0)] [] (F) (xqi Q)) : xMI X d 208 [.ref (131), vi (x1), vi (x2)] F Q := by
  show xW X d 208 0 [.ref (131), vi (x1), vi (x2), xU0] [] F (xqi Q)
  exact s208_0 hPT  t

theorem s208_2 {X : List Int32} {d : Nat} {F : XF} {Q : Int → XF → Prop} {x1 : Int} {x2 : Int} {x3 : Int} (hPT : xPT F)  (t : inR (x3) ∧ ((((30) ≤ (x3)) → (∃ (j1 : Nat), j1 < d ∧ xMI X j1 198 [.ref (131)] (F) (fun (y1 : Int) (G1 : XF) => (xPT (G1) → Q (y1) (G1))))) ∧ (¬ ((30) ≤ (x3)) → (inR (x3) ∧ inR (x1) ∧ ((((x3) = (x1)) → ((0 ≤ ((108) + (x3)) ∧ ((108) + (x3)) < 163) ∧ (xPT (xup (F) (132) ((108) + (x3)) (1)) → xW X d 208 2 [.ref (131), vi (x1), vi (x2), vi (x3 + 1)] [] (xup (F) (132) ((108) + (x3)) (1)) (xqi Q)))) ∧ (¬ ((x3) = (x1)) → (inR (x3) ∧ inR (x2) ∧ (((¬ (x3) = (x2)) → ((0 ≤ ((108) + (x3)) ∧ ((108) + (x3)) < 163) ∧ (xPT (xup (F) (132) ((108) + (x3)) (0)) → xW X d 208 2 [.ref (131), vi (x1), vi (x2), vi (x3 + 1)] [] (xup (F) (132) ((108) + (x3)) (0)) (xqi Q)))) ∧ (¬ (¬ (x3) = (x2)) → ((0 ≤ ((108) + (x3)) ∧ ((108) + (x3)) < 163) ∧ (xPT (xup (F) (132) ((108) + (x3)) (1)) → xW X d 208 2 [.ref (131), vi (x1), vi (x2), vi (x3 + 1)] [] (xup (F) (132) ((108) + (x3)) (1)) (xqi Q)))))))))))) : xW X d 208 2 [.ref (131), vi (x1), vi (x2), vi (x3)] [] F (xqi Q) := by
  refine xw_iload_n (n := 3) (show xlook 208 2 = some (2, .iload_n 3, 1, 0, 0, 0, 0) from xlk (by decide +kernel)) rfl rfl ?_
  refine xw_bipush (n := 5) (show xlook 208 3 = some (3, .bipush 30, 2, 0, 0, 0, 0) from xlk (by decide +kernel)) rfl (by decide) ?_
  obtain ⟨q0, t⟩ := t
  refine xw_icmp_ge (n := 8) (m := 38) (show xlook 208 5 = some (5, .if_icmp .ge 33, 3, 38, 0, 0, 0) from xlk (by decide +kernel)) rfl rfl q0 ⟨by decide, by decide⟩ ⟨fun c => ?_, fun c => ?_⟩
  · replace t := t.1 c
    refine xw_aload_n (n := 39) (show xlook 208 38 = some (38, .aload_n 0, 1, 0, 0, 0, 0) from xlk (by decide +kernel)) rfl rfl ?_
    obtain ⟨j1, hj1, rr1, G1, hm1, hG1, t⟩ := t
    obtain ⟨y1, rfl, t⟩ := t
    refine xw_callv (dk := j1) (o := 131) (as := []) (show xlook 208 39 = some (39, .invokevirtual 275, 3, 198, 1, 0, 197) from xlk (by decide +kernel)) (by decide) hj1 ⟨Nat.le_of_ble_eq_true rfl, Nat.le_of_ble_eq_true rfl, Nat.le_of_ble_eq_true rfl⟩ ⟨xob_12.1, xob_12.2, by decide⟩ rfl hm1 (n := 42) rfl ?_
    show xW X d 208 42 [.ref (131), vi (x1), vi (x2), vi (x3)] [vi (y1)] G1 (xqi Q)
    exact xw_ireturn hG1 (show xlook 208 42 = some (42, .ireturn, 1, 0, 0, 0, 0) from xlk (by decide +kernel)) rfl (t hG1)
  · replace t := t.2 c
    refine xw_aload_n (n := 9) (show xlook 208 8 = some (8, .aload_n 0, 1, 0, 0, 0, 0) from xlk (by decide +kernel)) rfl rfl ?_
    refine xw_getr (q := 132) (show xlook 208 9 = some (9, .getfield 13, 3, 12, 1, 0, 220) from xlk (by decide +kernel)) (by decide) (xobf xob_12 (by decide) (by decide)) rfl (xPT_get (k := 1) (f := 1) hPT xob_12 (by decide)) (by have := (xtg_12_1 _ xob_12.1 xob_12.2).1.1; omega) (n := 12) rfl ?_
    refine xw_bipush (n := 14) (show xlook 208 12 = some (12, .bipush 108, 2, 0, 0, 0, 0) from xlk (by decide +kernel)) rfl (by decide) ?_
    refine xw_iload_n (n := 15) (show xlook 208 14 = some (14, .iload_n 3, 1, 0, 0, 0, 0) from xlk (by decide +kernel)) rfl rfl ?_
    refine xw_iadd (n := 16) (show xlook 208 15 = some (15, .iadd, 1, 0, 0, 0, 0) from xlk (by decide +kernel)) rfl ?_
    refine xw_iload_n (n := 17) (show xlook 208 16 = some (16, .iload_n 3, 1, 0, 0, 0, 0) from xlk (by decide +kernel)) rfl rfl ?_
    refine xw_iload_n (n := 18) (show xlook 208 17 = some (17, .iload_n 1, 1, 0, 0, 0, 0) from xlk (by decide +kernel)) rfl rfl ?_
    obtain ⟨q0, q1, t⟩ := t
    refine xw_icmp_eq (n := 21) (m := 26) (show xlook 208 18 = some (18, .if_icmp .eq 8, 3, 26, 0, 0, 0) from xlk (by decide +kernel)) rfl rfl q0 q1 ⟨fun c => ?_, fun c => ?_⟩
    · replace t := t.1 c
      refine xw_iconst (n := 27) (show xlook 208 26 = some (26, .iconst 1, 1, 0, 0, 0, 0) from xlk (by decide +kernel)) rfl ?_
      refine xw_goto (m := 31) (show xlook 208 27 = some (27, .goto 4, 3, 31, 0, 0, 0) from xlk (by decide +kernel)) rfl ?_
      obtain ⟨q1, t⟩ := t
      refine xw_iast (show xlook 208 31 = some (31, .iastore, 1, 0, 0, 0, 0) from xlk (by decide +kernel)) (xtg_12_1 _ xob_12.1 xob_12.2).1 (by rw [(xtg_12_1 _ xob_12.1 xob_12.2).2]; exact q1) (n := 32) rfl ?_
      refine xw_iinc (n := 35) (show xlook 208 32 = some (32, .iinc 3 1, 3, 0, 0, 0, 0) from xlk (by decide +kernel)) rfl (ls' := [.ref (131), vi (x1), vi (x2), vi (x3 + 1)]) rfl rfl ?_
      refine xw_goto (m := 2) (show xlook 208 35 = some (35, .goto (-33), 3, 2, 0, 0, 0) from xlk (by decide +kernel)) rfl ?_
      exact t (xPT_arr hPT (Or.inl (xtg_12_1 _ xob_12.1 xob_12.2).1.2))
    · replace t := t.2 c
      refine xw_iload_n (n := 22) (show xlook 208 21 = some (21, .iload_n 3, 1, 0, 0, 0, 0) from xlk (by decide +kernel)) rfl rfl ?_
      refine xw_iload_n (n := 23) (show xlook 208 22 = some (22, .iload_n 2, 1, 0, 0, 0, 0) from xlk (by decide +kernel)) rfl rfl ?_
      obtain ⟨q0, q1, t⟩ := t
      refine xw_icmp_ne (n := 26) (m := 30) (show xlook 208 23 = some (23, .if_icmp .ne 7, 3, 30, 0, 0, 0) from xlk (by decide +kernel)) rfl rfl q0 q1 ⟨fun c => ?_, fun c => ?_⟩
      · replace t := t.1 c
        refine xw_iconst (n := 31) (show xlook 208 30 = some (30, .iconst 0, 1, 0, 0, 0, 0) from xlk (by decide +kernel)) rfl ?_
        obtain ⟨q1, t⟩ := t
        refine xw_iast (show xlook 208 31 = some (31, .iastore, 1, 0, 0, 0, 0) from xlk (by decide +kernel)) (xtg_12_1 _ xob_12.1 xob_12.2).1 (by rw [(xtg_12_1 _ xob_12.1 xob_12.2).2]; exact q1) (n := 32) rfl ?_
        refine xw_iinc (n := 35) (show xlook 208 32 = some (32, .iinc 3 1, 3, 0, 0, 0, 0) from xlk (by decide +kernel)) rfl (ls' := [.ref (131), vi (x1), vi (x2), vi (x3 + 1)]) rfl rfl ?_
        refine xw_goto (m := 2) (show xlook 208 35 = some (35, .goto (-33), 3, 2, 0, 0, 0) from xlk (by decide +kernel)) rfl ?_
        exact t (xPT_arr hPT (Or.inl (xtg_12_1 _ xob_12.1 xob_12.2).1.2))
      · replace t := t.2 c
        refine xw_iconst (n := 27) (show xlook 208 26 = some (26, .iconst 1, 1, 0, 0, 0, 0) from xlk (by decide +kernel)) rfl ?_
        refine xw_goto (m := 31) (show xlook 208 27 = some (27, .goto 4, 3, 31, 0, 0, 0) from xlk (by decide +kernel)) rfl ?_
        obtain ⟨q1, t⟩ := t
        refine xw_iast (show xlook 208 31 = some (31, .iastore, 1, 0, 0, 0, 0) from xlk (by decide +kernel)) (xtg_12_1 _ xob_12.1 xob_12.2).1 (by rw [(xtg_12_1 _ xob_12.1 xob_12.2).2]; exact q1) (n := 32) rfl ?_
        refine xw_iinc (n := 35) (show xlook 208 32 = some (32, .iinc 3 1, 3, 0, 0, 0, 0) from xlk (by decide +kernel)) rfl (ls' := [.ref (131), vi (x1), vi (x2), vi (x3 + 1)]) rfl rfl ?_
        refine xw_goto (m := 2) (show xlook 208 35 = some (35, .goto (-33), 3, 2, 0, 0, 0) from xlk (by decide +kernel)) rfl ?_
        exact t (xPT_arr hPT (Or.inl (xtg_12_1 _ xob_12.1 xob_12.2).1.2))

theorem s209_0 {X : List Int32} {d : Nat} {F : XF} {Q : Int → XF → Prop} {x1 : Int} {x2 : Int} {w3 : Value} {w4 : Value} {w5 : Value} {w6 : Value} {w7 : Value} {w8 : Value} (hPT : xPT F)  (t : ∃ (j1 : Nat), j1 < d ∧ xMI X j1 154 [.ref (131)] (xup (F) (131) 0 (0)) (fun (y1 : Int) (G1 : XF) => (inR (y1) ∧ (((¬ (y1) = (0)) → ((inR (x1)) ∧ (∃ (j2 : Nat), j2 < d ∧ xMI X j2 132 [vl (x1), vl (0), vl (2)] (G1) (fun (y2 : Int) (G2 : XF) => (inR (y2) ∧ (((¬ (y2) = (0)) → ((inR (x2)) ∧ (∃ (j3 : Nat), j3 < d ∧ xMI X j3 132 [vl (x2), vl (0), vl (2)] (G2) (fun (y3 : Int) (G3 : XF) => (inR (y3) ∧ (((¬ (y3) = (0)) → (∃ (j4 : Nat), j4 < d ∧ xMV X j4 206 [.ref (131)] (G3) (fun (G4 : XF) => (∃ (j5 : Nat), j5 < d ∧ xMI X j5 208 [.ref (131), vi ((-1)), vi ((-1))] (G4) (fun (y5 : Int) (G5 : XF) => (xPT (G5) → xW X d 209 65 [.ref (131), vi (x1), vi (x2), vi (y5), vi ((-1)), vi ((-1)), vi (0), w7, w8] [] (G5) (xqi Q))))))) ∧ (¬ (¬ (y3) = (0)) → (xPT (G3) → Q ((-2)) (G3))))))))) ∧ (¬ (¬ (y2) = (0)) → (xPT (G2) → Q ((-3)) (G2))))))))) ∧ (¬ (¬ (y1) = (0)) → (xPT (G1) → Q ((-5)) (G1))))))) : xW X d 209 0 [.ref (131), vi (x1), vi (x2), w3, w4, w5, w6, w7, w8] [] F (xqi Q) := by
  refine xw_aload_n (n := 1) (show xlook 209 0 = some (0, .aload_n 0, 1, 0, 0, 0, 0) from xlk (by decide +kernel)) rfl rfl ?_
  refine xw_iconst (n := 2) (show xlook 209 1 = some (1, .iconst 0, 1, 0, 0, 0, 0) from xlk (by decide +kernel)) rfl ?_
  refine xw_puti (show xlook 209 2 = some (2, .putfield 1, 3, 12, 0, 0, 235) from xlk (by decide +kernel)) (xobf xob_12 (by decide) (by decide)) rfl (n := 5) rfl ?_
  refine xw_aload_n (n := 6) (show xlook 209 5 = some (5, .aload_n 0, 1, 0, 0, 0, 0) from xlk (by decide +kernel)) rfl rfl ?_
  obtain ⟨j1, hj1, rr1, G1, hm1, hG1, t⟩ := t
  obtain ⟨y1, rfl, t⟩ := t
  refine xw_callv (dk := j1) (o := 131) (as := []) (show xlook 209 6 = some (6, .invokevirtual 161, 3, 154, 1, 0, 169) from xlk (by decide +kernel)) (by decide) hj1 ⟨Nat.le_of_ble_eq_true rfl, Nat.le_of_ble_eq_true rfl, Nat.le_of_ble_eq_true rfl⟩ ⟨xob_12.1, xob_12.2, by decide⟩ rfl hm1 (n := 9) rfl ?_
  show xW X d 209 9 [.ref (131), vi (x1), vi (x2), w3, w4, w5, w6, w7, w8] [vi (y1)] G1 (xqi Q)
  obtain ⟨q0, t⟩ := t
  refine xw_if_ne (n := 12) (m := 15) (show xlook 209 9 = some (9, .ifCond .ne 6, 3, 15, 0, 0, 0) from xlk (by decide +kernel)) rfl rfl q0 ⟨fun c => ?_, fun c => ?_⟩
  · replace t := t.1 c
    refine xw_iload_n (n := 16) (show xlook 209 15 = some (15, .iload_n 1, 1, 0, 0, 0, 0) from xlk (by decide +kernel)) rfl rfl ?_
    obtain ⟨q1, t⟩ := t
    refine xw_i2l (n := 17) (show xlook 209 16 = some (16, .i2l, 1, 0, 0, 0, 0) from xlk (by decide +kernel)) rfl q1 ?_
    refine xw_lconst (n := 18) (show xlook 209 17 = some (17, .lconst 0, 1, 0, 0, 0, 0) from xlk (by decide +kernel)) rfl (k := 0) (by decide) ?_
    refine xw_ldc2 (n := 21) (show xlook 209 18 = some (18, .ldc2_w 287, 3, 0, 0, 2, 13) from xlk (by decide +kernel)) rfl ?_
    obtain ⟨j2, hj2, rr2, G2, hm2, hG2, t⟩ := t
    obtain ⟨y2, rfl, t⟩ := t
    refine xw_calls (dk := j2) (as := [vl (x1), vl (0), vl (2)]) (show xlook 209 21 = some (21, .invokestatic 83, 3, 132, 3, 0, 151) from xlk (by decide +kernel)) (by decide) hj2 ⟨Nat.le_of_ble_eq_true rfl, Nat.le_of_ble_eq_true rfl, Nat.le_of_ble_eq_true rfl, by decide⟩ rfl hm2 (n := 24) rfl ?_
    show xW X d 209 24 [.ref (131), vi (x1), vi (x2), w3, w4, w5, w6, w7, w8] [vi (y2)] G2 (xqi Q)
    obtain ⟨q0, t⟩ := t
    refine xw_if_ne (n := 27) (m := 30) (show xlook 209 24 = some (24, .ifCond .ne 6, 3, 30, 0, 0, 0) from xlk (by decide +kernel)) rfl rfl q0 ⟨fun c => ?_, fun c => ?_⟩
    · replace t := t.1 c
      refine xw_iload_n (n := 31) (show xlook 209 30 = some (30, .iload_n 2, 1, 0, 0, 0, 0) from xlk (by decide +kernel)) rfl rfl ?_
      obtain ⟨q1, t⟩ := t
      refine xw_i2l (n := 32) (show xlook 209 31 = some (31, .i2l, 1, 0, 0, 0, 0) from xlk (by decide +kernel)) rfl q1 ?_
      refine xw_lconst (n := 33) (show xlook 209 32 = some (32, .lconst 0, 1, 0, 0, 0, 0) from xlk (by decide +kernel)) rfl (k := 0) (by decide) ?_
      refine xw_ldc2 (n := 36) (show xlook 209 33 = some (33, .ldc2_w 287, 3, 0, 0, 2, 13) from xlk (by decide +kernel)) rfl ?_
      obtain ⟨j3, hj3, rr3, G3, hm3, hG3, t⟩ := t
      obtain ⟨y3, rfl, t⟩ := t
      refine xw_calls (dk := j3) (as := [vl (x2), vl (0), vl (2)]) (show xlook 209 36 = some (36, .invokestatic 83, 3, 132, 3, 0, 151) from xlk (by decide +kernel)) (by decide) hj3 ⟨Nat.le_of_ble_eq_true rfl, Nat.le_of_ble_eq_true rfl, Nat.le_of_ble_eq_true rfl, by decide⟩ rfl hm3 (n := 39) rfl ?_
      show xW X d 209 39 [.ref (131), vi (x1), vi (x2), w3, w4, w5, w6, w7, w8] [vi (y3)] G3 (xqi Q)
      obtain ⟨q0, t⟩ := t
      refine xw_if_ne (n := 42) (m := 45) (show xlook 209 39 = some (39, .ifCond .ne 6, 3, 45, 0, 0, 0) from xlk (by decide +kernel)) rfl rfl q0 ⟨fun c => ?_, fun c => ?_⟩
      · replace t := t.1 c
        refine xw_aload_n (n := 46) (show xlook 209 45 = some (45, .aload_n 0, 1, 0, 0, 0, 0) from xlk (by decide +kernel)) rfl rfl ?_
        obtain ⟨j4, hj4, rr4, G4, hm4, hG4, t⟩ := t
        obtain ⟨rfl, t⟩ := t
        refine xw_callv (dk := j4) (o := 131) (as := []) (show xlook 209 46 = some (46, .invokevirtual 289, 3, 206, 1, 0, 201) from xlk (by decide +kernel)) (by decide) hj4 ⟨Nat.le_of_ble_eq_true rfl, Nat.le_of_ble_eq_true rfl, Nat.le_of_ble_eq_true rfl⟩ ⟨xob_12.1, xob_12.2, by decide⟩ rfl hm4 (n := 49) rfl ?_
        show xW X d 209 49 [.ref (131), vi (x1), vi (x2), w3, w4, w5, w6, w7, w8] [] G4 (xqi Q)
        refine xw_aload_n (n := 50) (show xlook 209 49 = some (49, .aload_n 0, 1, 0, 0, 0, 0) from xlk (by decide +kernel)) rfl rfl ?_
        refine xw_iconst (n := 51) (show xlook 209 50 = some (50, .iconst (-1), 1, 0, 0, 0, 0) from xlk (by decide +kernel)) rfl ?_
        refine xw_iconst (n := 52) (show xlook 209 51 = some (51, .iconst (-1), 1, 0, 0, 0, 0) from xlk (by decide +kernel)) rfl ?_
        obtain ⟨j5, hj5, rr5, G5, hm5, hG5, t⟩ := t
        obtain ⟨y5, rfl, t⟩ := t
        refine xw_callv (dk := j5) (o := 131) (as := [vi ((-1)), vi ((-1))]) (show xlook 209 52 = some (52, .invokevirtual 292, 3, 208, 3, 0, 202) from xlk (by decide +kernel)) (by decide) hj5 ⟨Nat.le_of_ble_eq_true rfl, Nat.le_of_ble_eq_true rfl, Nat.le_of_ble_eq_true rfl⟩ ⟨xob_12.1, xob_12.2, by decide⟩ rfl hm5 (n := 55) rfl ?_
        show xW X d 209 55 [.ref (131), vi (x1), vi (x2), w3, w4, w5, w6, w7, w8] [vi (y5)] G5 (xqi Q)
        refine xw_istore_n (n := 56) (show xlook 209 55 = some (55, .istore_n 3, 1, 0, 0, 0, 0) from xlk (by decide +kernel)) rfl (ls' := [.ref (131), vi (x1), vi (x2), vi (y5), w4, w5, w6, w7, w8]) (Nat.le_of_ble_eq_true rfl) rfl ?_
        refine xw_iconst (n := 57) (show xlook 209 56 = some (56, .iconst (-1), 1, 0, 0, 0, 0) from xlk (by decide +kernel)) rfl ?_
        refine xw_istore (n := 59) (show xlook 209 57 = some (57, .istore 4, 2, 0, 0, 0, 0) from xlk (by decide +kernel)) rfl (ls' := [.ref (131), vi (x1), vi (x2), vi (y5), vi ((-1)), w5, w6, w7, w8]) (Nat.le_of_ble_eq_true rfl) rfl ?_
        refine xw_iconst (n := 60) (show xlook 209 59 = some (59, .iconst (-1), 1, 0, 0, 0, 0) from xlk (by decide +kernel)) rfl ?_
        refine xw_istore (n := 62) (show xlook 209 60 = some (60, .istore 5, 2, 0, 0, 0, 0) from xlk (by decide +kernel)) rfl (ls' := [.ref (131), vi (x1), vi (x2), vi (y5), vi ((-1)), vi ((-1)), w6, w7, w8]) (Nat.le_of_ble_eq_true rfl) rfl ?_
        refine xw_iconst (n := 63) (show xlook 209 62 = some (62, .iconst 0, 1, 0, 0, 0, 0) from xlk (by decide +kernel)) rfl ?_
        refine xw_istore (n := 65) (show xlook 209 63 = some (63, .istore 6, 2, 0, 0, 0, 0) from xlk (by decide +kernel)) rfl (ls' := [.ref (131), vi (x1), vi (x2), vi (y5), vi ((-1)), vi ((-1)), vi (0), w7, w8]) (Nat.le_of_ble_eq_true rfl) rfl ?_
        exact t hG5
      · replace t := t.2 c
        refine xw_bipush (n := 44) (show xlook 209 42 = some (42, .bipush (-2), 2, 0, 0, 0, 0) from xlk (by decide +kernel)) rfl (by decide) ?_
        exact xw_ireturn hG3 (show xlook 209 44 = some (44, .ireturn, 1, 0, 0, 0, 0) from xlk (by decide +kernel)) rfl (t hG3)
    · replace t := t.2 c
      refine xw_bipush (n := 29) (show xlook 209 27 = some (27, .bipush (-3), 2, 0, 0, 0, 0) from xlk (by decide +kernel)) rfl (by decide) ?_
      exact xw_ireturn hG2 (show xlook 209 29 = some (29, .ireturn, 1, 0, 0, 0, 0) from xlk (by decide +kernel)) rfl (t hG2)
  · replace t := t.2 c
    refine xw_bipush (n := 14) (show xlook 209 12 = some (12, .bipush (-5), 2, 0, 0, 0, 0) from xlk (by decide +kernel)) rfl (by decide) ?_
    exact xw_ireturn hG1 (show xlook 209 14 = some (14, .ireturn, 1, 0, 0, 0, 0) from xlk (by decide +kernel)) rfl (t hG1)
theorem m209 {X : List Int32} {d : Nat} {F : XF} {Q : Int → XF → Prop} {x1 : Int} {x2 : Int} (hPT : xPT F)  (t : ∃ (j1 : Nat), j1 < d ∧ xMI X j1 154 [.ref (131)] (xup (F) (131) 0 (0)) (fun (y1 : Int) (G1 : XF) => (inR (y1) ∧ (((¬ (y1) = (0)) → ((inR (x1)) ∧ (∃ (j2 : Nat), j2 < d ∧ xMI X j2 132 [vl (x1), vl (0), vl (2)] (G1) (fun (y2 : Int) (G2 : XF) => (inR (y2) ∧ (((¬ (y2) = (0)) → ((inR (x2)) ∧ (∃ (j3 : Nat), j3 < d ∧ xMI X j3 132 [vl (x2), vl (0), vl (2)] (G2) (fun (y3 : Int) (G3 : XF) => (inR (y3) ∧ (((¬ (y3) = (0)) → (∃ (j4 : Nat), j4 < d ∧ xMV X j4 206 [.ref (131)] (G3) (fun (G4 : XF) => (∃ (j5 : Nat), j5 < d ∧ xMI X j5 208 [.ref (131), vi ((-1)), vi ((-1))] (G4) (fun (y5 : Int) (G5 : XF) => (xPT (G5) → xW X d 209 65 [.ref (131), vi (x1), vi (x2), vi (y5), vi ((-1)), vi ((-1)), vi (0), xU0, xU0] [] (G5) (xqi Q))))))) ∧ (¬ (¬ (y3) = (0)) → (xPT (G3) → Q ((-2)) (G3))))))))) ∧ (¬ (¬ (y2) = (0)) → (xPT (G2) → Q ((-3)) (G2))))))))) ∧ (¬ (¬ (y1) = (0)) → (xPT (G1) → Q ((-5)) (G1))))))) : xMI X d 209 [.ref (131), vi (x1), vi (x2)] F Q := by
  show xW X d 209 0 [.ref (131), vi (x1), vi (x2), xU0, xU0, xU0, xU0, xU0, xU0] [] F (xqi Q)
  exact s209_0 hPT  t

theorem s209_65 {X : List Int32} {d : Nat} {F : XF} {Q : Int → XF → Prop} {x1 : Int} {x2 : Int} {x3 : Int} {x4 : Int} {x5 : Int} {x6 : Int} {w7 : Value} {w8 : Value} (hPT : xPT F)  (t : inR (x1) ∧ ((((x1) ≤ (0)) → (xPT (F) → xW X d 209 125 [.ref (131), vi (x1), vi (x2), vi (x3), vi (x4), vi (x5), vi (0), w7, w8] [] (F) (xqi Q))) ∧ (¬ ((x1) ≤ (0)) → (∃ (j1 : Nat), j1 < d ∧ xMI X j1 154 [.ref (131)] (F) (fun (y1 : Int) (G1 : XF) => (inR (x6) ∧ inR ((y1) - (1)) ∧ (((((y1) - (1)) ≤ (x6)) → (xPT (G1) → xW X d 209 125 [.ref (131), vi (x1), vi (x2), vi (x3), vi (x4), vi (x5), vi (0), w7, w8] [] (G1) (xqi Q))) ∧ (¬ (((y1) - (1)) ≤ (x6)) → (∃ (j2 : Nat), j2 < d ∧ xMI X j2 208 [.ref (131), vi (x6), vi ((-1))] (G1) (fun (y2 : Int) (G2 : XF) => (inR (y2) ∧ ((((y2) = ((-1))) → (xPT (G2) → xW X d 209 65 [.ref (131), vi (x1), vi (x2), vi (x3), vi (x4), vi (x5), vi (x6 + 1), vi (y2), w8] [] (G2) (xqi Q))) ∧ (¬ ((y2) = ((-1))) → (inR (x3) ∧ ((((x3) = ((-1))) → (xPT (G2) → xW X d 209 65 [.ref (131), vi (x1), vi (x2), vi (y2), vi (x6), vi (x5), vi (x6 + 1), vi (y2), w8] [] (G2) (xqi Q))) ∧ (¬ ((x3) = ((-1))) → (inR (y2) ∧ inR (x3) ∧ ((((y2) < (x3)) → (xPT (G2) → xW X d 209 65 [.ref (131), vi (x1), vi (x2), vi (y2), vi (x6), vi (x5), vi (x6 + 1), vi (y2), w8] [] (G2) (xqi Q))) ∧ (¬ ((y2) < (x3)) → (xPT (G2) → xW X d 209 65 [.ref (131), vi (x1), vi (x2), vi (x3), vi (x4), vi (x5), vi (x6 + 1), vi (y2), w8] [] (G2) (xqi Q))))))))))))))))))))) : xW X d 209 65 [.ref (131), vi (x1), vi (x2), vi (x3), vi (x4), vi (x5), vi (x6), w7, w8] [] F (xqi Q) := by
  refine xw_iload_n (n := 66) (show xlook 209 65 = some (65, .iload_n 1, 1, 0, 0, 0, 0) from xlk (by decide +kernel)) rfl rfl ?_
  obtain ⟨q0, t⟩ := t
  refine xw_if_le (n := 69) (m := 122) (show xlook 209 66 = some (66, .ifCond .le 56, 3, 122, 0, 0, 0) from xlk (by decide +kernel)) rfl rfl q0 ⟨fun c => ?_, fun c => ?_⟩
  · replace t := t.1 c
    refine xw_iconst (n := 123) (show xlook 209 122 = some (122, .iconst 0, 1, 0, 0, 0, 0) from xlk (by decide +kernel)) rfl ?_
    refine xw_istore (n := 125) (show xlook 209 123 = some (123, .istore 6, 2, 0, 0, 0, 0) from xlk (by decide +kernel)) rfl (ls' := [.ref (131), vi (x1), vi (x2), vi (x3), vi (x4), vi (x5), vi (0), w7, w8]) (Nat.le_of_ble_eq_true rfl) rfl ?_
    exact t hPT
  · replace t := t.2 c
    refine xw_iload (n := 71) (show xlook 209 69 = some (69, .iload 6, 2, 0, 0, 0, 0) from xlk (by decide +kernel)) rfl rfl ?_
    refine xw_aload_n (n := 72) (show xlook 209 71 = some (71, .aload_n 0, 1, 0, 0, 0, 0) from xlk (by decide +kernel)) rfl rfl ?_
    obtain ⟨j1, hj1, rr1, G1, hm1, hG1, t⟩ := t
    obtain ⟨y1, rfl, t⟩ := t
    refine xw_callv (dk := j1) (o := 131) (as := []) (show xlook 209 72 = some (72, .invokevirtual 161, 3, 154, 1, 0, 169) from xlk (by decide +kernel)) (by decide) hj1 ⟨Nat.le_of_ble_eq_true rfl, Nat.le_of_ble_eq_true rfl, Nat.le_of_ble_eq_true rfl⟩ ⟨xob_12.1, xob_12.2, by decide⟩ rfl hm1 (n := 75) rfl ?_
    show xW X d 209 75 [.ref (131), vi (x1), vi (x2), vi (x3), vi (x4), vi (x5), vi (x6), w7, w8] [vi (y1), vi (x6)] G1 (xqi Q)
    refine xw_iconst (n := 76) (show xlook 209 75 = some (75, .iconst 1, 1, 0, 0, 0, 0) from xlk (by decide +kernel)) rfl ?_
    refine xw_isub (n := 77) (show xlook 209 76 = some (76, .isub, 1, 0, 0, 0, 0) from xlk (by decide +kernel)) rfl ?_
    obtain ⟨q0, q1, t⟩ := t
    refine xw_icmp_ge (n := 80) (m := 122) (show xlook 209 77 = some (77, .if_icmp .ge 45, 3, 122, 0, 0, 0) from xlk (by decide +kernel)) rfl rfl q0 q1 ⟨fun c => ?_, fun c => ?_⟩
    · replace t := t.1 c
      refine xw_iconst (n := 123) (show xlook 209 122 = some (122, .iconst 0, 1, 0, 0, 0, 0) from xlk (by decide +kernel)) rfl ?_
      refine xw_istore (n := 125) (show xlook 209 123 = some (123, .istore 6, 2, 0, 0, 0, 0) from xlk (by decide +kernel)) rfl (ls' := [.ref (131), vi (x1), vi (x2), vi (x3), vi (x4), vi (x5), vi (0), w7, w8]) (Nat.le_of_ble_eq_true rfl) rfl ?_
      exact t hG1
    · replace t := t.2 c
      refine xw_aload_n (n := 81) (show xlook 209 80 = some (80, .aload_n 0, 1, 0, 0, 0, 0) from xlk (by decide +kernel)) rfl rfl ?_
      refine xw_iload (n := 83) (show xlook 209 81 = some (81, .iload 6, 2, 0, 0, 0, 0) from xlk (by decide +kernel)) rfl rfl ?_
      refine xw_iconst (n := 84) (show xlook 209 83 = some (83, .iconst (-1), 1, 0, 0, 0, 0) from xlk (by decide +kernel)) rfl ?_
      obtain ⟨j2, hj2, rr2, G2, hm2, hG2, t⟩ := t
      obtain ⟨y2, rfl, t⟩ := t
      refine xw_callv (dk := j2) (o := 131) (as := [vi (x6), vi ((-1))]) (show xlook 209 84 = some (84, .invokevirtual 292, 3, 208, 3, 0, 202) from xlk (by decide +kernel)) (by decide) hj2 ⟨Nat.le_of_ble_eq_true rfl, Nat.le_of_ble_eq_true rfl, Nat.le_of_ble_eq_true rfl⟩ ⟨xob_12.1, xob_12.2, by decide⟩ rfl hm2 (n := 87) rfl ?_
      show xW X d 209 87 [.ref (131), vi (x1), vi (x2), vi (x3), vi (x4), vi (x5), vi (x6), w7, w8] [vi (y2)] G2 (xqi Q)
      refine xw_istore (n := 89) (show xlook 209 87 = some (87, .istore 7, 2, 0, 0, 0, 0) from xlk (by decide +kernel)) rfl (ls' := [.ref (131), vi (x1), vi (x2), vi (x3), vi (x4), vi (x5), vi (x6), vi (y2), w8]) (Nat.le_of_ble_eq_true rfl) rfl ?_
      refine xw_iload (n := 91) (show xlook 209 89 = some (89, .iload 7, 2, 0, 0, 0, 0) from xlk (by decide +kernel)) rfl rfl ?_
      refine xw_iconst (n := 92) (show xlook 209 91 = some (91, .iconst (-1), 1, 0, 0, 0, 0) from xlk (by decide +kernel)) rfl ?_
      obtain ⟨q0, t⟩ := t
      refine xw_icmp_eq (n := 95) (m := 116) (show xlook 209 92 = some (92, .if_icmp .eq 24, 3, 116, 0, 0, 0) from xlk (by decide +kernel)) rfl rfl q0 ⟨by decide, by decide⟩ ⟨fun c => ?_, fun c => ?_⟩
      · replace t := t.1 c
        refine xw_iinc (n := 119) (show xlook 209 116 = some (116, .iinc 6 1, 3, 0, 0, 0, 0) from xlk (by decide +kernel)) rfl (ls' := [.ref (131), vi (x1), vi (x2), vi (x3), vi (x4), vi (x5), vi (x6 + 1), vi (y2), w8]) rfl rfl ?_
        refine xw_goto (m := 65) (show xlook 209 119 = some (119, .goto (-54), 3, 65, 0, 0, 0) from xlk (by decide +kernel)) rfl ?_
        exact t hG2
      · replace t := t.2 c
        refine xw_iload_n (n := 96) (show xlook 209 95 = some (95, .iload_n 3, 1, 0, 0, 0, 0) from xlk (by decide +kernel)) rfl rfl ?_
        refine xw_iconst (n := 97) (show xlook 209 96 = some (96, .iconst (-1), 1, 0, 0, 0, 0) from xlk (by decide +kernel)) rfl ?_
        obtain ⟨q0, t⟩ := t
        refine xw_icmp_eq (n := 100) (m := 109) (show xlook 209 97 = some (97, .if_icmp .eq 12, 3, 109, 0, 0, 0) from xlk (by decide +kernel)) rfl rfl q0 ⟨by decide, by decide⟩ ⟨fun c => ?_, fun c => ?_⟩
        · replace t := t.1 c
          refine xw_iload (n := 111) (show xlook 209 109 = some (109, .iload 7, 2, 0, 0, 0, 0) from xlk (by decide +kernel)) rfl rfl ?_
          refine xw_istore_n (n := 112) (show xlook 209 111 = some (111, .istore_n 3, 1, 0, 0, 0, 0) from xlk (by decide +kernel)) rfl (ls' := [.ref (131), vi (x1), vi (x2), vi (y2), vi (x4), vi (x5), vi (x6), vi (y2), w8]) (Nat.le_of_ble_eq_true rfl) rfl ?_
          refine xw_iload (n := 114) (show xlook 209 112 = some (112, .iload 6, 2, 0, 0, 0, 0) from xlk (by decide +kernel)) rfl rfl ?_
          refine xw_istore (n := 116) (show xlook 209 114 = some (114, .istore 4, 2, 0, 0, 0, 0) from xlk (by decide +kernel)) rfl (ls' := [.ref (131), vi (x1), vi (x2), vi (y2), vi (x6), vi (x5), vi (x6), vi (y2), w8]) (Nat.le_of_ble_eq_true rfl) rfl ?_
          refine xw_iinc (n := 119) (show xlook 209 116 = some (116, .iinc 6 1, 3, 0, 0, 0, 0) from xlk (by decide +kernel)) rfl (ls' := [.ref (131), vi (x1), vi (x2), vi (y2), vi (x6), vi (x5), vi (x6 + 1), vi (y2), w8]) rfl rfl ?_
          refine xw_goto (m := 65) (show xlook 209 119 = some (119, .goto (-54), 3, 65, 0, 0, 0) from xlk (by decide +kernel)) rfl ?_
          exact t hG2
        · replace t := t.2 c
          refine xw_iload (n := 102) (show xlook 209 100 = some (100, .iload 7, 2, 0, 0, 0, 0) from xlk (by decide +kernel)) rfl rfl ?_
          refine xw_iload_n (n := 103) (show xlook 209 102 = some (102, .iload_n 3, 1, 0, 0, 0, 0) from xlk (by decide +kernel)) rfl rfl ?_
          obtain ⟨q0, q1, t⟩ := t
          refine xw_icmp_lt (n := 106) (m := 109) (show xlook 209 103 = some (103, .if_icmp .lt 6, 3, 109, 0, 0, 0) from xlk (by decide +kernel)) rfl rfl q0 q1 ⟨fun c => ?_, fun c => ?_⟩
          · replace t := t.1 c
            refine xw_iload (n := 111) (show xlook 209 109 = some (109, .iload 7, 2, 0, 0, 0, 0) from xlk (by decide +kernel)) rfl rfl ?_
            refine xw_istore_n (n := 112) (show xlook 209 111 = some (111, .istore_n 3, 1, 0, 0, 0, 0) from xlk (by decide +kernel)) rfl (ls' := [.ref (131), vi (x1), vi (x2), vi (y2), vi (x4), vi (x5), vi (x6), vi (y2), w8]) (Nat.le_of_ble_eq_true rfl) rfl ?_
            refine xw_iload (n := 114) (show xlook 209 112 = some (112, .iload 6, 2, 0, 0, 0, 0) from xlk (by decide +kernel)) rfl rfl ?_
            refine xw_istore (n := 116) (show xlook 209 114 = some (114, .istore 4, 2, 0, 0, 0, 0) from xlk (by decide +kernel)) rfl (ls' := [.ref (131), vi (x1), vi (x2), vi (y2), vi (x6), vi (x5), vi (x6), vi (y2), w8]) (Nat.le_of_ble_eq_true rfl) rfl ?_
            refine xw_iinc (n := 119) (show xlook 209 116 = some (116, .iinc 6 1, 3, 0, 0, 0, 0) from xlk (by decide +kernel)) rfl (ls' := [.ref (131), vi (x1), vi (x2), vi (y2), vi (x6), vi (x5), vi (x6 + 1), vi (y2), w8]) rfl rfl ?_
            refine xw_goto (m := 65) (show xlook 209 119 = some (119, .goto (-54), 3, 65, 0, 0, 0) from xlk (by decide +kernel)) rfl ?_
            exact t hG2
          · replace t := t.2 c
            refine xw_goto (m := 116) (show xlook 209 106 = some (106, .goto 10, 3, 116, 0, 0, 0) from xlk (by decide +kernel)) rfl ?_
            refine xw_iinc (n := 119) (show xlook 209 116 = some (116, .iinc 6 1, 3, 0, 0, 0, 0) from xlk (by decide +kernel)) rfl (ls' := [.ref (131), vi (x1), vi (x2), vi (x3), vi (x4), vi (x5), vi (x6 + 1), vi (y2), w8]) rfl rfl ?_
            refine xw_goto (m := 65) (show xlook 209 119 = some (119, .goto (-54), 3, 65, 0, 0, 0) from xlk (by decide +kernel)) rfl ?_
            exact t hG2

theorem s209_125 {X : List Int32} {d : Nat} {F : XF} {Q : Int → XF → Prop} {x1 : Int} {x2 : Int} {x3 : Int} {x4 : Int} {x5 : Int} {x6 : Int} {w7 : Value} {w8 : Value} (hPT : xPT F)  (t : inR (x1) ∧ ((((x1) ≤ (1)) → (xPT (F) → xW X d 209 211 [.ref (131), vi (x1), vi (x2), vi (x3), vi (x4), vi (x5), vi (x6), w7, w8] [] (F) (xqi Q))) ∧ (¬ ((x1) ≤ (1)) → (∃ (j1 : Nat), j1 < d ∧ xMI X j1 154 [.ref (131)] (F) (fun (y1 : Int) (G1 : XF) => (inR (x6) ∧ inR ((y1) - (1)) ∧ (((((y1) - (1)) ≤ (x6)) → (xPT (G1) → xW X d 209 211 [.ref (131), vi (x1), vi (x2), vi (x3), vi (x4), vi (x5), vi (x6), w7, w8] [] (G1) (xqi Q))) ∧ (¬ (((y1) - (1)) ≤ (x6)) → (xPT (G1) → xW X d 209 147 [.ref (131), vi (x1), vi (x2), vi (x3), vi (x4), vi (x5), vi (x6), vi ((x6) + (1)), w8] [] (G1) (xqi Q)))))))))) : xW X d 209 125 [.ref (131), vi (x1), vi (x2), vi (x3), vi (x4), vi (x5), vi (x6), w7, w8] [] F (xqi Q) := by
  refine xw_iload_n (n := 126) (show xlook 209 125 = some (125, .iload_n 1, 1, 0, 0, 0, 0) from xlk (by decide +kernel)) rfl rfl ?_
  refine xw_iconst (n := 127) (show xlook 209 126 = some (126, .iconst 1, 1, 0, 0, 0, 0) from xlk (by decide +kernel)) rfl ?_
  obtain ⟨q0, t⟩ := t
  refine xw_icmp_le (n := 130) (m := 211) (show xlook 209 127 = some (127, .if_icmp .le 84, 3, 211, 0, 0, 0) from xlk (by decide +kernel)) rfl rfl q0 ⟨by decide, by decide⟩ ⟨fun c => ?_, fun c => ?_⟩
  · replace t := t.1 c
    exact t hPT
  · replace t := t.2 c
    refine xw_iload (n := 132) (show xlook 209 130 = some (130, .iload 6, 2, 0, 0, 0, 0) from xlk (by decide +kernel)) rfl rfl ?_
    refine xw_aload_n (n := 133) (show xlook 209 132 = some (132, .aload_n 0, 1, 0, 0, 0, 0) from xlk (by decide +kernel)) rfl rfl ?_
    obtain ⟨j1, hj1, rr1, G1, hm1, hG1, t⟩ := t
    obtain ⟨y1, rfl, t⟩ := t
    refine xw_callv (dk := j1) (o := 131) (as := []) (show xlook 209 133 = some (133, .invokevirtual 161, 3, 154, 1, 0, 169) from xlk (by decide +kernel)) (by decide) hj1 ⟨Nat.le_of_ble_eq_true rfl, Nat.le_of_ble_eq_true rfl, Nat.le_of_ble_eq_true rfl⟩ ⟨xob_12.1, xob_12.2, by decide⟩ rfl hm1 (n := 136) rfl ?_
    show xW X d 209 136 [.ref (131), vi (x1), vi (x2), vi (x3), vi (x4), vi (x5), vi (x6), w7, w8] [vi (y1), vi (x6)] G1 (xqi Q)
    refine xw_iconst (n := 137) (show xlook 209 136 = some (136, .iconst 1, 1, 0, 0, 0, 0) from xlk (by decide +kernel)) rfl ?_
    refine xw_isub (n := 138) (show xlook 209 137 = some (137, .isub, 1, 0, 0, 0, 0) from xlk (by decide +kernel)) rfl ?_
    obtain ⟨q0, q1, t⟩ := t
    refine xw_icmp_ge (n := 141) (m := 211) (show xlook 209 138 = some (138, .if_icmp .ge 73, 3, 211, 0, 0, 0) from xlk (by decide +kernel)) rfl rfl q0 q1 ⟨fun c => ?_, fun c => ?_⟩
    · replace t := t.1 c
      exact t hG1
    · replace t := t.2 c
      refine xw_iload (n := 143) (show xlook 209 141 = some (141, .iload 6, 2, 0, 0, 0, 0) from xlk (by decide +kernel)) rfl rfl ?_
      refine xw_iconst (n := 144) (show xlook 209 143 = some (143, .iconst 1, 1, 0, 0, 0, 0) from xlk (by decide +kernel)) rfl ?_
      refine xw_iadd (n := 145) (show xlook 209 144 = some (144, .iadd, 1, 0, 0, 0, 0) from xlk (by decide +kernel)) rfl ?_
      refine xw_istore (n := 147) (show xlook 209 145 = some (145, .istore 7, 2, 0, 0, 0, 0) from xlk (by decide +kernel)) rfl (ls' := [.ref (131), vi (x1), vi (x2), vi (x3), vi (x4), vi (x5), vi (x6), vi ((x6) + (1)), w8]) (Nat.le_of_ble_eq_true rfl) rfl ?_
      exact t hG1

theorem s209_147 {X : List Int32} {d : Nat} {F : XF} {Q : Int → XF → Prop} {x1 : Int} {x2 : Int} {x3 : Int} {x4 : Int} {x5 : Int} {x6 : Int} {x7 : Int} {w8 : Value} (hPT : xPT F)  (t : ∃ (j1 : Nat), j1 < d ∧ xMI X j1 154 [.ref (131)] (F) (fun (y1 : Int) (G1 : XF) => (inR (x7) ∧ inR ((y1) - (1)) ∧ (((((y1) - (1)) ≤ (x7)) → (xPT (G1) → xW X d 209 125 [.ref (131), vi (x1), vi (x2), vi (x3), vi (x4), vi (x5), vi (x6 + 1), vi (x7), w8] [] (G1) (xqi Q))) ∧ (¬ (((y1) - (1)) ≤ (x7)) → (∃ (j2 : Nat), j2 < d ∧ xMI X j2 208 [.ref (131), vi (x6), vi (x7)] (G1) (fun (y2 : Int) (G2 : XF) => (inR (y2) ∧ ((((y2) = ((-1))) → (xPT (G2) → xW X d 209 147 [.ref (131), vi (x1), vi (x2), vi (x3), vi (x4), vi (x5), vi (x6), vi (x7 + 1), vi (y2)] [] (G2) (xqi Q))) ∧ (¬ ((y2) = ((-1))) → (inR (x3) ∧ ((((x3) = ((-1))) → (xPT (G2) → xW X d 209 188 [.ref (131), vi (x1), vi (x2), vi (x3), vi (x4), vi (x5), vi (x6), vi (x7), vi (y2)] [] (G2) (xqi Q))) ∧ (¬ ((x3) = ((-1))) → (inR (y2) ∧ inR (x3) ∧ ((((y2) < (x3)) → (xPT (G2) → xW X d 209 188 [.ref (131), vi (x1), vi (x2), vi (x3), vi (x4), vi (x5), vi (x6), vi (x7), vi (y2)] [] (G2) (xqi Q))) ∧ (¬ ((y2) < (x3)) → (xPT (G2) → xW X d 209 147 [.ref (131), vi (x1), vi (x2), vi (x3), vi (x4), vi (x5), vi (x6), vi (x7 + 1), vi (y2)] [] (G2) (xqi Q)))))))))))))))))) : xW X d 209 147 [.ref (131), vi (x1), vi (x2), vi (x3), vi (x4), vi (x5), vi (x6), vi (x7), w8] [] F (xqi Q) := by
  refine xw_iload (n := 149) (show xlook 209 147 = some (147, .iload 7, 2, 0, 0, 0, 0) from xlk (by decide +kernel)) rfl rfl ?_
  refine xw_aload_n (n := 150) (show xlook 209 149 = some (149, .aload_n 0, 1, 0, 0, 0, 0) from xlk (by decide +kernel)) rfl rfl ?_
  obtain ⟨j1, hj1, rr1, G1, hm1, hG1, t⟩ := t
  obtain ⟨y1, rfl, t⟩ := t
  refine xw_callv (dk := j1) (o := 131) (as := []) (show xlook 209 150 = some (150, .invokevirtual 161, 3, 154, 1, 0, 169) from xlk (by decide +kernel)) (by decide) hj1 ⟨Nat.le_of_ble_eq_true rfl, Nat.le_of_ble_eq_true rfl, Nat.le_of_ble_eq_true rfl⟩ ⟨xob_12.1, xob_12.2, by decide⟩ rfl hm1 (n := 153) rfl ?_
  show xW X d 209 153 [.ref (131), vi (x1), vi (x2), vi (x3), vi (x4), vi (x5), vi (x6), vi (x7), w8] [vi (y1), vi (x7)] G1 (xqi Q)
  refine xw_iconst (n := 154) (show xlook 209 153 = some (153, .iconst 1, 1, 0, 0, 0, 0) from xlk (by decide +kernel)) rfl ?_
  refine xw_isub (n := 155) (show xlook 209 154 = some (154, .isub, 1, 0, 0, 0, 0) from xlk (by decide +kernel)) rfl ?_
  obtain ⟨q0, q1, t⟩ := t
  refine xw_icmp_ge (n := 158) (m := 205) (show xlook 209 155 = some (155, .if_icmp .ge 50, 3, 205, 0, 0, 0) from xlk (by decide +kernel)) rfl rfl q0 q1 ⟨fun c => ?_, fun c => ?_⟩
  · replace t := t.1 c
    refine xw_iinc (n := 208) (show xlook 209 205 = some (205, .iinc 6 1, 3, 0, 0, 0, 0) from xlk (by decide +kernel)) rfl (ls' := [.ref (131), vi (x1), vi (x2), vi (x3), vi (x4), vi (x5), vi (x6 + 1), vi (x7), w8]) rfl rfl ?_
    refine xw_goto (m := 125) (show xlook 209 208 = some (208, .goto (-83), 3, 125, 0, 0, 0) from xlk (by decide +kernel)) rfl ?_
    exact t hG1
  · replace t := t.2 c
    refine xw_aload_n (n := 159) (show xlook 209 158 = some (158, .aload_n 0, 1, 0, 0, 0, 0) from xlk (by decide +kernel)) rfl rfl ?_
    refine xw_iload (n := 161) (show xlook 209 159 = some (159, .iload 6, 2, 0, 0, 0, 0) from xlk (by decide +kernel)) rfl rfl ?_
    refine xw_iload (n := 163) (show xlook 209 161 = some (161, .iload 7, 2, 0, 0, 0, 0) from xlk (by decide +kernel)) rfl rfl ?_
    obtain ⟨j2, hj2, rr2, G2, hm2, hG2, t⟩ := t
    obtain ⟨y2, rfl, t⟩ := t
    refine xw_callv (dk := j2) (o := 131) (as := [vi (x6), vi (x7)]) (show xlook 209 163 = some (163, .invokevirtual 292, 3, 208, 3, 0, 202) from xlk (by decide +kernel)) (by decide) hj2 ⟨Nat.le_of_ble_eq_true rfl, Nat.le_of_ble_eq_true rfl, Nat.le_of_ble_eq_true rfl⟩ ⟨xob_12.1, xob_12.2, by decide⟩ rfl hm2 (n := 166) rfl ?_
    show xW X d 209 166 [.ref (131), vi (x1), vi (x2), vi (x3), vi (x4), vi (x5), vi (x6), vi (x7), w8] [vi (y2)] G2 (xqi Q)
    refine xw_istore (n := 168) (show xlook 209 166 = some (166, .istore 8, 2, 0, 0, 0, 0) from xlk (by decide +kernel)) rfl (ls' := [.ref (131), vi (x1), vi (x2), vi (x3), vi (x4), vi (x5), vi (x6), vi (x7), vi (y2)]) (Nat.le_of_ble_eq_true rfl) rfl ?_
    refine xw_iload (n := 170) (show xlook 209 168 = some (168, .iload 8, 2, 0, 0, 0, 0) from xlk (by decide +kernel)) rfl rfl ?_
    refine xw_iconst (n := 171) (show xlook 209 170 = some (170, .iconst (-1), 1, 0, 0, 0, 0) from xlk (by decide +kernel)) rfl ?_
    obtain ⟨q0, t⟩ := t
    refine xw_icmp_eq (n := 174) (m := 199) (show xlook 209 171 = some (171, .if_icmp .eq 28, 3, 199, 0, 0, 0) from xlk (by decide +kernel)) rfl rfl q0 ⟨by decide, by decide⟩ ⟨fun c => ?_, fun c => ?_⟩
    · replace t := t.1 c
      refine xw_iinc (n := 202) (show xlook 209 199 = some (199, .iinc 7 1, 3, 0, 0, 0, 0) from xlk (by decide +kernel)) rfl (ls' := [.ref (131), vi (x1), vi (x2), vi (x3), vi (x4), vi (x5), vi (x6), vi (x7 + 1), vi (y2)]) rfl rfl ?_
      refine xw_goto (m := 147) (show xlook 209 202 = some (202, .goto (-55), 3, 147, 0, 0, 0) from xlk (by decide +kernel)) rfl ?_
      exact t hG2
    · replace t := t.2 c
      refine xw_iload_n (n := 175) (show xlook 209 174 = some (174, .iload_n 3, 1, 0, 0, 0, 0) from xlk (by decide +kernel)) rfl rfl ?_
      refine xw_iconst (n := 176) (show xlook 209 175 = some (175, .iconst (-1), 1, 0, 0, 0, 0) from xlk (by decide +kernel)) rfl ?_
      obtain ⟨q0, t⟩ := t
      refine xw_icmp_eq (n := 179) (m := 188) (show xlook 209 176 = some (176, .if_icmp .eq 12, 3, 188, 0, 0, 0) from xlk (by decide +kernel)) rfl rfl q0 ⟨by decide, by decide⟩ ⟨fun c => ?_, fun c => ?_⟩
      · replace t := t.1 c
        exact t hG2
      · replace t := t.2 c
        refine xw_iload (n := 181) (show xlook 209 179 = some (179, .iload 8, 2, 0, 0, 0, 0) from xlk (by decide +kernel)) rfl rfl ?_
        refine xw_iload_n (n := 182) (show xlook 209 181 = some (181, .iload_n 3, 1, 0, 0, 0, 0) from xlk (by decide +kernel)) rfl rfl ?_
        obtain ⟨q0, q1, t⟩ := t
        refine xw_icmp_lt (n := 185) (m := 188) (show xlook 209 182 = some (182, .if_icmp .lt 6, 3, 188, 0, 0, 0) from xlk (by decide +kernel)) rfl rfl q0 q1 ⟨fun c => ?_, fun c => ?_⟩
        · replace t := t.1 c
          exact t hG2
        · replace t := t.2 c
          refine xw_goto (m := 199) (show xlook 209 185 = some (185, .goto 14, 3, 199, 0, 0, 0) from xlk (by decide +kernel)) rfl ?_
          refine xw_iinc (n := 202) (show xlook 209 199 = some (199, .iinc 7 1, 3, 0, 0, 0, 0) from xlk (by decide +kernel)) rfl (ls' := [.ref (131), vi (x1), vi (x2), vi (x3), vi (x4), vi (x5), vi (x6), vi (x7 + 1), vi (y2)]) rfl rfl ?_
          refine xw_goto (m := 147) (show xlook 209 202 = some (202, .goto (-55), 3, 147, 0, 0, 0) from xlk (by decide +kernel)) rfl ?_
          exact t hG2

theorem s209_188 {X : List Int32} {d : Nat} {F : XF} {Q : Int → XF → Prop} {x1 : Int} {x2 : Int} {x3 : Int} {x4 : Int} {x5 : Int} {x6 : Int} {x7 : Int} {x8 : Int} (hPT : xPT F)  (t : xPT (F) → xW X d 209 147 [.ref (131), vi (x1), vi (x2), vi (x8), vi (x6), vi (x7), vi (x6), vi (x7 + 1), vi (x8)] [] (F) (xqi Q)) : xW X d 209 188 [.ref (131), vi (x1), vi (x2), vi (x3), vi (x4), vi (x5), vi (x6), vi (x7), vi (x8)] [] F (xqi Q) := by
  refine xw_iload (n := 190) (show xlook 209 188 = some (188, .iload 8, 2, 0, 0, 0, 0) from xlk (by decide +kernel)) rfl rfl ?_
  refine xw_istore_n (n := 191) (show xlook 209 190 = some (190, .istore_n 3, 1, 0, 0, 0, 0) from xlk (by decide +kernel)) rfl (ls' := [.ref (131), vi (x1), vi (x2), vi (x8), vi (x4), vi (x5), vi (x6), vi (x7), vi (x8)]) (Nat.le_of_ble_eq_true rfl) rfl ?_
  refine xw_iload (n := 193) (show xlook 209 191 = some (191, .iload 6, 2, 0, 0, 0, 0) from xlk (by decide +kernel)) rfl rfl ?_
  refine xw_istore (n := 195) (show xlook 209 193 = some (193, .istore 4, 2, 0, 0, 0, 0) from xlk (by decide +kernel)) rfl (ls' := [.ref (131), vi (x1), vi (x2), vi (x8), vi (x6), vi (x5), vi (x6), vi (x7), vi (x8)]) (Nat.le_of_ble_eq_true rfl) rfl ?_
  refine xw_iload (n := 197) (show xlook 209 195 = some (195, .iload 7, 2, 0, 0, 0, 0) from xlk (by decide +kernel)) rfl rfl ?_
  refine xw_istore (n := 199) (show xlook 209 197 = some (197, .istore 5, 2, 0, 0, 0, 0) from xlk (by decide +kernel)) rfl (ls' := [.ref (131), vi (x1), vi (x2), vi (x8), vi (x6), vi (x7), vi (x6), vi (x7), vi (x8)]) (Nat.le_of_ble_eq_true rfl) rfl ?_
  refine xw_iinc (n := 202) (show xlook 209 199 = some (199, .iinc 7 1, 3, 0, 0, 0, 0) from xlk (by decide +kernel)) rfl (ls' := [.ref (131), vi (x1), vi (x2), vi (x8), vi (x6), vi (x7), vi (x6), vi (x7 + 1), vi (x8)]) rfl rfl ?_
  refine xw_goto (m := 147) (show xlook 209 202 = some (202, .goto (-55), 3, 147, 0, 0, 0) from xlk (by decide +kernel)) rfl ?_
  exact t hPT

theorem s209_211 {X : List Int32} {d : Nat} {F : XF} {Q : Int → XF → Prop} {x1 : Int} {x2 : Int} {x3 : Int} {x4 : Int} {x5 : Int} {x6 : Int} {w7 : Value} {w8 : Value} (hPT : xPT F)  (t : ∃ (j1 : Nat), j1 < d ∧ xMV X j1 207 [.ref (131)] (F) (fun (G1 : XF) => (inR (x2) ∧ ((((x2) = (0)) → (xPT (G1) → Q (x3) (G1))) ∧ (¬ ((x2) = (0)) → (inR (x3) ∧ (((¬ (x3) = ((-1))) → (inR (x2) ∧ (((¬ (x2) = (1)) → (xPT (G1) → Q (x5) (G1))) ∧ (¬ (¬ (x2) = (1)) → (xPT (G1) → Q (x4) (G1)))))) ∧ (¬ (¬ (x3) = ((-1))) → (xPT (G1) → Q (x3) (G1)))))))))) : xW X d 209 211 [.ref (131), vi (x1), vi (x2), vi (x3), vi (x4), vi (x5), vi (x6), w7, w8] [] F (xqi Q) := by
  refine xw_aload_n (n := 212) (show xlook 209 211 = some (211, .aload_n 0, 1, 0, 0, 0, 0) from xlk (by decide +kernel)) rfl rfl ?_
  obtain ⟨j1, hj1, rr1, G1, hm1, hG1, t⟩ := t
  obtain ⟨rfl, t⟩ := t
  refine xw_callv (dk := j1) (o := 131) (as := []) (show xlook 209 212 = some (212, .invokevirtual 295, 3, 207, 1, 0, 203) from xlk (by decide +kernel)) (by decide) hj1 ⟨Nat.le_of_ble_eq_true rfl, Nat.le_of_ble_eq_true rfl, Nat.le_of_ble_eq_true rfl⟩ ⟨xob_12.1, xob_12.2, by decide⟩ rfl hm1 (n := 215) rfl ?_
  show xW X d 209 215 [.ref (131), vi (x1), vi (x2), vi (x3), vi (x4), vi (x5), vi (x6), w7, w8] [] G1 (xqi Q)
  refine xw_iload_n (n := 216) (show xlook 209 215 = some (215, .iload_n 2, 1, 0, 0, 0, 0) from xlk (by decide +kernel)) rfl rfl ?_
  obtain ⟨q0, t⟩ := t
  refine xw_if_eq (n := 219) (m := 224) (show xlook 209 216 = some (216, .ifCond .eq 8, 3, 224, 0, 0, 0) from xlk (by decide +kernel)) rfl rfl q0 ⟨fun c => ?_, fun c => ?_⟩
  · replace t := t.1 c
    refine xw_iload_n (n := 225) (show xlook 209 224 = some (224, .iload_n 3, 1, 0, 0, 0, 0) from xlk (by decide +kernel)) rfl rfl ?_
    refine xw_goto (m := 240) (show xlook 209 225 = some (225, .goto 15, 3, 240, 0, 0, 0) from xlk (by decide +kernel)) rfl ?_
    exact xw_ireturn hG1 (show xlook 209 240 = some (240, .ireturn, 1, 0, 0, 0, 0) from xlk (by decide +kernel)) rfl (t hG1)
  · replace t := t.2 c
    refine xw_iload_n (n := 220) (show xlook 209 219 = some (219, .iload_n 3, 1, 0, 0, 0, 0) from xlk (by decide +kernel)) rfl rfl ?_
    refine xw_iconst (n := 221) (show xlook 209 220 = some (220, .iconst (-1), 1, 0, 0, 0, 0) from xlk (by decide +kernel)) rfl ?_
    obtain ⟨q0, t⟩ := t
    refine xw_icmp_ne (n := 224) (m := 228) (show xlook 209 221 = some (221, .if_icmp .ne 7, 3, 228, 0, 0, 0) from xlk (by decide +kernel)) rfl rfl q0 ⟨by decide, by decide⟩ ⟨fun c => ?_, fun c => ?_⟩
    · replace t := t.1 c
      refine xw_iload_n (n := 229) (show xlook 209 228 = some (228, .iload_n 2, 1, 0, 0, 0, 0) from xlk (by decide +kernel)) rfl rfl ?_
      refine xw_iconst (n := 230) (show xlook 209 229 = some (229, .iconst 1, 1, 0, 0, 0, 0) from xlk (by decide +kernel)) rfl ?_
      obtain ⟨q0, t⟩ := t
      refine xw_icmp_ne (n := 233) (m := 238) (show xlook 209 230 = some (230, .if_icmp .ne 8, 3, 238, 0, 0, 0) from xlk (by decide +kernel)) rfl rfl q0 ⟨by decide, by decide⟩ ⟨fun c => ?_, fun c => ?_⟩
      · replace t := t.1 c
        refine xw_iload (n := 240) (show xlook 209 238 = some (238, .iload 5, 2, 0, 0, 0, 0) from xlk (by decide +kernel)) rfl rfl ?_
        exact xw_ireturn hG1 (show xlook 209 240 = some (240, .ireturn, 1, 0, 0, 0, 0) from xlk (by decide +kernel)) rfl (t hG1)
      · replace t := t.2 c
        refine xw_iload (n := 235) (show xlook 209 233 = some (233, .iload 4, 2, 0, 0, 0, 0) from xlk (by decide +kernel)) rfl rfl ?_
        refine xw_goto (m := 240) (show xlook 209 235 = some (235, .goto 5, 3, 240, 0, 0, 0) from xlk (by decide +kernel)) rfl ?_
        exact xw_ireturn hG1 (show xlook 209 240 = some (240, .ireturn, 1, 0, 0, 0, 0) from xlk (by decide +kernel)) rfl (t hG1)
    · replace t := t.2 c
      refine xw_iload_n (n := 225) (show xlook 209 224 = some (224, .iload_n 3, 1, 0, 0, 0, 0) from xlk (by decide +kernel)) rfl rfl ?_
      refine xw_goto (m := 240) (show xlook 209 225 = some (225, .goto 15, 3, 240, 0, 0, 0) from xlk (by decide +kernel)) rfl ?_
      exact xw_ireturn hG1 (show xlook 209 240 = some (240, .ireturn, 1, 0, 0, 0, 0) from xlk (by decide +kernel)) rfl (t hG1)

theorem s210_0 {X : List Int32} {d : Nat} {F : XF} {Q : Int → XF → Prop} {x1 : Int} {x2 : Int} {w3 : Value} {w4 : Value} {w5 : Value} (hPT : xPT F)  (t : ∃ (j1 : Nat), j1 < d ∧ xMI X j1 154 [.ref (131)] (xup (F) (131) 0 (0)) (fun (y1 : Int) (G1 : XF) => (inR (y1) ∧ (((¬ (y1) = (0)) → ((inR (x1)) ∧ (∃ (j2 : Nat), j2 < d ∧ xMI X j2 132 [vl (x1), vl (0), vl (60)] (G1) (fun (y2 : Int) (G2 : XF) => (inR (y2) ∧ (((¬ (y2) = (0)) → ((inR (x2)) ∧ (∃ (j3 : Nat), j3 < d ∧ xMI X j3 132 [vl (x2), vl (0), vl (1)] (G2) (fun (y3 : Int) (G3 : XF) => (inR (y3) ∧ (((¬ (y3) = (0)) → (∃ (j4 : Nat), j4 < d ∧ xMV X j4 206 [.ref (131)] (G3) (fun (G4 : XF) => (xPT (G4) → xW X d 210 55 [.ref (131), vi (x1), vi (x2), vi ((-1)), vi (0), vi (0)] [] (G4) (xqi Q))))) ∧ (¬ (¬ (y3) = (0)) → (xPT (G3) → Q ((-2)) (G3))))))))) ∧ (¬ (¬ (y2) = (0)) → (xPT (G2) → Q ((-3)) (G2))))))))) ∧ (¬ (¬ (y1) = (0)) → (xPT (G1) → Q ((-5)) (G1))))))) : xW X d 210 0 [.ref (131), vi (x1), vi (x2), w3, w4, w5] [] F (xqi Q) := by
  refine xw_aload_n (n := 1) (show xlook 210 0 = some (0, .aload_n 0, 1, 0, 0, 0, 0) from xlk (by decide +kernel)) rfl rfl ?_
  refine xw_iconst (n := 2) (show xlook 210 1 = some (1, .iconst 0, 1, 0, 0, 0, 0) from xlk (by decide +kernel)) rfl ?_
  refine xw_puti (show xlook 210 2 = some (2, .putfield 1, 3, 12, 0, 0, 235) from xlk (by decide +kernel)) (xobf xob_12 (by decide) (by decide)) rfl (n := 5) rfl ?_
  refine xw_aload_n (n := 6) (show xlook 210 5 = some (5, .aload_n 0, 1, 0, 0, 0, 0) from xlk (by decide +kernel)) rfl rfl ?_
  obtain ⟨j1, hj1, rr1, G1, hm1, hG1, t⟩ := t
  obtain ⟨y1, rfl, t⟩ := t
  refine xw_callv (dk := j1) (o := 131) (as := []) (show xlook 210 6 = some (6, .invokevirtual 161, 3, 154, 1, 0, 169) from xlk (by decide +kernel)) (by decide) hj1 ⟨Nat.le_of_ble_eq_true rfl, Nat.le_of_ble_eq_true rfl, Nat.le_of_ble_eq_true rfl⟩ ⟨xob_12.1, xob_12.2, by decide⟩ rfl hm1 (n := 9) rfl ?_
  show xW X d 210 9 [.ref (131), vi (x1), vi (x2), w3, w4, w5] [vi (y1)] G1 (xqi Q)
  obtain ⟨q0, t⟩ := t
  refine xw_if_ne (n := 12) (m := 15) (show xlook 210 9 = some (9, .ifCond .ne 6, 3, 15, 0, 0, 0) from xlk (by decide +kernel)) rfl rfl q0 ⟨fun c => ?_, fun c => ?_⟩
  · replace t := t.1 c
    refine xw_iload_n (n := 16) (show xlook 210 15 = some (15, .iload_n 1, 1, 0, 0, 0, 0) from xlk (by decide +kernel)) rfl rfl ?_
    obtain ⟨q1, t⟩ := t
    refine xw_i2l (n := 17) (show xlook 210 16 = some (16, .i2l, 1, 0, 0, 0, 0) from xlk (by decide +kernel)) rfl q1 ?_
    refine xw_lconst (n := 18) (show xlook 210 17 = some (17, .lconst 0, 1, 0, 0, 0, 0) from xlk (by decide +kernel)) rfl (k := 0) (by decide) ?_
    refine xw_ldc2 (n := 21) (show xlook 210 18 = some (18, .ldc2_w 298, 3, 0, 0, 60, 14) from xlk (by decide +kernel)) rfl ?_
    obtain ⟨j2, hj2, rr2, G2, hm2, hG2, t⟩ := t
    obtain ⟨y2, rfl, t⟩ := t
    refine xw_calls (dk := j2) (as := [vl (x1), vl (0), vl (60)]) (show xlook 210 21 = some (21, .invokestatic 83, 3, 132, 3, 0, 151) from xlk (by decide +kernel)) (by decide) hj2 ⟨Nat.le_of_ble_eq_true rfl, Nat.le_of_ble_eq_true rfl, Nat.le_of_ble_eq_true rfl, by decide⟩ rfl hm2 (n := 24) rfl ?_
    show xW X d 210 24 [.ref (131), vi (x1), vi (x2), w3, w4, w5] [vi (y2)] G2 (xqi Q)
    obtain ⟨q0, t⟩ := t
    refine xw_if_ne (n := 27) (m := 30) (show xlook 210 24 = some (24, .ifCond .ne 6, 3, 30, 0, 0, 0) from xlk (by decide +kernel)) rfl rfl q0 ⟨fun c => ?_, fun c => ?_⟩
    · replace t := t.1 c
      refine xw_iload_n (n := 31) (show xlook 210 30 = some (30, .iload_n 2, 1, 0, 0, 0, 0) from xlk (by decide +kernel)) rfl rfl ?_
      obtain ⟨q1, t⟩ := t
      refine xw_i2l (n := 32) (show xlook 210 31 = some (31, .i2l, 1, 0, 0, 0, 0) from xlk (by decide +kernel)) rfl q1 ?_
      refine xw_lconst (n := 33) (show xlook 210 32 = some (32, .lconst 0, 1, 0, 0, 0, 0) from xlk (by decide +kernel)) rfl (k := 0) (by decide) ?_
      refine xw_lconst (n := 34) (show xlook 210 33 = some (33, .lconst 1, 1, 0, 0, 0, 0) from xlk (by decide +kernel)) rfl (k := 1) (by decide) ?_
      obtain ⟨j3, hj3, rr3, G3, hm3, hG3, t⟩ := t
      obtain ⟨y3, rfl, t⟩ := t
      refine xw_calls (dk := j3) (as := [vl (x2), vl (0), vl (1)]) (show xlook 210 34 = some (34, .invokestatic 83, 3, 132, 3, 0, 151) from xlk (by decide +kernel)) (by decide) hj3 ⟨Nat.le_of_ble_eq_true rfl, Nat.le_of_ble_eq_true rfl, Nat.le_of_ble_eq_true rfl, by decide⟩ rfl hm3 (n := 37) rfl ?_
      show xW X d 210 37 [.ref (131), vi (x1), vi (x2), w3, w4, w5] [vi (y3)] G3 (xqi Q)
      obtain ⟨q0, t⟩ := t
      refine xw_if_ne (n := 40) (m := 43) (show xlook 210 37 = some (37, .ifCond .ne 6, 3, 43, 0, 0, 0) from xlk (by decide +kernel)) rfl rfl q0 ⟨fun c => ?_, fun c => ?_⟩
      · replace t := t.1 c
        refine xw_aload_n (n := 44) (show xlook 210 43 = some (43, .aload_n 0, 1, 0, 0, 0, 0) from xlk (by decide +kernel)) rfl rfl ?_
        obtain ⟨j4, hj4, rr4, G4, hm4, hG4, t⟩ := t
        obtain ⟨rfl, t⟩ := t
        refine xw_callv (dk := j4) (o := 131) (as := []) (show xlook 210 44 = some (44, .invokevirtual 289, 3, 206, 1, 0, 201) from xlk (by decide +kernel)) (by decide) hj4 ⟨Nat.le_of_ble_eq_true rfl, Nat.le_of_ble_eq_true rfl, Nat.le_of_ble_eq_true rfl⟩ ⟨xob_12.1, xob_12.2, by decide⟩ rfl hm4 (n := 47) rfl ?_
        show xW X d 210 47 [.ref (131), vi (x1), vi (x2), w3, w4, w5] [] G4 (xqi Q)
        refine xw_iconst (n := 48) (show xlook 210 47 = some (47, .iconst (-1), 1, 0, 0, 0, 0) from xlk (by decide +kernel)) rfl ?_
        refine xw_istore_n (n := 49) (show xlook 210 48 = some (48, .istore_n 3, 1, 0, 0, 0, 0) from xlk (by decide +kernel)) rfl (ls' := [.ref (131), vi (x1), vi (x2), vi ((-1)), w4, w5]) (Nat.le_of_ble_eq_true rfl) rfl ?_
        refine xw_iconst (n := 50) (show xlook 210 49 = some (49, .iconst 0, 1, 0, 0, 0, 0) from xlk (by decide +kernel)) rfl ?_
        refine xw_istore (n := 52) (show xlook 210 50 = some (50, .istore 4, 2, 0, 0, 0, 0) from xlk (by decide +kernel)) rfl (ls' := [.ref (131), vi (x1), vi (x2), vi ((-1)), vi (0), w5]) (Nat.le_of_ble_eq_true rfl) rfl ?_
        refine xw_iconst (n := 53) (show xlook 210 52 = some (52, .iconst 0, 1, 0, 0, 0, 0) from xlk (by decide +kernel)) rfl ?_
        refine xw_istore (n := 55) (show xlook 210 53 = some (53, .istore 5, 2, 0, 0, 0, 0) from xlk (by decide +kernel)) rfl (ls' := [.ref (131), vi (x1), vi (x2), vi ((-1)), vi (0), vi (0)]) (Nat.le_of_ble_eq_true rfl) rfl ?_
        exact t hG4
      · replace t := t.2 c
        refine xw_bipush (n := 42) (show xlook 210 40 = some (40, .bipush (-2), 2, 0, 0, 0, 0) from xlk (by decide +kernel)) rfl (by decide) ?_
        exact xw_ireturn hG3 (show xlook 210 42 = some (42, .ireturn, 1, 0, 0, 0, 0) from xlk (by decide +kernel)) rfl (t hG3)
    · replace t := t.2 c
      refine xw_bipush (n := 29) (show xlook 210 27 = some (27, .bipush (-3), 2, 0, 0, 0, 0) from xlk (by decide +kernel)) rfl (by decide) ?_
      exact xw_ireturn hG2 (show xlook 210 29 = some (29, .ireturn, 1, 0, 0, 0, 0) from xlk (by decide +kernel)) rfl (t hG2)
  · replace t := t.2 c
    refine xw_bipush (n := 14) (show xlook 210 12 = some (12, .bipush (-5), 2, 0, 0, 0, 0) from xlk (by decide +kernel)) rfl (by decide) ?_
    exact xw_ireturn hG1 (show xlook 210 14 = some (14, .ireturn, 1, 0, 0, 0, 0) from xlk (by decide +kernel)) rfl (t hG1)
theorem m210 {X : List Int32} {d : Nat} {F : XF} {Q : Int → XF → Prop} {x1 : Int} {x2 : Int} (hPT : xPT F)  (t : ∃ (j1 : Nat), j1 < d ∧ xMI X j1 154 [.ref (131)] (xup (F) (131) 0 (0)) (fun (y1 : Int) (G1 : XF) => (inR (y1) ∧ (((¬ (y1) = (0)) → ((inR (x1)) ∧ (∃ (j2 : Nat), j2 < d ∧ xMI X j2 132 [vl (x1), vl (0), vl (60)] (G1) (fun (y2 : Int) (G2 : XF) => (inR (y2) ∧ (((¬ (y2) = (0)) → ((inR (x2)) ∧ (∃ (j3 : Nat), j3 < d ∧ xMI X j3 132 [vl (x2), vl (0), vl (1)] (G2) (fun (y3 : Int) (G3 : XF) => (inR (y3) ∧ (((¬ (y3) = (0)) → (∃ (j4 : Nat), j4 < d ∧ xMV X j4 206 [.ref (131)] (G3) (fun (G4 : XF) => (xPT (G4) → xW X d 210 55 [.ref (131), vi (x1), vi (x2), vi ((-1)), vi (0), vi (0)] [] (G4) (xqi Q))))) ∧ (¬ (¬ (y3) = (0)) → (xPT (G3) → Q ((-2)) (G3))))))))) ∧ (¬ (¬ (y2) = (0)) → (xPT (G2) → Q ((-3)) (G2))))))))) ∧ (¬ (¬ (y1) = (0)) → (xPT (G1) → Q ((-5)) (G1))))))) : xMI X d 210 [.ref (131), vi (x1), vi (x2)] F Q := by
  show xW X d 210 0 [.ref (131), vi (x1), vi (x2), xU0, xU0, xU0] [] F (xqi Q)
  exact s210_0 hPT  t

