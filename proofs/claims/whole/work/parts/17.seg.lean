set_option maxHeartbeats 4000000
set_option maxRecDepth 100000
theorem s6_0 {X : List Int32} {d : Nat} {F F' : XF} {r : Option Value} {o0 : Nat} {o1 : Nat} (hPT : xPT F) (h0 : xob 1 o0) (h1 : xob 1 o1) (t : xPT (xup (xup (xup (xup (xup (xup (xup (F) (o0) 0 ((F) (o1) 0)) (o0) 1 ((xup (F) (o0) 0 ((F) (o1) 0)) (o1) 1)) (o0) 2 ((xup (xup (F) (o0) 0 ((F) (o1) 0)) (o0) 1 ((xup (F) (o0) 0 ((F) (o1) 0)) (o1) 1)) (o1) 2)) (o0) 3 ((xup (xup (xup (F) (o0) 0 ((F) (o1) 0)) (o0) 1 ((xup (F) (o0) 0 ((F) (o1) 0)) (o1) 1)) (o0) 2 ((xup (xup (F) (o0) 0 ((F) (o1) 0)) (o0) 1 ((xup (F) (o0) 0 ((F) (o1) 0)) (o1) 1)) (o1) 2)) (o1) 3)) (o0) 4 ((xup (xup (xup (xup (F) (o0) 0 ((F) (o1) 0)) (o0) 1 ((xup (F) (o0) 0 ((F) (o1) 0)) (o1) 1)) (o0) 2 ((xup (xup (F) (o0) 0 ((F) (o1) 0)) (o0) 1 ((xup (F) (o0) 0 ((F) (o1) 0)) (o1) 1)) (o1) 2)) (o0) 3 ((xup (xup (xup (F) (o0) 0 ((F) (o1) 0)) (o0) 1 ((xup (F) (o0) 0 ((F) (o1) 0)) (o1) 1)) (o0) 2 ((xup (xup (F) (o0) 0 ((F) (o1) 0)) (o0) 1 ((xup (F) (o0) 0 ((F) (o1) 0)) (o1) 1)) (o1) 2)) (o1) 3)) (o1) 4)) (o0) 5 ((xup (xup (xup (xup (xup (F) (o0) 0 ((F) (o1) 0)) (o0) 1 ((xup (F) (o0) 0 ((F) (o1) 0)) (o1) 1)) (o0) 2 ((xup (xup (F) (o0) 0 ((F) (o1) 0)) (o0) 1 ((xup (F) (o0) 0 ((F) (o1) 0)) (o1) 1)) (o1) 2)) (o0) 3 ((xup (xup (xup (F) (o0) 0 ((F) (o1) 0)) (o0) 1 ((xup (F) (o0) 0 ((F) (o1) 0)) (o1) 1)) (o0) 2 ((xup (xup (F) (o0) 0 ((F) (o1) 0)) (o0) 1 ((xup (F) (o0) 0 ((F) (o1) 0)) (o1) 1)) (o1) 2)) (o1) 3)) (o0) 4 ((xup (xup (xup (xup (F) (o0) 0 ((F) (o1) 0)) (o0) 1 ((xup (F) (o0) 0 ((F) (o1) 0)) (o1) 1)) (o0) 2 ((xup (xup (F) (o0) 0 ((F) (o1) 0)) (o0) 1 ((xup (F) (o0) 0 ((F) (o1) 0)) (o1) 1)) (o1) 2)) (o0) 3 ((xup (xup (xup (F) (o0) 0 ((F) (o1) 0)) (o0) 1 ((xup (F) (o0) 0 ((F) (o1) 0)) (o1) 1)) (o0) 2 ((xup (xup (F) (o0) 0 ((F) (o1) 0)) (o0) 1 ((xup (F) (o0) 0 ((F) (o1) 0)) (o1) 1)) (o1) 2)) (o1) 3)) (o1) 4)) (o1) 5)) (o0) 6 ((xup (xup (xup (xup (xup (xup (F) (o0) 0 ((F) (o1) 0)) (o0) 1 ((xup (F) (o0) 0 ((F) (o1) 0)) (o1) 1)) (o0) 2 ((xup (xup (F) (o0) 0 ((F) (o1) 0)) (o0) 1 ((xup (F) (o0) 0 ((F) (o1) 0)) (o1) 1)) (o1) 2)) (o0) 3 ((xup (xup (xup (F) (o0) 0 ((F) (o1) 0)) (o0) 1 ((xup (F) (o0) 0 ((F) (o1) 0)) (o1) 1)) (o0) 2 ((xup (xup (F) (o0) 0 ((F) (o1) 0)) (o0) 1 ((xup (F) (o0) 0 ((F) (o1) 0)) (o1) 1)) (o1) 2)) (o1) 3)) (o0) 4 ((xup (xup (xup (xup (F) (o0) 0 ((F) (o1) 0)) (o0) 1 ((xup (F) (o0) 0 ((F) (o1) 0)) (o1) 1)) (o0) 2 ((xup (xup (F) (o0) 0 ((F) (o1) 0)) (o0) 1 ((xup (F) (o0) 0 ((F) (o1) 0)) (o1) 1)) (o1) 2)) (o0) 3 ((xup (xup (xup (F) (o0) 0 ((F) (o1) 0)) (o0) 1 ((xup (F) (o0) 0 ((F) (o1) 0)) (o1) 1)) (o0) 2 ((xup (xup (F) (o0) 0 ((F) (o1) 0)) (o0) 1 ((xup (F) (o0) 0 ((F) (o1) 0)) (o1) 1)) (o1) 2)) (o1) 3)) (o1) 4)) (o0) 5 ((xup (xup (xup (xup (xup (F) (o0) 0 ((F) (o1) 0)) (o0) 1 ((xup (F) (o0) 0 ((F) (o1) 0)) (o1) 1)) (o0) 2 ((xup (xup (F) (o0) 0 ((F) (o1) 0)) (o0) 1 ((xup (F) (o0) 0 ((F) (o1) 0)) (o1) 1)) (o1) 2)) (o0) 3 ((xup (xup (xup (F) (o0) 0 ((F) (o1) 0)) (o0) 1 ((xup (F) (o0) 0 ((F) (o1) 0)) (o1) 1)) (o0) 2 ((xup (xup (F) (o0) 0 ((F) (o1) 0)) (o0) 1 ((xup (F) (o0) 0 ((F) (o1) 0)) (o1) 1)) (o1) 2)) (o1) 3)) (o0) 4 ((xup (xup (xup (xup (F) (o0) 0 ((F) (o1) 0)) (o0) 1 ((xup (F) (o0) 0 ((F) (o1) 0)) (o1) 1)) (o0) 2 ((xup (xup (F) (o0) 0 ((F) (o1) 0)) (o0) 1 ((xup (F) (o0) 0 ((F) (o1) 0)) (o1) 1)) (o1) 2)) (o0) 3 ((xup (xup (xup (F) (o0) 0 ((F) (o1) 0)) (o0) 1 ((xup (F) (o0) 0 ((F) (o1) 0)) (o1) 1)) (o0) 2 ((xup (xup (F) (o0) 0 ((F) (o1) 0)) (o0) 1 ((xup (F) (o0) 0 ((F) (o1) 0)) (o1) 1)) (o1) 2)) (o1) 3)) (o1) 4)) (o1) 5)) (o1) 6)) → r = none ∧ F' = (xup (xup (xup (xup (xup (xup (xup (F) (o0) 0 ((F) (o1) 0)) (o0) 1 ((xup (F) (o0) 0 ((F) (o1) 0)) (o1) 1)) (o0) 2 ((xup (xup (F) (o0) 0 ((F) (o1) 0)) (o0) 1 ((xup (F) (o0) 0 ((F) (o1) 0)) (o1) 1)) (o1) 2)) (o0) 3 ((xup (xup (xup (F) (o0) 0 ((F) (o1) 0)) (o0) 1 ((xup (F) (o0) 0 ((F) (o1) 0)) (o1) 1)) (o0) 2 ((xup (xup (F) (o0) 0 ((F) (o1) 0)) (o0) 1 ((xup (F) (o0) 0 ((F) (o1) 0)) (o1) 1)) (o1) 2)) (o1) 3)) (o0) 4 ((xup (xup (xup (xup (F) (o0) 0 ((F) (o1) 0)) (o0) 1 ((xup (F) (o0) 0 ((F) (o1) 0)) (o1) 1)) (o0) 2 ((xup (xup (F) (o0) 0 ((F) (o1) 0)) (o0) 1 ((xup (F) (o0) 0 ((F) (o1) 0)) (o1) 1)) (o1) 2)) (o0) 3 ((xup (xup (xup (F) (o0) 0 ((F) (o1) 0)) (o0) 1 ((xup (F) (o0) 0 ((F) (o1) 0)) (o1) 1)) (o0) 2 ((xup (xup (F) (o0) 0 ((F) (o1) 0)) (o0) 1 ((xup (F) (o0) 0 ((F) (o1) 0)) (o1) 1)) (o1) 2)) (o1) 3)) (o1) 4)) (o0) 5 ((xup (xup (xup (xup (xup (F) (o0) 0 ((F) (o1) 0)) (o0) 1 ((xup (F) (o0) 0 ((F) (o1) 0)) (o1) 1)) (o0) 2 ((xup (xup (F) (o0) 0 ((F) (o1) 0)) (o0) 1 ((xup (F) (o0) 0 ((F) (o1) 0)) (o1) 1)) (o1) 2)) (o0) 3 ((xup (xup (xup (F) (o0) 0 ((F) (o1) 0)) (o0) 1 ((xup (F) (o0) 0 ((F) (o1) 0)) (o1) 1)) (o0) 2 ((xup (xup (F) (o0) 0 ((F) (o1) 0)) (o0) 1 ((xup (F) (o0) 0 ((F) (o1) 0)) (o1) 1)) (o1) 2)) (o1) 3)) (o0) 4 ((xup (xup (xup (xup (F) (o0) 0 ((F) (o1) 0)) (o0) 1 ((xup (F) (o0) 0 ((F) (o1) 0)) (o1) 1)) (o0) 2 ((xup (xup (F) (o0) 0 ((F) (o1) 0)) (o0) 1 ((xup (F) (o0) 0 ((F) (o1) 0)) (o1) 1)) (o1) 2)) (o0) 3 ((xup (xup (xup (F) (o0) 0 ((F) (o1) 0)) (o0) 1 ((xup (F) (o0) 0 ((F) (o1) 0)) (o1) 1)) (o0) 2 ((xup (xup (F) (o0) 0 ((F) (o1) 0)) (o0) 1 ((xup (F) (o0) 0 ((F) (o1) 0)) (o1) 1)) (o1) 2)) (o1) 3)) (o1) 4)) (o1) 5)) (o0) 6 ((xup (xup (xup (xup (xup (xup (F) (o0) 0 ((F) (o1) 0)) (o0) 1 ((xup (F) (o0) 0 ((F) (o1) 0)) (o1) 1)) (o0) 2 ((xup (xup (F) (o0) 0 ((F) (o1) 0)) (o0) 1 ((xup (F) (o0) 0 ((F) (o1) 0)) (o1) 1)) (o1) 2)) (o0) 3 ((xup (xup (xup (F) (o0) 0 ((F) (o1) 0)) (o0) 1 ((xup (F) (o0) 0 ((F) (o1) 0)) (o1) 1)) (o0) 2 ((xup (xup (F) (o0) 0 ((F) (o1) 0)) (o0) 1 ((xup (F) (o0) 0 ((F) (o1) 0)) (o1) 1)) (o1) 2)) (o1) 3)) (o0) 4 ((xup (xup (xup (xup (F) (o0) 0 ((F) (o1) 0)) (o0) 1 ((xup (F) (o0) 0 ((F) (o1) 0)) (o1) 1)) (o0) 2 ((xup (xup (F) (o0) 0 ((F) (o1) 0)) (o0) 1 ((xup (F) (o0) 0 ((F) (o1) 0)) (o1) 1)) (o1) 2)) (o0) 3 ((xup (xup (xup (F) (o0) 0 ((F) (o1) 0)) (o0) 1 ((xup (F) (o0) 0 ((F) (o1) 0)) (o1) 1)) (o0) 2 ((xup (xup (F) (o0) 0 ((F) (o1) 0)) (o0) 1 ((xup (F) (o0) 0 ((F) (o1) 0)) (o1) 1)) (o1) 2)) (o1) 3)) (o1) 4)) (o0) 5 ((xup (xup (xup (xup (xup (F) (o0) 0 ((F) (o1) 0)) (o0) 1 ((xup (F) (o0) 0 ((F) (o1) 0)) (o1) 1)) (o0) 2 ((xup (xup (F) (o0) 0 ((F) (o1) 0)) (o0) 1 ((xup (F) (o0) 0 ((F) (o1) 0)) (o1) 1)) (o1) 2)) (o0) 3 ((xup (xup (xup (F) (o0) 0 ((F) (o1) 0)) (o0) 1 ((xup (F) (o0) 0 ((F) (o1) 0)) (o1) 1)) (o0) 2 ((xup (xup (F) (o0) 0 ((F) (o1) 0)) (o0) 1 ((xup (F) (o0) 0 ((F) (o1) 0)) (o1) 1)) (o1) 2)) (o1) 3)) (o0) 4 ((xup (xup (xup (xup (F) (o0) 0 ((F) (o1) 0)) (o0) 1 ((xup (F) (o0) 0 ((F) (o1) 0)) (o1) 1)) (o0) 2 ((xup (xup (F) (o0) 0 ((F) (o1) 0)) (o0) 1 ((xup (F) (o0) 0 ((F) (o1) 0)) (o1) 1)) (o1) 2)) (o0) 3 ((xup (xup (xup (F) (o0) 0 ((F) (o1) 0)) (o0) 1 ((xup (F) (o0) 0 ((F) (o1) 0)) (o1) 1)) (o0) 2 ((xup (xup (F) (o0) 0 ((F) (o1) 0)) (o0) 1 ((xup (F) (o0) 0 ((F) (o1) 0)) (o1) 1)) (o1) 2)) (o1) 3)) (o1) 4)) (o1) 5)) (o1) 6))) : xE X d 6 0 [.ref (o0), .ref (o1)] [] F r F' := by
  refine xr_aload_n (n := 1) (show xlook 6 0 = some (0, .aload_n 0, 1, 0, 0, 0, 0) from xlk (by decide +kernel)) rfl rfl ?_
  refine xr_aload_n (n := 2) (show xlook 6 1 = some (1, .aload_n 1, 1, 0, 0, 0, 0) from xlk (by decide +kernel)) rfl rfl ?_
  refine xr_geti (show xlook 6 2 = some (2, .getfield 21, 3, 1, 0, 0, 11) from xlk (by decide +kernel)) (by decide) (xobf h1 (by decide) (by decide)) rfl (n := 5) rfl ?_
  refine xr_puti (show xlook 6 5 = some (5, .putfield 21, 3, 1, 0, 0, 11) from xlk (by decide +kernel)) (xobf h0 (by decide) (by decide)) rfl (n := 8) rfl ?_
  refine xr_aload_n (n := 9) (show xlook 6 8 = some (8, .aload_n 0, 1, 0, 0, 0, 0) from xlk (by decide +kernel)) rfl rfl ?_
  refine xr_aload_n (n := 10) (show xlook 6 9 = some (9, .aload_n 1, 1, 0, 0, 0, 0) from xlk (by decide +kernel)) rfl rfl ?_
  refine xr_geti (show xlook 6 10 = some (10, .getfield 24, 3, 1, 1, 0, 12) from xlk (by decide +kernel)) (by decide) (xobf h1 (by decide) (by decide)) rfl (n := 13) rfl ?_
  refine xr_puti (show xlook 6 13 = some (13, .putfield 24, 3, 1, 1, 0, 12) from xlk (by decide +kernel)) (xobf h0 (by decide) (by decide)) rfl (n := 16) rfl ?_
  refine xr_aload_n (n := 17) (show xlook 6 16 = some (16, .aload_n 0, 1, 0, 0, 0, 0) from xlk (by decide +kernel)) rfl rfl ?_
  refine xr_aload_n (n := 18) (show xlook 6 17 = some (17, .aload_n 1, 1, 0, 0, 0, 0) from xlk (by decide +kernel)) rfl rfl ?_
  refine xr_geti (show xlook 6 18 = some (18, .getfield 9, 3, 1, 2, 0, 8) from xlk (by decide +kernel)) (by decide) (xobf h1 (by decide) (by decide)) rfl (n := 21) rfl ?_
  refine xr_puti (show xlook 6 21 = some (21, .putfield 9, 3, 1, 2, 0, 8) from xlk (by decide +kernel)) (xobf h0 (by decide) (by decide)) rfl (n := 24) rfl ?_
  refine xr_aload_n (n := 25) (show xlook 6 24 = some (24, .aload_n 0, 1, 0, 0, 0, 0) from xlk (by decide +kernel)) rfl rfl ?_
  refine xr_aload_n (n := 26) (show xlook 6 25 = some (25, .aload_n 1, 1, 0, 0, 0, 0) from xlk (by decide +kernel)) rfl rfl ?_
  refine xr_geti (show xlook 6 26 = some (26, .getfield 27, 3, 1, 3, 0, 13) from xlk (by decide +kernel)) (by decide) (xobf h1 (by decide) (by decide)) rfl (n := 29) rfl ?_
  refine xr_puti (show xlook 6 29 = some (29, .putfield 27, 3, 1, 3, 0, 13) from xlk (by decide +kernel)) (xobf h0 (by decide) (by decide)) rfl (n := 32) rfl ?_
  refine xr_aload_n (n := 33) (show xlook 6 32 = some (32, .aload_n 0, 1, 0, 0, 0, 0) from xlk (by decide +kernel)) rfl rfl ?_
  refine xr_aload_n (n := 34) (show xlook 6 33 = some (33, .aload_n 1, 1, 0, 0, 0, 0) from xlk (by decide +kernel)) rfl rfl ?_
  refine xr_geti (show xlook 6 34 = some (34, .getfield 15, 3, 1, 4, 0, 9) from xlk (by decide +kernel)) (by decide) (xobf h1 (by decide) (by decide)) rfl (n := 37) rfl ?_
  refine xr_puti (show xlook 6 37 = some (37, .putfield 15, 3, 1, 4, 0, 9) from xlk (by decide +kernel)) (xobf h0 (by decide) (by decide)) rfl (n := 40) rfl ?_
  refine xr_aload_n (n := 41) (show xlook 6 40 = some (40, .aload_n 0, 1, 0, 0, 0, 0) from xlk (by decide +kernel)) rfl rfl ?_
  refine xr_aload_n (n := 42) (show xlook 6 41 = some (41, .aload_n 1, 1, 0, 0, 0, 0) from xlk (by decide +kernel)) rfl rfl ?_
  refine xr_geti (show xlook 6 42 = some (42, .getfield 30, 3, 1, 5, 0, 14) from xlk (by decide +kernel)) (by decide) (xobf h1 (by decide) (by decide)) rfl (n := 45) rfl ?_
  refine xr_puti (show xlook 6 45 = some (45, .putfield 30, 3, 1, 5, 0, 14) from xlk (by decide +kernel)) (xobf h0 (by decide) (by decide)) rfl (n := 48) rfl ?_
  refine xr_aload_n (n := 49) (show xlook 6 48 = some (48, .aload_n 0, 1, 0, 0, 0, 0) from xlk (by decide +kernel)) rfl rfl ?_
  refine xr_aload_n (n := 50) (show xlook 6 49 = some (49, .aload_n 1, 1, 0, 0, 0, 0) from xlk (by decide +kernel)) rfl rfl ?_
  refine xr_geti (show xlook 6 50 = some (50, .getfield 18, 3, 1, 6, 0, 10) from xlk (by decide +kernel)) (by decide) (xobf h1 (by decide) (by decide)) rfl (n := 53) rfl ?_
  refine xr_puti (show xlook 6 53 = some (53, .putfield 18, 3, 1, 6, 0, 10) from xlk (by decide +kernel)) (xobf h0 (by decide) (by decide)) rfl (n := 56) rfl ?_
  obtain ⟨e1, e2⟩ := t (xPT_fld (xPT_fld (xPT_fld (xPT_fld (xPT_fld (xPT_fld (xPT_fld hPT h0 (by decide) (by decide)) h0 (by decide) (by decide)) h0 (by decide) (by decide)) h0 (by decide) (by decide)) h0 (by decide) (by decide)) h0 (by decide) (by decide)) h0 (by decide) (by decide))
  subst e1
  subst e2
  exact xr_return (show xlook 6 56 = some (56, .return_, 1, 0, 0, 0, 0) from xlk (by decide +kernel)) rfl
theorem m6 {X : List Int32} {d : Nat} {F F' : XF} {r : Option Value} {o0 : Nat} {o1 : Nat} (hPT : xPT F) (h0 : xob 1 o0) (h1 : xob 1 o1) (t : xPT (xup (xup (xup (xup (xup (xup (xup (F) (o0) 0 ((F) (o1) 0)) (o0) 1 ((xup (F) (o0) 0 ((F) (o1) 0)) (o1) 1)) (o0) 2 ((xup (xup (F) (o0) 0 ((F) (o1) 0)) (o0) 1 ((xup (F) (o0) 0 ((F) (o1) 0)) (o1) 1)) (o1) 2)) (o0) 3 ((xup (xup (xup (F) (o0) 0 ((F) (o1) 0)) (o0) 1 ((xup (F) (o0) 0 ((F) (o1) 0)) (o1) 1)) (o0) 2 ((xup (xup (F) (o0) 0 ((F) (o1) 0)) (o0) 1 ((xup (F) (o0) 0 ((F) (o1) 0)) (o1) 1)) (o1) 2)) (o1) 3)) (o0) 4 ((xup (xup (xup (xup (F) (o0) 0 ((F) (o1) 0)) (o0) 1 ((xup (F) (o0) 0 ((F) (o1) 0)) (o1) 1)) (o0) 2 ((xup (xup (F) (o0) 0 ((F) (o1) 0)) (o0) 1 ((xup (F) (o0) 0 ((F) (o1) 0)) (o1) 1)) (o1) 2)) (o0) 3 ((xup (xup (xup (F) (o0) 0 ((F) (o1) 0)) (o0) 1 ((xup (F) (o0) 0 ((F) (o1) 0)) (o1) 1)) (o0) 2 ((xup (xup (F) (o0) 0 ((F) (o1) 0)) (o0) 1 ((xup (F) (o0) 0 ((F) (o1) 0)) (o1) 1)) (o1) 2)) (o1) 3)) (o1) 4)) (o0) 5 ((xup (xup (xup (xup (xup (F) (o0) 0 ((F) (o1) 0)) (o0) 1 ((xup (F) (o0) 0 ((F) (o1) 0)) (o1) 1)) (o0) 2 ((xup (xup (F) (o0) 0 ((F) (o1) 0)) (o0) 1 ((xup (F) (o0) 0 ((F) (o1) 0)) (o1) 1)) (o1) 2)) (o0) 3 ((xup (xup (xup (F) (o0) 0 ((F) (o1) 0)) (o0) 1 ((xup (F) (o0) 0 ((F) (o1) 0)) (o1) 1)) (o0) 2 ((xup (xup (F) (o0) 0 ((F) (o1) 0)) (o0) 1 ((xup (F) (o0) 0 ((F) (o1) 0)) (o1) 1)) (o1) 2)) (o1) 3)) (o0) 4 ((xup (xup (xup (xup (F) (o0) 0 ((F) (o1) 0)) (o0) 1 ((xup (F) (o0) 0 ((F) (o1) 0)) (o1) 1)) (o0) 2 ((xup (xup (F) (o0) 0 ((F) (o1) 0)) (o0) 1 ((xup (F) (o0) 0 ((F) (o1) 0)) (o1) 1)) (o1) 2)) (o0) 3 ((xup (xup (xup (F) (o0) 0 ((F) (o1) 0)) (o0) 1 ((xup (F) (o0) 0 ((F) (o1) 0)) (o1) 1)) (o0) 2 ((xup (xup (F) (o0) 0 ((F) (o1) 0)) (o0) 1 ((xup (F) (o0) 0 ((F) (o1) 0)) (o1) 1)) (o1) 2)) (o1) 3)) (o1) 4)) (o1) 5)) (o0) 6 ((xup (xup (xup (xup (xup (xup (F) (o0) 0 ((F) (o1) 0)) (o0) 1 ((xup (F) (o0) 0 ((F) (o1) 0)) (o1) 1)) (o0) 2 ((xup (xup (F) (o0) 0 ((F) (o1) 0)) (o0) 1 ((xup (F) (o0) 0 ((F) (o1) 0)) (o1) 1)) (o1) 2)) (o0) 3 ((xup (xup (xup (F) (o0) 0 ((F) (o1) 0)) (o0) 1 ((xup (F) (o0) 0 ((F) (o1) 0)) (o1) 1)) (o0) 2 ((xup (xup (F) (o0) 0 ((F) (o1) 0)) (o0) 1 ((xup (F) (o0) 0 ((F) (o1) 0)) (o1) 1)) (o1) 2)) (o1) 3)) (o0) 4 ((xup (xup (xup (xup (F) (o0) 0 ((F) (o1) 0)) (o0) 1 ((xup (F) (o0) 0 ((F) (o1) 0)) (o1) 1)) (o0) 2 ((xup (xup (F) (o0) 0 ((F) (o1) 0)) (o0) 1 ((xup (F) (o0) 0 ((F) (o1) 0)) (o1) 1)) (o1) 2)) (o0) 3 ((xup (xup (xup (F) (o0) 0 ((F) (o1) 0)) (o0) 1 ((xup (F) (o0) 0 ((F) (o1) 0)) (o1) 1)) (o0) 2 ((xup (xup (F) (o0) 0 ((F) (o1) 0)) (o0) 1 ((xup (F) (o0) 0 ((F) (o1) 0)) (o1) 1)) (o1) 2)) (o1) 3)) (o1) 4)) (o0) 5 ((xup (xup (xup (xup (xup (F) (o0) 0 ((F) (o1) 0)) (o0) 1 ((xup (F) (o0) 0 ((F) (o1) 0)) (o1) 1)) (o0) 2 ((xup (xup (F) (o0) 0 ((F) (o1) 0)) (o0) 1 ((xup (F) (o0) 0 ((F) (o1) 0)) (o1) 1)) (o1) 2)) (o0) 3 ((xup (xup (xup (F) (o0) 0 ((F) (o1) 0)) (o0) 1 ((xup (F) (o0) 0 ((F) (o1) 0)) (o1) 1)) (o0) 2 ((xup (xup (F) (o0) 0 ((F) (o1) 0)) (o0) 1 ((xup (F) (o0) 0 ((F) (o1) 0)) (o1) 1)) (o1) 2)) (o1) 3)) (o0) 4 ((xup (xup (xup (xup (F) (o0) 0 ((F) (o1) 0)) (o0) 1 ((xup (F) (o0) 0 ((F) (o1) 0)) (o1) 1)) (o0) 2 ((xup (xup (F) (o0) 0 ((F) (o1) 0)) (o0) 1 ((xup (F) (o0) 0 ((F) (o1) 0)) (o1) 1)) (o1) 2)) (o0) 3 ((xup (xup (xup (F) (o0) 0 ((F) (o1) 0)) (o0) 1 ((xup (F) (o0) 0 ((F) (o1) 0)) (o1) 1)) (o0) 2 ((xup (xup (F) (o0) 0 ((F) (o1) 0)) (o0) 1 ((xup (F) (o0) 0 ((F) (o1) 0)) (o1) 1)) (o1) 2)) (o1) 3)) (o1) 4)) (o1) 5)) (o1) 6)) → r = none ∧ F' = (xup (xup (xup (xup (xup (xup (xup (F) (o0) 0 ((F) (o1) 0)) (o0) 1 ((xup (F) (o0) 0 ((F) (o1) 0)) (o1) 1)) (o0) 2 ((xup (xup (F) (o0) 0 ((F) (o1) 0)) (o0) 1 ((xup (F) (o0) 0 ((F) (o1) 0)) (o1) 1)) (o1) 2)) (o0) 3 ((xup (xup (xup (F) (o0) 0 ((F) (o1) 0)) (o0) 1 ((xup (F) (o0) 0 ((F) (o1) 0)) (o1) 1)) (o0) 2 ((xup (xup (F) (o0) 0 ((F) (o1) 0)) (o0) 1 ((xup (F) (o0) 0 ((F) (o1) 0)) (o1) 1)) (o1) 2)) (o1) 3)) (o0) 4 ((xup (xup (xup (xup (F) (o0) 0 ((F) (o1) 0)) (o0) 1 ((xup (F) (o0) 0 ((F) (o1) 0)) (o1) 1)) (o0) 2 ((xup (xup (F) (o0) 0 ((F) (o1) 0)) (o0) 1 ((xup (F) (o0) 0 ((F) (o1) 0)) (o1) 1)) (o1) 2)) (o0) 3 ((xup (xup (xup (F) (o0) 0 ((F) (o1) 0)) (o0) 1 ((xup (F) (o0) 0 ((F) (o1) 0)) (o1) 1)) (o0) 2 ((xup (xup (F) (o0) 0 ((F) (o1) 0)) (o0) 1 ((xup (F) (o0) 0 ((F) (o1) 0)) (o1) 1)) (o1) 2)) (o1) 3)) (o1) 4)) (o0) 5 ((xup (xup (xup (xup (xup (F) (o0) 0 ((F) (o1) 0)) (o0) 1 ((xup (F) (o0) 0 ((F) (o1) 0)) (o1) 1)) (o0) 2 ((xup (xup (F) (o0) 0 ((F) (o1) 0)) (o0) 1 ((xup (F) (o0) 0 ((F) (o1) 0)) (o1) 1)) (o1) 2)) (o0) 3 ((xup (xup (xup (F) (o0) 0 ((F) (o1) 0)) (o0) 1 ((xup (F) (o0) 0 ((F) (o1) 0)) (o1) 1)) (o0) 2 ((xup (xup (F) (o0) 0 ((F) (o1) 0)) (o0) 1 ((xup (F) (o0) 0 ((F) (o1) 0)) (o1) 1)) (o1) 2)) (o1) 3)) (o0) 4 ((xup (xup (xup (xup (F) (o0) 0 ((F) (o1) 0)) (o0) 1 ((xup (F) (o0) 0 ((F) (o1) 0)) (o1) 1)) (o0) 2 ((xup (xup (F) (o0) 0 ((F) (o1) 0)) (o0) 1 ((xup (F) (o0) 0 ((F) (o1) 0)) (o1) 1)) (o1) 2)) (o0) 3 ((xup (xup (xup (F) (o0) 0 ((F) (o1) 0)) (o0) 1 ((xup (F) (o0) 0 ((F) (o1) 0)) (o1) 1)) (o0) 2 ((xup (xup (F) (o0) 0 ((F) (o1) 0)) (o0) 1 ((xup (F) (o0) 0 ((F) (o1) 0)) (o1) 1)) (o1) 2)) (o1) 3)) (o1) 4)) (o1) 5)) (o0) 6 ((xup (xup (xup (xup (xup (xup (F) (o0) 0 ((F) (o1) 0)) (o0) 1 ((xup (F) (o0) 0 ((F) (o1) 0)) (o1) 1)) (o0) 2 ((xup (xup (F) (o0) 0 ((F) (o1) 0)) (o0) 1 ((xup (F) (o0) 0 ((F) (o1) 0)) (o1) 1)) (o1) 2)) (o0) 3 ((xup (xup (xup (F) (o0) 0 ((F) (o1) 0)) (o0) 1 ((xup (F) (o0) 0 ((F) (o1) 0)) (o1) 1)) (o0) 2 ((xup (xup (F) (o0) 0 ((F) (o1) 0)) (o0) 1 ((xup (F) (o0) 0 ((F) (o1) 0)) (o1) 1)) (o1) 2)) (o1) 3)) (o0) 4 ((xup (xup (xup (xup (F) (o0) 0 ((F) (o1) 0)) (o0) 1 ((xup (F) (o0) 0 ((F) (o1) 0)) (o1) 1)) (o0) 2 ((xup (xup (F) (o0) 0 ((F) (o1) 0)) (o0) 1 ((xup (F) (o0) 0 ((F) (o1) 0)) (o1) 1)) (o1) 2)) (o0) 3 ((xup (xup (xup (F) (o0) 0 ((F) (o1) 0)) (o0) 1 ((xup (F) (o0) 0 ((F) (o1) 0)) (o1) 1)) (o0) 2 ((xup (xup (F) (o0) 0 ((F) (o1) 0)) (o0) 1 ((xup (F) (o0) 0 ((F) (o1) 0)) (o1) 1)) (o1) 2)) (o1) 3)) (o1) 4)) (o0) 5 ((xup (xup (xup (xup (xup (F) (o0) 0 ((F) (o1) 0)) (o0) 1 ((xup (F) (o0) 0 ((F) (o1) 0)) (o1) 1)) (o0) 2 ((xup (xup (F) (o0) 0 ((F) (o1) 0)) (o0) 1 ((xup (F) (o0) 0 ((F) (o1) 0)) (o1) 1)) (o1) 2)) (o0) 3 ((xup (xup (xup (F) (o0) 0 ((F) (o1) 0)) (o0) 1 ((xup (F) (o0) 0 ((F) (o1) 0)) (o1) 1)) (o0) 2 ((xup (xup (F) (o0) 0 ((F) (o1) 0)) (o0) 1 ((xup (F) (o0) 0 ((F) (o1) 0)) (o1) 1)) (o1) 2)) (o1) 3)) (o0) 4 ((xup (xup (xup (xup (F) (o0) 0 ((F) (o1) 0)) (o0) 1 ((xup (F) (o0) 0 ((F) (o1) 0)) (o1) 1)) (o0) 2 ((xup (xup (F) (o0) 0 ((F) (o1) 0)) (o0) 1 ((xup (F) (o0) 0 ((F) (o1) 0)) (o1) 1)) (o1) 2)) (o0) 3 ((xup (xup (xup (F) (o0) 0 ((F) (o1) 0)) (o0) 1 ((xup (F) (o0) 0 ((F) (o1) 0)) (o1) 1)) (o0) 2 ((xup (xup (F) (o0) 0 ((F) (o1) 0)) (o0) 1 ((xup (F) (o0) 0 ((F) (o1) 0)) (o1) 1)) (o1) 2)) (o1) 3)) (o1) 4)) (o1) 5)) (o1) 6))) : xM X d 6 [.ref (o0), .ref (o1)] F r F' := by
  show xE X d 6 0 [.ref (o0), .ref (o1)] [] F r F'
  exact s6_0 hPT h0 h1 t

theorem s7_0 {X : List Int32} {d : Nat} {F F' : XF} {r : Option Value} {o0 : Nat} (hPT : xPT F) (h0 : xob 1 o0) (t : inR ((F) (o0) 3) ∧ (((¬ ((F) (o0) 3) = (0)) → (xPT (F) → r = some (vi (0)) ∧ F' = (F))) ∧ (¬ (¬ ((F) (o0) 3) = (0)) → (inR ((F) (o0) 4) ∧ inR ((F) (o0) 2) ∧ (((¬ ((F) (o0) 4) = ((F) (o0) 2)) → (xPT (F) → r = some (vi (0)) ∧ F' = (F))) ∧ (¬ (¬ ((F) (o0) 4) = ((F) (o0) 2)) → (xPT (F) → r = some (vi (1)) ∧ F' = (F)))))))) : xE X d 7 0 [.ref (o0)] [] F r F' := by
  refine xr_aload_n (n := 1) (show xlook 7 0 = some (0, .aload_n 0, 1, 0, 0, 0, 0) from xlk (by decide +kernel)) rfl rfl ?_
  refine xr_geti (show xlook 7 1 = some (1, .getfield 27, 3, 1, 3, 0, 13) from xlk (by decide +kernel)) (by decide) (xobf h0 (by decide) (by decide)) rfl (n := 4) rfl ?_
  obtain ⟨q0, t⟩ := t
  refine xr_if_ne (n := 7) (m := 22) (show xlook 7 4 = some (4, .ifCond .ne 18, 3, 22, 0, 0, 0) from xlk (by decide +kernel)) rfl rfl q0 ⟨fun c => ?_, fun c => ?_⟩
  · replace t := t.1 c
    refine xr_iconst (n := 23) (show xlook 7 22 = some (22, .iconst 0, 1, 0, 0, 0, 0) from xlk (by decide +kernel)) rfl ?_
    obtain ⟨e1, e2⟩ := t hPT
    subst e1
    subst e2
    exact xr_zreturn (show xlook 7 23 = some (23, .ireturn, 1, 0, 0, 0, 0) from xlk (by decide +kernel)) rfl (by decide)
  · replace t := t.2 c
    refine xr_aload_n (n := 8) (show xlook 7 7 = some (7, .aload_n 0, 1, 0, 0, 0, 0) from xlk (by decide +kernel)) rfl rfl ?_
    refine xr_geti (show xlook 7 8 = some (8, .getfield 15, 3, 1, 4, 0, 9) from xlk (by decide +kernel)) (by decide) (xobf h0 (by decide) (by decide)) rfl (n := 11) rfl ?_
    refine xr_aload_n (n := 12) (show xlook 7 11 = some (11, .aload_n 0, 1, 0, 0, 0, 0) from xlk (by decide +kernel)) rfl rfl ?_
    refine xr_geti (show xlook 7 12 = some (12, .getfield 9, 3, 1, 2, 0, 8) from xlk (by decide +kernel)) (by decide) (xobf h0 (by decide) (by decide)) rfl (n := 15) rfl ?_
    obtain ⟨q0, q1, t⟩ := t
    refine xr_icmp_ne (n := 18) (m := 22) (show xlook 7 15 = some (15, .if_icmp .ne 7, 3, 22, 0, 0, 0) from xlk (by decide +kernel)) rfl rfl q0 q1 ⟨fun c => ?_, fun c => ?_⟩
    · replace t := t.1 c
      refine xr_iconst (n := 23) (show xlook 7 22 = some (22, .iconst 0, 1, 0, 0, 0, 0) from xlk (by decide +kernel)) rfl ?_
      obtain ⟨e1, e2⟩ := t hPT
      subst e1
      subst e2
      exact xr_zreturn (show xlook 7 23 = some (23, .ireturn, 1, 0, 0, 0, 0) from xlk (by decide +kernel)) rfl (by decide)
    · replace t := t.2 c
      refine xr_iconst (n := 19) (show xlook 7 18 = some (18, .iconst 1, 1, 0, 0, 0, 0) from xlk (by decide +kernel)) rfl ?_
      refine xr_goto (m := 23) (show xlook 7 19 = some (19, .goto 4, 3, 23, 0, 0, 0) from xlk (by decide +kernel)) rfl ?_
      obtain ⟨e1, e2⟩ := t hPT
      subst e1
      subst e2
      exact xr_zreturn (show xlook 7 23 = some (23, .ireturn, 1, 0, 0, 0, 0) from xlk (by decide +kernel)) rfl (by decide)
theorem m7 {X : List Int32} {d : Nat} {F F' : XF} {r : Option Value} {o0 : Nat} (hPT : xPT F) (h0 : xob 1 o0) (t : inR ((F) (o0) 3) ∧ (((¬ ((F) (o0) 3) = (0)) → (xPT (F) → r = some (vi (0)) ∧ F' = (F))) ∧ (¬ (¬ ((F) (o0) 3) = (0)) → (inR ((F) (o0) 4) ∧ inR ((F) (o0) 2) ∧ (((¬ ((F) (o0) 4) = ((F) (o0) 2)) → (xPT (F) → r = some (vi (0)) ∧ F' = (F))) ∧ (¬ (¬ ((F) (o0) 4) = ((F) (o0) 2)) → (xPT (F) → r = some (vi (1)) ∧ F' = (F)))))))) : xM X d 7 [.ref (o0)] F r F' := by
  show xE X d 7 0 [.ref (o0)] [] F r F'
  exact s7_0 hPT h0 t

theorem s8_0 {X : List Int32} {d : Nat} {F F' : XF} {r : Option Value} {o0 : Nat} {x1 : Int} (hPT : xPT F) (h0 : xob 1 o0) (t : inR ((F) (o0) 2) ∧ (((((F) (o0) 2) ≤ (0)) → (xPT (F) → r = some (vi (0)) ∧ F' = (F))) ∧ (¬ (((F) (o0) 2) ≤ (0)) → ((0 ≤ (x1) ∧ (x1) ≤ 2147483647) ∧ (0 < ((F) (o0) 2) ∧ ((F) (o0) 2) ≤ 2147483647) ∧ (xPT (F) → r = some (vi ((x1) % ((F) (o0) 2))) ∧ F' = (F)))))) : xE X d 8 0 [.ref (o0), vi (x1)] [] F r F' := by
  refine xr_aload_n (n := 1) (show xlook 8 0 = some (0, .aload_n 0, 1, 0, 0, 0, 0) from xlk (by decide +kernel)) rfl rfl ?_
  refine xr_geti (show xlook 8 1 = some (1, .getfield 9, 3, 1, 2, 0, 8) from xlk (by decide +kernel)) (by decide) (xobf h0 (by decide) (by decide)) rfl (n := 4) rfl ?_
  obtain ⟨q0, t⟩ := t
  refine xr_if_le (n := 7) (m := 16) (show xlook 8 4 = some (4, .ifCond .le 12, 3, 16, 0, 0, 0) from xlk (by decide +kernel)) rfl rfl q0 ⟨fun c => ?_, fun c => ?_⟩
  · replace t := t.1 c
    refine xr_iconst (n := 17) (show xlook 8 16 = some (16, .iconst 0, 1, 0, 0, 0, 0) from xlk (by decide +kernel)) rfl ?_
    obtain ⟨e1, e2⟩ := t hPT
    subst e1
    subst e2
    exact xr_ireturn (show xlook 8 17 = some (17, .ireturn, 1, 0, 0, 0, 0) from xlk (by decide +kernel)) rfl
  · replace t := t.2 c
    refine xr_iload_n (n := 8) (show xlook 8 7 = some (7, .iload_n 1, 1, 0, 0, 0, 0) from xlk (by decide +kernel)) rfl rfl ?_
    refine xr_aload_n (n := 9) (show xlook 8 8 = some (8, .aload_n 0, 1, 0, 0, 0, 0) from xlk (by decide +kernel)) rfl rfl ?_
    refine xr_geti (show xlook 8 9 = some (9, .getfield 9, 3, 1, 2, 0, 8) from xlk (by decide +kernel)) (by decide) (xobf h0 (by decide) (by decide)) rfl (n := 12) rfl ?_
    obtain ⟨q1, q2, t⟩ := t
    refine xr_irem (n := 13) (show xlook 8 12 = some (12, .irem, 1, 0, 0, 0, 0) from xlk (by decide +kernel)) rfl q1 q2 ?_
    refine xr_goto (m := 17) (show xlook 8 13 = some (13, .goto 4, 3, 17, 0, 0, 0) from xlk (by decide +kernel)) rfl ?_
    obtain ⟨e1, e2⟩ := t hPT
    subst e1
    subst e2
    exact xr_ireturn (show xlook 8 17 = some (17, .ireturn, 1, 0, 0, 0, 0) from xlk (by decide +kernel)) rfl
theorem m8 {X : List Int32} {d : Nat} {F F' : XF} {r : Option Value} {o0 : Nat} {x1 : Int} (hPT : xPT F) (h0 : xob 1 o0) (t : inR ((F) (o0) 2) ∧ (((((F) (o0) 2) ≤ (0)) → (xPT (F) → r = some (vi (0)) ∧ F' = (F))) ∧ (¬ (((F) (o0) 2) ≤ (0)) → ((0 ≤ (x1) ∧ (x1) ≤ 2147483647) ∧ (0 < ((F) (o0) 2) ∧ ((F) (o0) 2) ≤ 2147483647) ∧ (xPT (F) → r = some (vi ((x1) % ((F) (o0) 2))) ∧ F' = (F)))))) : xM X d 8 [.ref (o0), vi (x1)] F r F' := by
  show xE X d 8 0 [.ref (o0), vi (x1)] [] F r F'
  exact s8_0 hPT h0 t

theorem s9_0 {X : List Int32} {d : Nat} {F F' : XF} {r : Option Value} {o0 : Nat} {x1 : Int} {w2 : Value} (hPT : xPT F) (h0 : xob 1 o0) (t : ∃ (j1 : Nat) (y1 : Int) (G1 : XF), j1 < d ∧ xM X j1 8 [.ref (o0), vi (x1)] (F) (some (vi y1)) G1 ∧ xPT G1 ∧ (inR (y1) ∧ inR ((G1) (o0) 3) ∧ ((((y1) < ((G1) (o0) 3)) → (xPT (G1) → r = some (vi (0)) ∧ F' = (G1))) ∧ (¬ ((y1) < ((G1) (o0) 3)) → (inR (y1) ∧ inR ((G1) (o0) 4) ∧ (((((G1) (o0) 4) ≤ (y1)) → (xPT (G1) → r = some (vi (0)) ∧ F' = (G1))) ∧ (¬ (((G1) (o0) 4) ≤ (y1)) → (xPT (G1) → r = some (vi (1)) ∧ F' = (G1))))))))) : xE X d 9 0 [.ref (o0), vi (x1), w2] [] F r F' := by
  refine xr_aload_n (n := 1) (show xlook 9 0 = some (0, .aload_n 0, 1, 0, 0, 0, 0) from xlk (by decide +kernel)) rfl rfl ?_
  refine xr_iload_n (n := 2) (show xlook 9 1 = some (1, .iload_n 1, 1, 0, 0, 0, 0) from xlk (by decide +kernel)) rfl rfl ?_
  obtain ⟨j1, y1, G1, hj1, hm1, hG1, t⟩ := t
  refine xr_callv (dk := j1) (o := o0) (as := [vi (x1)]) (show xlook 9 2 = some (2, .invokevirtual 33, 3, 8, 2, 0, 5) from xlk (by decide +kernel)) (by decide) hj1 ⟨Nat.le_of_ble_eq_true rfl, Nat.le_of_ble_eq_true rfl, Nat.le_of_ble_eq_true rfl⟩ ⟨h0.1, h0.2, by decide⟩ rfl hm1 (n := 5) rfl ?_
  show xE X d 9 5 [.ref (o0), vi (x1), w2] [vi (y1)] G1 r F'
  refine xr_istore_n (n := 6) (show xlook 9 5 = some (5, .istore_n 2, 1, 0, 0, 0, 0) from xlk (by decide +kernel)) rfl (ls' := [.ref (o0), vi (x1), vi (y1)]) (Nat.le_of_ble_eq_true rfl) rfl ?_
  refine xr_iload_n (n := 7) (show xlook 9 6 = some (6, .iload_n 2, 1, 0, 0, 0, 0) from xlk (by decide +kernel)) rfl rfl ?_
  refine xr_aload_n (n := 8) (show xlook 9 7 = some (7, .aload_n 0, 1, 0, 0, 0, 0) from xlk (by decide +kernel)) rfl rfl ?_
  refine xr_geti (show xlook 9 8 = some (8, .getfield 27, 3, 1, 3, 0, 13) from xlk (by decide +kernel)) (by decide) (xobf h0 (by decide) (by decide)) rfl (n := 11) rfl ?_
  obtain ⟨q0, q1, t⟩ := t
  refine xr_icmp_lt (n := 14) (m := 26) (show xlook 9 11 = some (11, .if_icmp .lt 15, 3, 26, 0, 0, 0) from xlk (by decide +kernel)) rfl rfl q0 q1 ⟨fun c => ?_, fun c => ?_⟩
  · replace t := t.1 c
    refine xr_iconst (n := 27) (show xlook 9 26 = some (26, .iconst 0, 1, 0, 0, 0, 0) from xlk (by decide +kernel)) rfl ?_
    obtain ⟨e1, e2⟩ := t hG1
    subst e1
    subst e2
    exact xr_zreturn (show xlook 9 27 = some (27, .ireturn, 1, 0, 0, 0, 0) from xlk (by decide +kernel)) rfl (by decide)
  · replace t := t.2 c
    refine xr_iload_n (n := 15) (show xlook 9 14 = some (14, .iload_n 2, 1, 0, 0, 0, 0) from xlk (by decide +kernel)) rfl rfl ?_
    refine xr_aload_n (n := 16) (show xlook 9 15 = some (15, .aload_n 0, 1, 0, 0, 0, 0) from xlk (by decide +kernel)) rfl rfl ?_
    refine xr_geti (show xlook 9 16 = some (16, .getfield 15, 3, 1, 4, 0, 9) from xlk (by decide +kernel)) (by decide) (xobf h0 (by decide) (by decide)) rfl (n := 19) rfl ?_
    obtain ⟨q0, q1, t⟩ := t
    refine xr_icmp_ge (n := 22) (m := 26) (show xlook 9 19 = some (19, .if_icmp .ge 7, 3, 26, 0, 0, 0) from xlk (by decide +kernel)) rfl rfl q0 q1 ⟨fun c => ?_, fun c => ?_⟩
    · replace t := t.1 c
      refine xr_iconst (n := 27) (show xlook 9 26 = some (26, .iconst 0, 1, 0, 0, 0, 0) from xlk (by decide +kernel)) rfl ?_
      obtain ⟨e1, e2⟩ := t hG1
      subst e1
      subst e2
      exact xr_zreturn (show xlook 9 27 = some (27, .ireturn, 1, 0, 0, 0, 0) from xlk (by decide +kernel)) rfl (by decide)
    · replace t := t.2 c
      refine xr_iconst (n := 23) (show xlook 9 22 = some (22, .iconst 1, 1, 0, 0, 0, 0) from xlk (by decide +kernel)) rfl ?_
      refine xr_goto (m := 27) (show xlook 9 23 = some (23, .goto 4, 3, 27, 0, 0, 0) from xlk (by decide +kernel)) rfl ?_
      obtain ⟨e1, e2⟩ := t hG1
      subst e1
      subst e2
      exact xr_zreturn (show xlook 9 27 = some (27, .ireturn, 1, 0, 0, 0, 0) from xlk (by decide +kernel)) rfl (by decide)
theorem m9 {X : List Int32} {d : Nat} {F F' : XF} {r : Option Value} {o0 : Nat} {x1 : Int} (hPT : xPT F) (h0 : xob 1 o0) (t : ∃ (j1 : Nat) (y1 : Int) (G1 : XF), j1 < d ∧ xM X j1 8 [.ref (o0), vi (x1)] (F) (some (vi y1)) G1 ∧ xPT G1 ∧ (inR (y1) ∧ inR ((G1) (o0) 3) ∧ ((((y1) < ((G1) (o0) 3)) → (xPT (G1) → r = some (vi (0)) ∧ F' = (G1))) ∧ (¬ ((y1) < ((G1) (o0) 3)) → (inR (y1) ∧ inR ((G1) (o0) 4) ∧ (((((G1) (o0) 4) ≤ (y1)) → (xPT (G1) → r = some (vi (0)) ∧ F' = (G1))) ∧ (¬ (((G1) (o0) 4) ≤ (y1)) → (xPT (G1) → r = some (vi (1)) ∧ F' = (G1))))))))) : xM X d 9 [.ref (o0), vi (x1)] F r F' := by
  show xE X d 9 0 [.ref (o0), vi (x1), xU0] [] F r F'
  exact s9_0 hPT h0 t

theorem s10_0 {X : List Int32} {d : Nat} {F F' : XF} {r : Option Value} {o0 : Nat} {x1 : Int} (hPT : xPT F) (h0 : xob 1 o0) (t : ∃ (j1 : Nat) (y1 : Int) (G1 : XF), j1 < d ∧ xM X j1 7 [.ref (o0)] (F) (some (vi y1)) G1 ∧ xPT G1 ∧ (inR (y1) ∧ (((¬ (y1) = (0)) → (xPT (G1) → r = some (vi (1)) ∧ F' = (G1))) ∧ (¬ (¬ (y1) = (0)) → (inR (x1) ∧ inR (((G1) (o0) 4) - ((G1) (o0) 3)) ∧ ((((((G1) (o0) 4) - ((G1) (o0) 3)) < (x1)) → (xPT (G1) → r = some (vi (0)) ∧ F' = (G1))) ∧ (¬ ((((G1) (o0) 4) - ((G1) (o0) 3)) < (x1)) → (xPT (G1) → r = some (vi (1)) ∧ F' = (G1))))))))) : xE X d 10 0 [.ref (o0), vi (x1)] [] F r F' := by
  refine xr_aload_n (n := 1) (show xlook 10 0 = some (0, .aload_n 0, 1, 0, 0, 0, 0) from xlk (by decide +kernel)) rfl rfl ?_
  obtain ⟨j1, y1, G1, hj1, hm1, hG1, t⟩ := t
  refine xr_callv (dk := j1) (o := o0) (as := []) (show xlook 10 1 = some (1, .invokevirtual 37, 3, 7, 1, 0, 6) from xlk (by decide +kernel)) (by decide) hj1 ⟨Nat.le_of_ble_eq_true rfl, Nat.le_of_ble_eq_true rfl, Nat.le_of_ble_eq_true rfl⟩ ⟨h0.1, h0.2, by decide⟩ rfl hm1 (n := 4) rfl ?_
  show xE X d 10 4 [.ref (o0), vi (x1)] [vi (y1)] G1 r F'
  obtain ⟨q0, t⟩ := t
  refine xr_if_ne (n := 7) (m := 20) (show xlook 10 4 = some (4, .ifCond .ne 16, 3, 20, 0, 0, 0) from xlk (by decide +kernel)) rfl rfl q0 ⟨fun c => ?_, fun c => ?_⟩
  · replace t := t.1 c
    refine xr_iconst (n := 21) (show xlook 10 20 = some (20, .iconst 1, 1, 0, 0, 0, 0) from xlk (by decide +kernel)) rfl ?_
    refine xr_goto (m := 25) (show xlook 10 21 = some (21, .goto 4, 3, 25, 0, 0, 0) from xlk (by decide +kernel)) rfl ?_
    obtain ⟨e1, e2⟩ := t hG1
    subst e1
    subst e2
    exact xr_zreturn (show xlook 10 25 = some (25, .ireturn, 1, 0, 0, 0, 0) from xlk (by decide +kernel)) rfl (by decide)
  · replace t := t.2 c
    refine xr_iload_n (n := 8) (show xlook 10 7 = some (7, .iload_n 1, 1, 0, 0, 0, 0) from xlk (by decide +kernel)) rfl rfl ?_
    refine xr_aload_n (n := 9) (show xlook 10 8 = some (8, .aload_n 0, 1, 0, 0, 0, 0) from xlk (by decide +kernel)) rfl rfl ?_
    refine xr_geti (show xlook 10 9 = some (9, .getfield 15, 3, 1, 4, 0, 9) from xlk (by decide +kernel)) (by decide) (xobf h0 (by decide) (by decide)) rfl (n := 12) rfl ?_
    refine xr_aload_n (n := 13) (show xlook 10 12 = some (12, .aload_n 0, 1, 0, 0, 0, 0) from xlk (by decide +kernel)) rfl rfl ?_
    refine xr_geti (show xlook 10 13 = some (13, .getfield 27, 3, 1, 3, 0, 13) from xlk (by decide +kernel)) (by decide) (xobf h0 (by decide) (by decide)) rfl (n := 16) rfl ?_
    refine xr_isub (n := 17) (show xlook 10 16 = some (16, .isub, 1, 0, 0, 0, 0) from xlk (by decide +kernel)) rfl ?_
    obtain ⟨q0, q1, t⟩ := t
    refine xr_icmp_gt (n := 20) (m := 24) (show xlook 10 17 = some (17, .if_icmp .gt 7, 3, 24, 0, 0, 0) from xlk (by decide +kernel)) rfl rfl q0 q1 ⟨fun c => ?_, fun c => ?_⟩
    · replace t := t.1 c
      refine xr_iconst (n := 25) (show xlook 10 24 = some (24, .iconst 0, 1, 0, 0, 0, 0) from xlk (by decide +kernel)) rfl ?_
      obtain ⟨e1, e2⟩ := t hG1
      subst e1
      subst e2
      exact xr_zreturn (show xlook 10 25 = some (25, .ireturn, 1, 0, 0, 0, 0) from xlk (by decide +kernel)) rfl (by decide)
    · replace t := t.2 c
      refine xr_iconst (n := 21) (show xlook 10 20 = some (20, .iconst 1, 1, 0, 0, 0, 0) from xlk (by decide +kernel)) rfl ?_
      refine xr_goto (m := 25) (show xlook 10 21 = some (21, .goto 4, 3, 25, 0, 0, 0) from xlk (by decide +kernel)) rfl ?_
      obtain ⟨e1, e2⟩ := t hG1
      subst e1
      subst e2
      exact xr_zreturn (show xlook 10 25 = some (25, .ireturn, 1, 0, 0, 0, 0) from xlk (by decide +kernel)) rfl (by decide)
theorem m10 {X : List Int32} {d : Nat} {F F' : XF} {r : Option Value} {o0 : Nat} {x1 : Int} (hPT : xPT F) (h0 : xob 1 o0) (t : ∃ (j1 : Nat) (y1 : Int) (G1 : XF), j1 < d ∧ xM X j1 7 [.ref (o0)] (F) (some (vi y1)) G1 ∧ xPT G1 ∧ (inR (y1) ∧ (((¬ (y1) = (0)) → (xPT (G1) → r = some (vi (1)) ∧ F' = (G1))) ∧ (¬ (¬ (y1) = (0)) → (inR (x1) ∧ inR (((G1) (o0) 4) - ((G1) (o0) 3)) ∧ ((((((G1) (o0) 4) - ((G1) (o0) 3)) < (x1)) → (xPT (G1) → r = some (vi (0)) ∧ F' = (G1))) ∧ (¬ ((((G1) (o0) 4) - ((G1) (o0) 3)) < (x1)) → (xPT (G1) → r = some (vi (1)) ∧ F' = (G1))))))))) : xM X d 10 [.ref (o0), vi (x1)] F r F' := by
  show xE X d 10 0 [.ref (o0), vi (x1)] [] F r F'
  exact s10_0 hPT h0 t

theorem s11_0 {X : List Int32} {d : Nat} {F F' : XF} {r : Option Value} {o0 : Nat} {x1 : Int} {x2 : Int} {w3 : Value} (hPT : xPT F) (h0 : xob 1 o0) (t : ∃ (j1 : Nat) (y1 : Int) (G1 : XF), j1 < d ∧ xM X j1 7 [.ref (o0)] (F) (some (vi y1)) G1 ∧ xPT G1 ∧ (inR (y1) ∧ ((((y1) = (0)) → (∃ (j2 : Nat) (y2 : Int) (G2 : XF), j2 < d ∧ xM X j2 8 [.ref (o0), vi (x1)] (G1) (some (vi y2)) G2 ∧ xPT G2 ∧ (inR (y2) ∧ inR ((G2) (o0) 3) ∧ ((((y2) < ((G2) (o0) 3)) → (xPT (G2) → r = some (vi (0)) ∧ F' = (G2))) ∧ (¬ ((y2) < ((G2) (o0) 3)) → (inR ((y2) + (x2)) ∧ inR ((G2) (o0) 4) ∧ (((((G2) (o0) 4) < ((y2) + (x2))) → (xPT (G2) → r = some (vi (0)) ∧ F' = (G2))) ∧ (¬ (((G2) (o0) 4) < ((y2) + (x2))) → (xPT (G2) → r = some (vi (1)) ∧ F' = (G2)))))))))) ∧ (¬ ((y1) = (0)) → (xPT (G1) → r = some (vi (1)) ∧ F' = (G1)))))) : xE X d 11 0 [.ref (o0), vi (x1), vi (x2), w3] [] F r F' := by
  refine xr_aload_n (n := 1) (show xlook 11 0 = some (0, .aload_n 0, 1, 0, 0, 0, 0) from xlk (by decide +kernel)) rfl rfl ?_
  obtain ⟨j1, y1, G1, hj1, hm1, hG1, t⟩ := t
  refine xr_callv (dk := j1) (o := o0) (as := []) (show xlook 11 1 = some (1, .invokevirtual 37, 3, 7, 1, 0, 6) from xlk (by decide +kernel)) (by decide) hj1 ⟨Nat.le_of_ble_eq_true rfl, Nat.le_of_ble_eq_true rfl, Nat.le_of_ble_eq_true rfl⟩ ⟨h0.1, h0.2, by decide⟩ rfl hm1 (n := 4) rfl ?_
  show xE X d 11 4 [.ref (o0), vi (x1), vi (x2), w3] [vi (y1)] G1 r F'
  obtain ⟨q0, t⟩ := t
  refine xr_if_eq (n := 7) (m := 9) (show xlook 11 4 = some (4, .ifCond .eq 5, 3, 9, 0, 0, 0) from xlk (by decide +kernel)) rfl rfl q0 ⟨fun c => ?_, fun c => ?_⟩
  · replace t := t.1 c
    refine xr_aload_n (n := 10) (show xlook 11 9 = some (9, .aload_n 0, 1, 0, 0, 0, 0) from xlk (by decide +kernel)) rfl rfl ?_
    refine xr_iload_n (n := 11) (show xlook 11 10 = some (10, .iload_n 1, 1, 0, 0, 0, 0) from xlk (by decide +kernel)) rfl rfl ?_
    obtain ⟨j2, y2, G2, hj2, hm2, hG2, t⟩ := t
    refine xr_callv (dk := j2) (o := o0) (as := [vi (x1)]) (show xlook 11 11 = some (11, .invokevirtual 33, 3, 8, 2, 0, 5) from xlk (by decide +kernel)) (by decide) hj2 ⟨Nat.le_of_ble_eq_true rfl, Nat.le_of_ble_eq_true rfl, Nat.le_of_ble_eq_true rfl⟩ ⟨h0.1, h0.2, by decide⟩ rfl hm2 (n := 14) rfl ?_
    show xE X d 11 14 [.ref (o0), vi (x1), vi (x2), w3] [vi (y2)] G2 r F'
    refine xr_istore_n (n := 15) (show xlook 11 14 = some (14, .istore_n 3, 1, 0, 0, 0, 0) from xlk (by decide +kernel)) rfl (ls' := [.ref (o0), vi (x1), vi (x2), vi (y2)]) (Nat.le_of_ble_eq_true rfl) rfl ?_
    refine xr_iload_n (n := 16) (show xlook 11 15 = some (15, .iload_n 3, 1, 0, 0, 0, 0) from xlk (by decide +kernel)) rfl rfl ?_
    refine xr_aload_n (n := 17) (show xlook 11 16 = some (16, .aload_n 0, 1, 0, 0, 0, 0) from xlk (by decide +kernel)) rfl rfl ?_
    refine xr_geti (show xlook 11 17 = some (17, .getfield 27, 3, 1, 3, 0, 13) from xlk (by decide +kernel)) (by decide) (xobf h0 (by decide) (by decide)) rfl (n := 20) rfl ?_
    obtain ⟨q0, q1, t⟩ := t
    refine xr_icmp_lt (n := 23) (m := 37) (show xlook 11 20 = some (20, .if_icmp .lt 17, 3, 37, 0, 0, 0) from xlk (by decide +kernel)) rfl rfl q0 q1 ⟨fun c => ?_, fun c => ?_⟩
    · replace t := t.1 c
      refine xr_iconst (n := 38) (show xlook 11 37 = some (37, .iconst 0, 1, 0, 0, 0, 0) from xlk (by decide +kernel)) rfl ?_
      obtain ⟨e1, e2⟩ := t hG2
      subst e1
      subst e2
      exact xr_zreturn (show xlook 11 38 = some (38, .ireturn, 1, 0, 0, 0, 0) from xlk (by decide +kernel)) rfl (by decide)
    · replace t := t.2 c
      refine xr_iload_n (n := 24) (show xlook 11 23 = some (23, .iload_n 3, 1, 0, 0, 0, 0) from xlk (by decide +kernel)) rfl rfl ?_
      refine xr_iload_n (n := 25) (show xlook 11 24 = some (24, .iload_n 2, 1, 0, 0, 0, 0) from xlk (by decide +kernel)) rfl rfl ?_
      refine xr_iadd (n := 26) (show xlook 11 25 = some (25, .iadd, 1, 0, 0, 0, 0) from xlk (by decide +kernel)) rfl ?_
      refine xr_aload_n (n := 27) (show xlook 11 26 = some (26, .aload_n 0, 1, 0, 0, 0, 0) from xlk (by decide +kernel)) rfl rfl ?_
      refine xr_geti (show xlook 11 27 = some (27, .getfield 15, 3, 1, 4, 0, 9) from xlk (by decide +kernel)) (by decide) (xobf h0 (by decide) (by decide)) rfl (n := 30) rfl ?_
      obtain ⟨q0, q1, t⟩ := t
      refine xr_icmp_gt (n := 33) (m := 37) (show xlook 11 30 = some (30, .if_icmp .gt 7, 3, 37, 0, 0, 0) from xlk (by decide +kernel)) rfl rfl q0 q1 ⟨fun c => ?_, fun c => ?_⟩
      · replace t := t.1 c
        refine xr_iconst (n := 38) (show xlook 11 37 = some (37, .iconst 0, 1, 0, 0, 0, 0) from xlk (by decide +kernel)) rfl ?_
        obtain ⟨e1, e2⟩ := t hG2
        subst e1
        subst e2
        exact xr_zreturn (show xlook 11 38 = some (38, .ireturn, 1, 0, 0, 0, 0) from xlk (by decide +kernel)) rfl (by decide)
      · replace t := t.2 c
        refine xr_iconst (n := 34) (show xlook 11 33 = some (33, .iconst 1, 1, 0, 0, 0, 0) from xlk (by decide +kernel)) rfl ?_
        refine xr_goto (m := 38) (show xlook 11 34 = some (34, .goto 4, 3, 38, 0, 0, 0) from xlk (by decide +kernel)) rfl ?_
        obtain ⟨e1, e2⟩ := t hG2
        subst e1
        subst e2
        exact xr_zreturn (show xlook 11 38 = some (38, .ireturn, 1, 0, 0, 0, 0) from xlk (by decide +kernel)) rfl (by decide)
  · replace t := t.2 c
    refine xr_iconst (n := 8) (show xlook 11 7 = some (7, .iconst 1, 1, 0, 0, 0, 0) from xlk (by decide +kernel)) rfl ?_
    obtain ⟨e1, e2⟩ := t hG1
    subst e1
    subst e2
    exact xr_zreturn (show xlook 11 8 = some (8, .ireturn, 1, 0, 0, 0, 0) from xlk (by decide +kernel)) rfl (by decide)
theorem m11 {X : List Int32} {d : Nat} {F F' : XF} {r : Option Value} {o0 : Nat} {x1 : Int} {x2 : Int} (hPT : xPT F) (h0 : xob 1 o0) (t : ∃ (j1 : Nat) (y1 : Int) (G1 : XF), j1 < d ∧ xM X j1 7 [.ref (o0)] (F) (some (vi y1)) G1 ∧ xPT G1 ∧ (inR (y1) ∧ ((((y1) = (0)) → (∃ (j2 : Nat) (y2 : Int) (G2 : XF), j2 < d ∧ xM X j2 8 [.ref (o0), vi (x1)] (G1) (some (vi y2)) G2 ∧ xPT G2 ∧ (inR (y2) ∧ inR ((G2) (o0) 3) ∧ ((((y2) < ((G2) (o0) 3)) → (xPT (G2) → r = some (vi (0)) ∧ F' = (G2))) ∧ (¬ ((y2) < ((G2) (o0) 3)) → (inR ((y2) + (x2)) ∧ inR ((G2) (o0) 4) ∧ (((((G2) (o0) 4) < ((y2) + (x2))) → (xPT (G2) → r = some (vi (0)) ∧ F' = (G2))) ∧ (¬ (((G2) (o0) 4) < ((y2) + (x2))) → (xPT (G2) → r = some (vi (1)) ∧ F' = (G2)))))))))) ∧ (¬ ((y1) = (0)) → (xPT (G1) → r = some (vi (1)) ∧ F' = (G1)))))) : xM X d 11 [.ref (o0), vi (x1), vi (x2)] F r F' := by
  show xE X d 11 0 [.ref (o0), vi (x1), vi (x2), xU0] [] F r F'
  exact s11_0 hPT h0 t

theorem s12_0 {X : List Int32} {d : Nat} {F F' : XF} {r : Option Value} {o0 : Nat} {x1 : Int} {x2 : Int} {w3 : Value} {w4 : Value} (hPT : xPT F) (h0 : xob 1 o0) (t : ∃ (j1 : Nat) (y1 : Int) (G1 : XF), j1 < d ∧ xM X j1 11 [.ref (o0), vi (x1), vi (x2)] (F) (some (vi y1)) G1 ∧ xPT G1 ∧ (inR (y1) ∧ ((((y1) = (0)) → (∃ (j2 : Nat) (y2 : Int) (G2 : XF), j2 < d ∧ xM X j2 10 [.ref (o0), vi (x2)] (G1) (some (vi y2)) G2 ∧ xPT G2 ∧ (inR (y2) ∧ (((¬ (y2) = (0)) → (∃ (j3 : Nat) (y3 : Int) (G3 : XF), j3 < d ∧ xM X j3 8 [.ref (o0), vi (x1)] (G2) (some (vi y3)) G3 ∧ xPT G3 ∧ (inR (y3) ∧ inR ((G3) (o0) 3) ∧ (((((G3) (o0) 3) ≤ (y3)) → (inR ((x1) + ((((G3) (o0) 2) - (y3)) + ((G3) (o0) 3))) ∧ (xPT (G3) → r = some (vi (min ((x1) + ((((G3) (o0) 2) - (y3)) + ((G3) (o0) 3))) (2000))) ∧ F' = (G3)))) ∧ (¬ (((G3) (o0) 3) ≤ (y3)) → (inR ((x1) + (((G3) (o0) 3) - (y3))) ∧ (xPT (G3) → r = some (vi (min ((x1) + (((G3) (o0) 3) - (y3))) (2000))) ∧ F' = (G3)))))))) ∧ (¬ (¬ (y2) = (0)) → (xPT (G2) → r = some (vi (2000)) ∧ F' = (G2))))))) ∧ (¬ ((y1) = (0)) → (xPT (G1) → r = some (vi (x1)) ∧ F' = (G1)))))) : xE X d 12 0 [.ref (o0), vi (x1), vi (x2), w3, w4] [] F r F' := by
  refine xr_aload_n (n := 1) (show xlook 12 0 = some (0, .aload_n 0, 1, 0, 0, 0, 0) from xlk (by decide +kernel)) rfl rfl ?_
  refine xr_iload_n (n := 2) (show xlook 12 1 = some (1, .iload_n 1, 1, 0, 0, 0, 0) from xlk (by decide +kernel)) rfl rfl ?_
  refine xr_iload_n (n := 3) (show xlook 12 2 = some (2, .iload_n 2, 1, 0, 0, 0, 0) from xlk (by decide +kernel)) rfl rfl ?_
  obtain ⟨j1, y1, G1, hj1, hm1, hG1, t⟩ := t
  refine xr_callv (dk := j1) (o := o0) (as := [vi (x1), vi (x2)]) (show xlook 12 3 = some (3, .invokevirtual 41, 3, 11, 3, 0, 7) from xlk (by decide +kernel)) (by decide) hj1 ⟨Nat.le_of_ble_eq_true rfl, Nat.le_of_ble_eq_true rfl, Nat.le_of_ble_eq_true rfl⟩ ⟨h0.1, h0.2, by decide⟩ rfl hm1 (n := 6) rfl ?_
  show xE X d 12 6 [.ref (o0), vi (x1), vi (x2), w3, w4] [vi (y1)] G1 r F'
  obtain ⟨q0, t⟩ := t
  refine xr_if_eq (n := 9) (m := 11) (show xlook 12 6 = some (6, .ifCond .eq 5, 3, 11, 0, 0, 0) from xlk (by decide +kernel)) rfl rfl q0 ⟨fun c => ?_, fun c => ?_⟩
  · replace t := t.1 c
    refine xr_aload_n (n := 12) (show xlook 12 11 = some (11, .aload_n 0, 1, 0, 0, 0, 0) from xlk (by decide +kernel)) rfl rfl ?_
    refine xr_iload_n (n := 13) (show xlook 12 12 = some (12, .iload_n 2, 1, 0, 0, 0, 0) from xlk (by decide +kernel)) rfl rfl ?_
    obtain ⟨j2, y2, G2, hj2, hm2, hG2, t⟩ := t
    refine xr_callv (dk := j2) (o := o0) (as := [vi (x2)]) (show xlook 12 13 = some (13, .invokevirtual 45, 3, 10, 2, 0, 8) from xlk (by decide +kernel)) (by decide) hj2 ⟨Nat.le_of_ble_eq_true rfl, Nat.le_of_ble_eq_true rfl, Nat.le_of_ble_eq_true rfl⟩ ⟨h0.1, h0.2, by decide⟩ rfl hm2 (n := 16) rfl ?_
    show xE X d 12 16 [.ref (o0), vi (x1), vi (x2), w3, w4] [vi (y2)] G2 r F'
    obtain ⟨q0, t⟩ := t
    refine xr_if_ne (n := 19) (m := 23) (show xlook 12 16 = some (16, .ifCond .ne 7, 3, 23, 0, 0, 0) from xlk (by decide +kernel)) rfl rfl q0 ⟨fun c => ?_, fun c => ?_⟩
    · replace t := t.1 c
      refine xr_aload_n (n := 24) (show xlook 12 23 = some (23, .aload_n 0, 1, 0, 0, 0, 0) from xlk (by decide +kernel)) rfl rfl ?_
      refine xr_iload_n (n := 25) (show xlook 12 24 = some (24, .iload_n 1, 1, 0, 0, 0, 0) from xlk (by decide +kernel)) rfl rfl ?_
      obtain ⟨j3, y3, G3, hj3, hm3, hG3, t⟩ := t
      refine xr_callv (dk := j3) (o := o0) (as := [vi (x1)]) (show xlook 12 25 = some (25, .invokevirtual 33, 3, 8, 2, 0, 5) from xlk (by decide +kernel)) (by decide) hj3 ⟨Nat.le_of_ble_eq_true rfl, Nat.le_of_ble_eq_true rfl, Nat.le_of_ble_eq_true rfl⟩ ⟨h0.1, h0.2, by decide⟩ rfl hm3 (n := 28) rfl ?_
      show xE X d 12 28 [.ref (o0), vi (x1), vi (x2), w3, w4] [vi (y3)] G3 r F'
      refine xr_istore_n (n := 29) (show xlook 12 28 = some (28, .istore_n 3, 1, 0, 0, 0, 0) from xlk (by decide +kernel)) rfl (ls' := [.ref (o0), vi (x1), vi (x2), vi (y3), w4]) (Nat.le_of_ble_eq_true rfl) rfl ?_
      refine xr_iload_n (n := 30) (show xlook 12 29 = some (29, .iload_n 3, 1, 0, 0, 0, 0) from xlk (by decide +kernel)) rfl rfl ?_
      refine xr_aload_n (n := 31) (show xlook 12 30 = some (30, .aload_n 0, 1, 0, 0, 0, 0) from xlk (by decide +kernel)) rfl rfl ?_
      refine xr_geti (show xlook 12 31 = some (31, .getfield 27, 3, 1, 3, 0, 13) from xlk (by decide +kernel)) (by decide) (xobf h0 (by decide) (by decide)) rfl (n := 34) rfl ?_
      obtain ⟨q0, q1, t⟩ := t
      refine xr_icmp_ge (n := 37) (m := 46) (show xlook 12 34 = some (34, .if_icmp .ge 12, 3, 46, 0, 0, 0) from xlk (by decide +kernel)) rfl rfl q0 q1 ⟨fun c => ?_, fun c => ?_⟩
      · replace t := t.1 c
        refine xr_aload_n (n := 47) (show xlook 12 46 = some (46, .aload_n 0, 1, 0, 0, 0, 0) from xlk (by decide +kernel)) rfl rfl ?_
        refine xr_geti (show xlook 12 47 = some (47, .getfield 9, 3, 1, 2, 0, 8) from xlk (by decide +kernel)) (by decide) (xobf h0 (by decide) (by decide)) rfl (n := 50) rfl ?_
        refine xr_iload_n (n := 51) (show xlook 12 50 = some (50, .iload_n 3, 1, 0, 0, 0, 0) from xlk (by decide +kernel)) rfl rfl ?_
        refine xr_isub (n := 52) (show xlook 12 51 = some (51, .isub, 1, 0, 0, 0, 0) from xlk (by decide +kernel)) rfl ?_
        refine xr_aload_n (n := 53) (show xlook 12 52 = some (52, .aload_n 0, 1, 0, 0, 0, 0) from xlk (by decide +kernel)) rfl rfl ?_
        refine xr_geti (show xlook 12 53 = some (53, .getfield 27, 3, 1, 3, 0, 13) from xlk (by decide +kernel)) (by decide) (xobf h0 (by decide) (by decide)) rfl (n := 56) rfl ?_
        refine xr_iadd (n := 57) (show xlook 12 56 = some (56, .iadd, 1, 0, 0, 0, 0) from xlk (by decide +kernel)) rfl ?_
        refine xr_istore (n := 59) (show xlook 12 57 = some (57, .istore 4, 2, 0, 0, 0, 0) from xlk (by decide +kernel)) rfl (ls' := [.ref (o0), vi (x1), vi (x2), vi (y3), vi ((((G3) (o0) 2) - (y3)) + ((G3) (o0) 3))]) (Nat.le_of_ble_eq_true rfl) rfl ?_
        refine xr_iload_n (n := 60) (show xlook 12 59 = some (59, .iload_n 1, 1, 0, 0, 0, 0) from xlk (by decide +kernel)) rfl rfl ?_
        refine xr_iload (n := 62) (show xlook 12 60 = some (60, .iload 4, 2, 0, 0, 0, 0) from xlk (by decide +kernel)) rfl rfl ?_
        refine xr_iadd (n := 63) (show xlook 12 62 = some (62, .iadd, 1, 0, 0, 0, 0) from xlk (by decide +kernel)) rfl ?_
        refine xr_sipush (n := 66) (show xlook 12 63 = some (63, .sipush 2000, 3, 0, 0, 0, 0) from xlk (by decide +kernel)) rfl (by decide) ?_
        obtain ⟨q0, t⟩ := t
        refine xr_min (show xlook 12 66 = some (66, .invokestatic 49, 3, 1002, 2, 0, 9) from xlk (by decide +kernel)) rfl (Nat.le_of_ble_eq_true rfl) q0 ⟨by decide, by decide⟩ (n := 69) rfl ?_
        obtain ⟨e1, e2⟩ := t hG3
        subst e1
        subst e2
        exact xr_ireturn (show xlook 12 69 = some (69, .ireturn, 1, 0, 0, 0, 0) from xlk (by decide +kernel)) rfl
      · replace t := t.2 c
        refine xr_aload_n (n := 38) (show xlook 12 37 = some (37, .aload_n 0, 1, 0, 0, 0, 0) from xlk (by decide +kernel)) rfl rfl ?_
        refine xr_geti (show xlook 12 38 = some (38, .getfield 27, 3, 1, 3, 0, 13) from xlk (by decide +kernel)) (by decide) (xobf h0 (by decide) (by decide)) rfl (n := 41) rfl ?_
        refine xr_iload_n (n := 42) (show xlook 12 41 = some (41, .iload_n 3, 1, 0, 0, 0, 0) from xlk (by decide +kernel)) rfl rfl ?_
        refine xr_isub (n := 43) (show xlook 12 42 = some (42, .isub, 1, 0, 0, 0, 0) from xlk (by decide +kernel)) rfl ?_
        refine xr_goto (m := 57) (show xlook 12 43 = some (43, .goto 14, 3, 57, 0, 0, 0) from xlk (by decide +kernel)) rfl ?_
        refine xr_istore (n := 59) (show xlook 12 57 = some (57, .istore 4, 2, 0, 0, 0, 0) from xlk (by decide +kernel)) rfl (ls' := [.ref (o0), vi (x1), vi (x2), vi (y3), vi (((G3) (o0) 3) - (y3))]) (Nat.le_of_ble_eq_true rfl) rfl ?_
        refine xr_iload_n (n := 60) (show xlook 12 59 = some (59, .iload_n 1, 1, 0, 0, 0, 0) from xlk (by decide +kernel)) rfl rfl ?_
        refine xr_iload (n := 62) (show xlook 12 60 = some (60, .iload 4, 2, 0, 0, 0, 0) from xlk (by decide +kernel)) rfl rfl ?_
        refine xr_iadd (n := 63) (show xlook 12 62 = some (62, .iadd, 1, 0, 0, 0, 0) from xlk (by decide +kernel)) rfl ?_
        refine xr_sipush (n := 66) (show xlook 12 63 = some (63, .sipush 2000, 3, 0, 0, 0, 0) from xlk (by decide +kernel)) rfl (by decide) ?_
        obtain ⟨q0, t⟩ := t
        refine xr_min (show xlook 12 66 = some (66, .invokestatic 49, 3, 1002, 2, 0, 9) from xlk (by decide +kernel)) rfl (Nat.le_of_ble_eq_true rfl) q0 ⟨by decide, by decide⟩ (n := 69) rfl ?_
        obtain ⟨e1, e2⟩ := t hG3
        subst e1
        subst e2
        exact xr_ireturn (show xlook 12 69 = some (69, .ireturn, 1, 0, 0, 0, 0) from xlk (by decide +kernel)) rfl
    · replace t := t.2 c
      refine xr_sipush (n := 22) (show xlook 12 19 = some (19, .sipush 2000, 3, 0, 0, 0, 0) from xlk (by decide +kernel)) rfl (by decide) ?_
      obtain ⟨e1, e2⟩ := t hG2
      subst e1
      subst e2
      exact xr_ireturn (show xlook 12 22 = some (22, .ireturn, 1, 0, 0, 0, 0) from xlk (by decide +kernel)) rfl
  · replace t := t.2 c
    refine xr_iload_n (n := 10) (show xlook 12 9 = some (9, .iload_n 1, 1, 0, 0, 0, 0) from xlk (by decide +kernel)) rfl rfl ?_
    obtain ⟨e1, e2⟩ := t hG1
    subst e1
    subst e2
    exact xr_ireturn (show xlook 12 10 = some (10, .ireturn, 1, 0, 0, 0, 0) from xlk (by decide +kernel)) rfl
theorem m12 {X : List Int32} {d : Nat} {F F' : XF} {r : Option Value} {o0 : Nat} {x1 : Int} {x2 : Int} (hPT : xPT F) (h0 : xob 1 o0) (t : ∃ (j1 : Nat) (y1 : Int) (G1 : XF), j1 < d ∧ xM X j1 11 [.ref (o0), vi (x1), vi (x2)] (F) (some (vi y1)) G1 ∧ xPT G1 ∧ (inR (y1) ∧ ((((y1) = (0)) → (∃ (j2 : Nat) (y2 : Int) (G2 : XF), j2 < d ∧ xM X j2 10 [.ref (o0), vi (x2)] (G1) (some (vi y2)) G2 ∧ xPT G2 ∧ (inR (y2) ∧ (((¬ (y2) = (0)) → (∃ (j3 : Nat) (y3 : Int) (G3 : XF), j3 < d ∧ xM X j3 8 [.ref (o0), vi (x1)] (G2) (some (vi y3)) G3 ∧ xPT G3 ∧ (inR (y3) ∧ inR ((G3) (o0) 3) ∧ (((((G3) (o0) 3) ≤ (y3)) → (inR ((x1) + ((((G3) (o0) 2) - (y3)) + ((G3) (o0) 3))) ∧ (xPT (G3) → r = some (vi (min ((x1) + ((((G3) (o0) 2) - (y3)) + ((G3) (o0) 3))) (2000))) ∧ F' = (G3)))) ∧ (¬ (((G3) (o0) 3) ≤ (y3)) → (inR ((x1) + (((G3) (o0) 3) - (y3))) ∧ (xPT (G3) → r = some (vi (min ((x1) + (((G3) (o0) 3) - (y3))) (2000))) ∧ F' = (G3)))))))) ∧ (¬ (¬ (y2) = (0)) → (xPT (G2) → r = some (vi (2000)) ∧ F' = (G2))))))) ∧ (¬ ((y1) = (0)) → (xPT (G1) → r = some (vi (x1)) ∧ F' = (G1)))))) : xM X d 12 [.ref (o0), vi (x1), vi (x2)] F r F' := by
  show xE X d 12 0 [.ref (o0), vi (x1), vi (x2), xU0, xU0] [] F r F'
  exact s12_0 hPT h0 t

theorem s13_0 {X : List Int32} {d : Nat} {F F' : XF} {r : Option Value} {o0 : Nat} (hPT : xPT F) (h0 : xob 1 o0) (t : ∃ (j1 : Nat) (y1 : Int) (G1 : XF), j1 < d ∧ xM X j1 7 [.ref (o0)] (F) (some (vi y1)) G1 ∧ xPT G1 ∧ (inR (y1) ∧ (((¬ (y1) = (0)) → (xPT (G1) → r = some (vi (1)) ∧ F' = (G1))) ∧ (¬ (¬ (y1) = (0)) → (inR ((G1) (o0) 2) ∧ ((((1) ≤ ((G1) (o0) 2)) → ((0 ≤ ((((2000) - ((G1) (o0) 3)) + ((G1) (o0) 2)) - (1)) ∧ ((((2000) - ((G1) (o0) 3)) + ((G1) (o0) 2)) - (1)) ≤ 2147483647) ∧ (0 < ((G1) (o0) 2) ∧ ((G1) (o0) 2) ≤ 2147483647) ∧ (xPT (G1) → r = some (vi (((((2000) - ((G1) (o0) 3)) + ((G1) (o0) 2)) - (1)) / ((G1) (o0) 2))) ∧ F' = (G1)))) ∧ (¬ ((1) ≤ ((G1) (o0) 2)) → (xPT (G1) → r = some (vi (1)) ∧ F' = (G1))))))))) : xE X d 13 0 [.ref (o0)] [] F r F' := by
  refine xr_aload_n (n := 1) (show xlook 13 0 = some (0, .aload_n 0, 1, 0, 0, 0, 0) from xlk (by decide +kernel)) rfl rfl ?_
  obtain ⟨j1, y1, G1, hj1, hm1, hG1, t⟩ := t
  refine xr_callv (dk := j1) (o := o0) (as := []) (show xlook 13 1 = some (1, .invokevirtual 37, 3, 7, 1, 0, 6) from xlk (by decide +kernel)) (by decide) hj1 ⟨Nat.le_of_ble_eq_true rfl, Nat.le_of_ble_eq_true rfl, Nat.le_of_ble_eq_true rfl⟩ ⟨h0.1, h0.2, by decide⟩ rfl hm1 (n := 4) rfl ?_
  show xE X d 13 4 [.ref (o0)] [vi (y1)] G1 r F'
  obtain ⟨q0, t⟩ := t
  refine xr_if_ne (n := 7) (m := 15) (show xlook 13 4 = some (4, .ifCond .ne 11, 3, 15, 0, 0, 0) from xlk (by decide +kernel)) rfl rfl q0 ⟨fun c => ?_, fun c => ?_⟩
  · replace t := t.1 c
    refine xr_iconst (n := 16) (show xlook 13 15 = some (15, .iconst 1, 1, 0, 0, 0, 0) from xlk (by decide +kernel)) rfl ?_
    obtain ⟨e1, e2⟩ := t hG1
    subst e1
    subst e2
    exact xr_ireturn (show xlook 13 16 = some (16, .ireturn, 1, 0, 0, 0, 0) from xlk (by decide +kernel)) rfl
  · replace t := t.2 c
    refine xr_aload_n (n := 8) (show xlook 13 7 = some (7, .aload_n 0, 1, 0, 0, 0, 0) from xlk (by decide +kernel)) rfl rfl ?_
    refine xr_geti (show xlook 13 8 = some (8, .getfield 9, 3, 1, 2, 0, 8) from xlk (by decide +kernel)) (by decide) (xobf h0 (by decide) (by decide)) rfl (n := 11) rfl ?_
    refine xr_iconst (n := 12) (show xlook 13 11 = some (11, .iconst 1, 1, 0, 0, 0, 0) from xlk (by decide +kernel)) rfl ?_
    obtain ⟨q0, t⟩ := t
    refine xr_icmp_ge (n := 15) (m := 17) (show xlook 13 12 = some (12, .if_icmp .ge 5, 3, 17, 0, 0, 0) from xlk (by decide +kernel)) rfl rfl q0 ⟨by decide, by decide⟩ ⟨fun c => ?_, fun c => ?_⟩
    · replace t := t.1 c
      refine xr_sipush (n := 20) (show xlook 13 17 = some (17, .sipush 2000, 3, 0, 0, 0, 0) from xlk (by decide +kernel)) rfl (by decide) ?_
      refine xr_aload_n (n := 21) (show xlook 13 20 = some (20, .aload_n 0, 1, 0, 0, 0, 0) from xlk (by decide +kernel)) rfl rfl ?_
      refine xr_geti (show xlook 13 21 = some (21, .getfield 27, 3, 1, 3, 0, 13) from xlk (by decide +kernel)) (by decide) (xobf h0 (by decide) (by decide)) rfl (n := 24) rfl ?_
      refine xr_isub (n := 25) (show xlook 13 24 = some (24, .isub, 1, 0, 0, 0, 0) from xlk (by decide +kernel)) rfl ?_
      refine xr_aload_n (n := 26) (show xlook 13 25 = some (25, .aload_n 0, 1, 0, 0, 0, 0) from xlk (by decide +kernel)) rfl rfl ?_
      refine xr_geti (show xlook 13 26 = some (26, .getfield 9, 3, 1, 2, 0, 8) from xlk (by decide +kernel)) (by decide) (xobf h0 (by decide) (by decide)) rfl (n := 29) rfl ?_
      refine xr_iadd (n := 30) (show xlook 13 29 = some (29, .iadd, 1, 0, 0, 0, 0) from xlk (by decide +kernel)) rfl ?_
      refine xr_iconst (n := 31) (show xlook 13 30 = some (30, .iconst 1, 1, 0, 0, 0, 0) from xlk (by decide +kernel)) rfl ?_
      refine xr_isub (n := 32) (show xlook 13 31 = some (31, .isub, 1, 0, 0, 0, 0) from xlk (by decide +kernel)) rfl ?_
      refine xr_aload_n (n := 33) (show xlook 13 32 = some (32, .aload_n 0, 1, 0, 0, 0, 0) from xlk (by decide +kernel)) rfl rfl ?_
      refine xr_geti (show xlook 13 33 = some (33, .getfield 9, 3, 1, 2, 0, 8) from xlk (by decide +kernel)) (by decide) (xobf h0 (by decide) (by decide)) rfl (n := 36) rfl ?_
      obtain ⟨q1, q2, t⟩ := t
      refine xr_idiv (n := 37) (show xlook 13 36 = some (36, .idiv, 1, 0, 0, 0, 0) from xlk (by decide +kernel)) rfl q1 q2 ?_
      obtain ⟨e1, e2⟩ := t hG1
      subst e1
      subst e2
      exact xr_ireturn (show xlook 13 37 = some (37, .ireturn, 1, 0, 0, 0, 0) from xlk (by decide +kernel)) rfl
    · replace t := t.2 c
      refine xr_iconst (n := 16) (show xlook 13 15 = some (15, .iconst 1, 1, 0, 0, 0, 0) from xlk (by decide +kernel)) rfl ?_
      obtain ⟨e1, e2⟩ := t hG1
      subst e1
      subst e2
      exact xr_ireturn (show xlook 13 16 = some (16, .ireturn, 1, 0, 0, 0, 0) from xlk (by decide +kernel)) rfl
theorem m13 {X : List Int32} {d : Nat} {F F' : XF} {r : Option Value} {o0 : Nat} (hPT : xPT F) (h0 : xob 1 o0) (t : ∃ (j1 : Nat) (y1 : Int) (G1 : XF), j1 < d ∧ xM X j1 7 [.ref (o0)] (F) (some (vi y1)) G1 ∧ xPT G1 ∧ (inR (y1) ∧ (((¬ (y1) = (0)) → (xPT (G1) → r = some (vi (1)) ∧ F' = (G1))) ∧ (¬ (¬ (y1) = (0)) → (inR ((G1) (o0) 2) ∧ ((((1) ≤ ((G1) (o0) 2)) → ((0 ≤ ((((2000) - ((G1) (o0) 3)) + ((G1) (o0) 2)) - (1)) ∧ ((((2000) - ((G1) (o0) 3)) + ((G1) (o0) 2)) - (1)) ≤ 2147483647) ∧ (0 < ((G1) (o0) 2) ∧ ((G1) (o0) 2) ≤ 2147483647) ∧ (xPT (G1) → r = some (vi (((((2000) - ((G1) (o0) 3)) + ((G1) (o0) 2)) - (1)) / ((G1) (o0) 2))) ∧ F' = (G1)))) ∧ (¬ ((1) ≤ ((G1) (o0) 2)) → (xPT (G1) → r = some (vi (1)) ∧ F' = (G1))))))))) : xM X d 13 [.ref (o0)] F r F' := by
  show xE X d 13 0 [.ref (o0)] [] F r F'
  exact s13_0 hPT h0 t

theorem s14_0 {X : List Int32} {d : Nat} {F F' : XF} {r : Option Value} {o0 : Nat} {x1 : Int} (hPT : xPT F) (h0 : xob 1 o0) (t : xPT (F) → r = some (vi (((x1) * ((F) (o0) 2)) + ((F) (o0) 3))) ∧ F' = (F)) : xE X d 14 0 [.ref (o0), vi (x1)] [] F r F' := by
  refine xr_iload_n (n := 1) (show xlook 14 0 = some (0, .iload_n 1, 1, 0, 0, 0, 0) from xlk (by decide +kernel)) rfl rfl ?_
  refine xr_aload_n (n := 2) (show xlook 14 1 = some (1, .aload_n 0, 1, 0, 0, 0, 0) from xlk (by decide +kernel)) rfl rfl ?_
  refine xr_geti (show xlook 14 2 = some (2, .getfield 9, 3, 1, 2, 0, 8) from xlk (by decide +kernel)) (by decide) (xobf h0 (by decide) (by decide)) rfl (n := 5) rfl ?_
  refine xr_imul (n := 6) (show xlook 14 5 = some (5, .imul, 1, 0, 0, 0, 0) from xlk (by decide +kernel)) rfl ?_
  refine xr_aload_n (n := 7) (show xlook 14 6 = some (6, .aload_n 0, 1, 0, 0, 0, 0) from xlk (by decide +kernel)) rfl rfl ?_
  refine xr_geti (show xlook 14 7 = some (7, .getfield 27, 3, 1, 3, 0, 13) from xlk (by decide +kernel)) (by decide) (xobf h0 (by decide) (by decide)) rfl (n := 10) rfl ?_
  refine xr_iadd (n := 11) (show xlook 14 10 = some (10, .iadd, 1, 0, 0, 0, 0) from xlk (by decide +kernel)) rfl ?_
  obtain ⟨e1, e2⟩ := t hPT
  subst e1
  subst e2
  exact xr_ireturn (show xlook 14 11 = some (11, .ireturn, 1, 0, 0, 0, 0) from xlk (by decide +kernel)) rfl
theorem m14 {X : List Int32} {d : Nat} {F F' : XF} {r : Option Value} {o0 : Nat} {x1 : Int} (hPT : xPT F) (h0 : xob 1 o0) (t : xPT (F) → r = some (vi (((x1) * ((F) (o0) 2)) + ((F) (o0) 3))) ∧ F' = (F)) : xM X d 14 [.ref (o0), vi (x1)] F r F' := by
  show xE X d 14 0 [.ref (o0), vi (x1)] [] F r F'
  exact s14_0 hPT h0 t

theorem s15_0 {X : List Int32} {d : Nat} {F F' : XF} {r : Option Value} {o0 : Nat} {x1 : Int} (hPT : xPT F) (h0 : xob 1 o0) (t : ∃ (j1 : Nat) (y1 : Int) (G1 : XF), j1 < d ∧ xM X j1 7 [.ref (o0)] (F) (some (vi y1)) G1 ∧ xPT G1 ∧ (inR (y1) ∧ ((((y1) = (0)) → (∃ (j2 : Nat) (y2 : Int) (G2 : XF), j2 < d ∧ xM X j2 14 [.ref (o0), vi (x1)] (G1) (some (vi y2)) G2 ∧ xPT G2 ∧ (inR (((G1) (o0) 4) - ((G1) (o0) 3)) ∧ inR ((2000) - (y2)) ∧ (xPT (G2) → r = some (vi (min (((G1) (o0) 4) - ((G1) (o0) 3)) ((2000) - (y2)))) ∧ F' = (G2))))) ∧ (¬ ((y1) = (0)) → (xPT (G1) → r = some (vi (2000)) ∧ F' = (G1)))))) : xE X d 15 0 [.ref (o0), vi (x1)] [] F r F' := by
  refine xr_aload_n (n := 1) (show xlook 15 0 = some (0, .aload_n 0, 1, 0, 0, 0, 0) from xlk (by decide +kernel)) rfl rfl ?_
  obtain ⟨j1, y1, G1, hj1, hm1, hG1, t⟩ := t
  refine xr_callv (dk := j1) (o := o0) (as := []) (show xlook 15 1 = some (1, .invokevirtual 37, 3, 7, 1, 0, 6) from xlk (by decide +kernel)) (by decide) hj1 ⟨Nat.le_of_ble_eq_true rfl, Nat.le_of_ble_eq_true rfl, Nat.le_of_ble_eq_true rfl⟩ ⟨h0.1, h0.2, by decide⟩ rfl hm1 (n := 4) rfl ?_
  show xE X d 15 4 [.ref (o0), vi (x1)] [vi (y1)] G1 r F'
  obtain ⟨q0, t⟩ := t
  refine xr_if_eq (n := 7) (m := 11) (show xlook 15 4 = some (4, .ifCond .eq 7, 3, 11, 0, 0, 0) from xlk (by decide +kernel)) rfl rfl q0 ⟨fun c => ?_, fun c => ?_⟩
  · replace t := t.1 c
    refine xr_aload_n (n := 12) (show xlook 15 11 = some (11, .aload_n 0, 1, 0, 0, 0, 0) from xlk (by decide +kernel)) rfl rfl ?_
    refine xr_geti (show xlook 15 12 = some (12, .getfield 15, 3, 1, 4, 0, 9) from xlk (by decide +kernel)) (by decide) (xobf h0 (by decide) (by decide)) rfl (n := 15) rfl ?_
    refine xr_aload_n (n := 16) (show xlook 15 15 = some (15, .aload_n 0, 1, 0, 0, 0, 0) from xlk (by decide +kernel)) rfl rfl ?_
    refine xr_geti (show xlook 15 16 = some (16, .getfield 27, 3, 1, 3, 0, 13) from xlk (by decide +kernel)) (by decide) (xobf h0 (by decide) (by decide)) rfl (n := 19) rfl ?_
    refine xr_isub (n := 20) (show xlook 15 19 = some (19, .isub, 1, 0, 0, 0, 0) from xlk (by decide +kernel)) rfl ?_
    refine xr_sipush (n := 23) (show xlook 15 20 = some (20, .sipush 2000, 3, 0, 0, 0, 0) from xlk (by decide +kernel)) rfl (by decide) ?_
    refine xr_aload_n (n := 24) (show xlook 15 23 = some (23, .aload_n 0, 1, 0, 0, 0, 0) from xlk (by decide +kernel)) rfl rfl ?_
    refine xr_iload_n (n := 25) (show xlook 15 24 = some (24, .iload_n 1, 1, 0, 0, 0, 0) from xlk (by decide +kernel)) rfl rfl ?_
    obtain ⟨j2, y2, G2, hj2, hm2, hG2, t⟩ := t
    refine xr_callv (dk := j2) (o := o0) (as := [vi (x1)]) (show xlook 15 25 = some (25, .invokevirtual 55, 3, 14, 2, 0, 10) from xlk (by decide +kernel)) (by decide) hj2 ⟨Nat.le_of_ble_eq_true rfl, Nat.le_of_ble_eq_true rfl, Nat.le_of_ble_eq_true rfl⟩ ⟨h0.1, h0.2, by decide⟩ rfl hm2 (n := 28) rfl ?_
    show xE X d 15 28 [.ref (o0), vi (x1)] [vi (y2), vi (2000), vi (((G1) (o0) 4) - ((G1) (o0) 3))] G2 r F'
    refine xr_isub (n := 29) (show xlook 15 28 = some (28, .isub, 1, 0, 0, 0, 0) from xlk (by decide +kernel)) rfl ?_
    obtain ⟨q0, q1, t⟩ := t
    refine xr_min (show xlook 15 29 = some (29, .invokestatic 49, 3, 1002, 2, 0, 9) from xlk (by decide +kernel)) rfl (Nat.le_of_ble_eq_true rfl) q0 q1 (n := 32) rfl ?_
    obtain ⟨e1, e2⟩ := t hG2
    subst e1
    subst e2
    exact xr_ireturn (show xlook 15 32 = some (32, .ireturn, 1, 0, 0, 0, 0) from xlk (by decide +kernel)) rfl
  · replace t := t.2 c
    refine xr_sipush (n := 10) (show xlook 15 7 = some (7, .sipush 2000, 3, 0, 0, 0, 0) from xlk (by decide +kernel)) rfl (by decide) ?_
    obtain ⟨e1, e2⟩ := t hG1
    subst e1
    subst e2
    exact xr_ireturn (show xlook 15 10 = some (10, .ireturn, 1, 0, 0, 0, 0) from xlk (by decide +kernel)) rfl
theorem m15 {X : List Int32} {d : Nat} {F F' : XF} {r : Option Value} {o0 : Nat} {x1 : Int} (hPT : xPT F) (h0 : xob 1 o0) (t : ∃ (j1 : Nat) (y1 : Int) (G1 : XF), j1 < d ∧ xM X j1 7 [.ref (o0)] (F) (some (vi y1)) G1 ∧ xPT G1 ∧ (inR (y1) ∧ ((((y1) = (0)) → (∃ (j2 : Nat) (y2 : Int) (G2 : XF), j2 < d ∧ xM X j2 14 [.ref (o0), vi (x1)] (G1) (some (vi y2)) G2 ∧ xPT G2 ∧ (inR (((G1) (o0) 4) - ((G1) (o0) 3)) ∧ inR ((2000) - (y2)) ∧ (xPT (G2) → r = some (vi (min (((G1) (o0) 4) - ((G1) (o0) 3)) ((2000) - (y2)))) ∧ F' = (G2))))) ∧ (¬ ((y1) = (0)) → (xPT (G1) → r = some (vi (2000)) ∧ F' = (G1)))))) : xM X d 15 [.ref (o0), vi (x1)] F r F' := by
  show xE X d 15 0 [.ref (o0), vi (x1)] [] F r F'
  exact s15_0 hPT h0 t

theorem s48_0 {X : List Int32} {d : Nat} {F F' : XF} {r : Option Value} {o0 : Nat} {o1 : Nat} {w2 : Value} {w3 : Value} (hPT : xPT F) (h0 : xob 6 o0) (h1 : xob 9 o1) (t : ∃ (j1 : Nat) (G1 : XF), j1 < d ∧ xM X j1 65 [.ref (o0 + 1), .ref (o1)] (xup (F) (o0) 0 (o1)) none G1 ∧ xPT G1 ∧ (xPT (xup (xup (xup (xup (xup (G1) (o0) 2 (0)) (o0) 3 (0)) (o0) 4 (0)) (o0) 5 (0)) (o0 + 13) 0 (0)) → xE X d 48 45 [.ref (o0), .ref (o1), vi (0), vi (0)] [] (xup (xup (xup (xup (xup (G1) (o0) 2 (0)) (o0) 3 (0)) (o0) 4 (0)) (o0) 5 (0)) (o0 + 13) 0 (0)) r F')) : xE X d 48 0 [.ref (o0), .ref (o1), w2, w3] [] F r F' := by
  refine xr_aload_n (n := 1) (show xlook 48 0 = some (0, .aload_n 0, 1, 0, 0, 0, 0) from xlk (by decide +kernel)) rfl rfl ?_
  refine xr_aload_n (n := 2) (show xlook 48 1 = some (1, .aload_n 1, 1, 0, 0, 0, 0) from xlk (by decide +kernel)) rfl rfl ?_
  refine xr_putr (q := o1) (show xlook 48 2 = some (2, .putfield 40, 3, 6, 0, 0, 81) from xlk (by decide +kernel)) (xobf h0 (by decide) (by decide)) rfl (by have := h1.1; omega) (n := 5) rfl ?_
  refine xr_aload_n (n := 6) (show xlook 48 5 = some (5, .aload_n 0, 1, 0, 0, 0, 0) from xlk (by decide +kernel)) rfl rfl ?_
  refine xr_getr (q := o0 + 1) (show xlook 48 6 = some (6, .getfield 12, 3, 6, 1, 0, 74) from xlk (by decide +kernel)) (by decide) (xobf h0 (by decide) (by decide)) rfl (xPT_get (xPT_fld hPT h0 (by decide) (by decide)) h0 (by decide)) (by have := (xtg_6_1 _ h0.1 h0.2).1; omega) (n := 9) rfl ?_
  refine xr_aload_n (n := 10) (show xlook 48 9 = some (9, .aload_n 1, 1, 0, 0, 0, 0) from xlk (by decide +kernel)) rfl rfl ?_
  obtain ⟨j1, G1, hj1, hm1, hG1, t⟩ := t
  refine xr_callv (dk := j1) (o := o0 + 1) (as := [.ref (o1)]) (show xlook 48 10 = some (10, .invokevirtual 54, 3, 65, 2, 0, 54) from xlk (by decide +kernel)) (by decide) hj1 ⟨Nat.le_of_ble_eq_true rfl, Nat.le_of_ble_eq_true rfl, Nat.le_of_ble_eq_true rfl⟩ ⟨(xtg_6_1 _ h0.1 h0.2).1, (xtg_6_1 _ h0.1 h0.2).2, by decide⟩ rfl hm1 (n := 13) rfl ?_
  show xE X d 48 13 [.ref (o0), .ref (o1), w2, w3] [] G1 r F'
  refine xr_aload_n (n := 14) (show xlook 48 13 = some (13, .aload_n 0, 1, 0, 0, 0, 0) from xlk (by decide +kernel)) rfl rfl ?_
  refine xr_iconst (n := 15) (show xlook 48 14 = some (14, .iconst 0, 1, 0, 0, 0, 0) from xlk (by decide +kernel)) rfl ?_
  refine xr_puti (show xlook 48 15 = some (15, .putfield 58, 3, 6, 2, 0, 83) from xlk (by decide +kernel)) (xobf h0 (by decide) (by decide)) rfl (n := 18) rfl ?_
  refine xr_aload_n (n := 19) (show xlook 48 18 = some (18, .aload_n 0, 1, 0, 0, 0, 0) from xlk (by decide +kernel)) rfl rfl ?_
  refine xr_iconst (n := 20) (show xlook 48 19 = some (19, .iconst 0, 1, 0, 0, 0, 0) from xlk (by decide +kernel)) rfl ?_
  refine xr_puti (show xlook 48 20 = some (20, .putfield 62, 3, 6, 3, 0, 84) from xlk (by decide +kernel)) (xobf h0 (by decide) (by decide)) rfl (n := 23) rfl ?_
  refine xr_aload_n (n := 24) (show xlook 48 23 = some (23, .aload_n 0, 1, 0, 0, 0, 0) from xlk (by decide +kernel)) rfl rfl ?_
  refine xr_iconst (n := 25) (show xlook 48 24 = some (24, .iconst 0, 1, 0, 0, 0, 0) from xlk (by decide +kernel)) rfl ?_
  refine xr_putz (show xlook 48 25 = some (25, .putfield 65, 3, 6, 4, 0, 85) from xlk (by decide +kernel)) (xobf h0 (by decide) (by decide)) rfl (by decide) (n := 28) rfl ?_
  refine xr_aload_n (n := 29) (show xlook 48 28 = some (28, .aload_n 0, 1, 0, 0, 0, 0) from xlk (by decide +kernel)) rfl rfl ?_
  refine xr_iconst (n := 30) (show xlook 48 29 = some (29, .iconst 0, 1, 0, 0, 0, 0) from xlk (by decide +kernel)) rfl ?_
  refine xr_putz (show xlook 48 30 = some (30, .putfield 69, 3, 6, 5, 0, 86) from xlk (by decide +kernel)) (xobf h0 (by decide) (by decide)) rfl (by decide) (n := 33) rfl ?_
  refine xr_aload_n (n := 34) (show xlook 48 33 = some (33, .aload_n 0, 1, 0, 0, 0, 0) from xlk (by decide +kernel)) rfl rfl ?_
  refine xr_getr (q := o0 + 13) (show xlook 48 34 = some (34, .getfield 49, 3, 6, 12, 0, 82) from xlk (by decide +kernel)) (by decide) (xobf h0 (by decide) (by decide)) rfl (xPT_get (xPT_fld (xPT_fld (xPT_fld (xPT_fld hG1 h0 (by decide) (by decide)) h0 (by decide) (by decide)) h0 (by decide) (by decide)) h0 (by decide) (by decide)) h0 (by decide)) (by have := (xtg_6_12 _ h0.1 h0.2).1; omega) (n := 37) rfl ?_
  refine xr_iconst (n := 38) (show xlook 48 37 = some (37, .iconst 0, 1, 0, 0, 0, 0) from xlk (by decide +kernel)) rfl ?_
  refine xr_puti (show xlook 48 38 = some (38, .putfield 72, 3, 2, 0, 0, 87) from xlk (by decide +kernel)) (xobf (xtg_6_12 _ h0.1 h0.2) (by decide) (by decide)) rfl (n := 41) rfl ?_
  refine xr_iconst (n := 42) (show xlook 48 41 = some (41, .iconst 0, 1, 0, 0, 0, 0) from xlk (by decide +kernel)) rfl ?_
  refine xr_istore_n (n := 43) (show xlook 48 42 = some (42, .istore_n 2, 1, 0, 0, 0, 0) from xlk (by decide +kernel)) rfl (ls' := [.ref (o0), .ref (o1), vi (0), w3]) (Nat.le_of_ble_eq_true rfl) rfl ?_
  refine xr_iconst (n := 44) (show xlook 48 43 = some (43, .iconst 0, 1, 0, 0, 0, 0) from xlk (by decide +kernel)) rfl ?_
  refine xr_istore_n (n := 45) (show xlook 48 44 = some (44, .istore_n 3, 1, 0, 0, 0, 0) from xlk (by decide +kernel)) rfl (ls' := [.ref (o0), .ref (o1), vi (0), vi (0)]) (Nat.le_of_ble_eq_true rfl) rfl ?_
  exact t (xPT_fld (xPT_fld (xPT_fld (xPT_fld (xPT_fld hG1 h0 (by decide) (by decide)) h0 (by decide) (by decide)) h0 (by decide) (by decide)) h0 (by decide) (by decide)) (xtg_6_12 _ h0.1 h0.2) (by decide) (by decide))
theorem m48 {X : List Int32} {d : Nat} {F F' : XF} {r : Option Value} {o0 : Nat} {o1 : Nat} (hPT : xPT F) (h0 : xob 6 o0) (h1 : xob 9 o1) (t : ∃ (j1 : Nat) (G1 : XF), j1 < d ∧ xM X j1 65 [.ref (o0 + 1), .ref (o1)] (xup (F) (o0) 0 (o1)) none G1 ∧ xPT G1 ∧ (xPT (xup (xup (xup (xup (xup (G1) (o0) 2 (0)) (o0) 3 (0)) (o0) 4 (0)) (o0) 5 (0)) (o0 + 13) 0 (0)) → xE X d 48 45 [.ref (o0), .ref (o1), vi (0), vi (0)] [] (xup (xup (xup (xup (xup (G1) (o0) 2 (0)) (o0) 3 (0)) (o0) 4 (0)) (o0) 5 (0)) (o0 + 13) 0 (0)) r F')) : xM X d 48 [.ref (o0), .ref (o1)] F r F' := by
  show xE X d 48 0 [.ref (o0), .ref (o1), xU0, xU0] [] F r F'
  exact s48_0 hPT h0 h1 t

theorem s48_45 {X : List Int32} {d : Nat} {F F' : XF} {r : Option Value} {o0 : Nat} {o1 : Nat} {x2 : Int} {x3 : Int} (hPT : xPT F) (h0 : xob 6 o0) (h1 : xob 9 o1) (t : inR (x3) ∧ inR ((F) (o1) 6) ∧ (((((F) (o1) 6) ≤ (x3)) → (xPT (F) → xE X d 48 103 [.ref (o0), .ref (o1), vi (x2), vi (0)] [] (F) r F')) ∧ (¬ (((F) (o1) 6) ≤ (x3)) → ((0 ≤ (x3) ∧ (x3) < 30) ∧ ((0 ≤ (x3) ∧ (x3) < 30) ∧ ((0 ≤ (x3) ∧ (x3) < 30) ∧ ((0 ≤ (x3) ∧ (x3) < 30) ∧ ((0 ≤ (x3) ∧ (x3) < 30) ∧ (xPT (xup (xup (xup (xup (F) (o0 + 7) (x3).toNat (x2)) (o0 + 8) (x3).toNat ((-1))) (o0 + 9) (x3).toNat (0)) (o0 + 10) (x3).toNat (0)) → xE X d 48 45 [.ref (o0), .ref (o1), vi ((x2) - (((xup (F) (o0 + 7) (x3).toNat (x2)) (o1 + 2) (x3).toNat) + ((xup (F) (o0 + 7) (x3).toNat (x2)) (o1) 2))), vi (x3 + 1)] [] (xup (xup (xup (xup (F) (o0 + 7) (x3).toNat (x2)) (o0 + 8) (x3).toNat ((-1))) (o0 + 9) (x3).toNat (0)) (o0 + 10) (x3).toNat (0)) r F'))))))))) : xE X d 48 45 [.ref (o0), .ref (o1), vi (x2), vi (x3)] [] F r F' := by
  refine xr_iload_n (n := 46) (show xlook 48 45 = some (45, .iload_n 3, 1, 0, 0, 0, 0) from xlk (by decide +kernel)) rfl rfl ?_
  refine xr_aload_n (n := 47) (show xlook 48 46 = some (46, .aload_n 1, 1, 0, 0, 0, 0) from xlk (by decide +kernel)) rfl rfl ?_
  refine xr_geti (show xlook 48 47 = some (47, .getfield 75, 3, 9, 6, 0, 88) from xlk (by decide +kernel)) (by decide) (xobf h1 (by decide) (by decide)) rfl (n := 50) rfl ?_
  obtain ⟨q0, q1, t⟩ := t
  refine xr_icmp_ge (n := 53) (m := 101) (show xlook 48 50 = some (50, .if_icmp .ge 51, 3, 101, 0, 0, 0) from xlk (by decide +kernel)) rfl rfl q0 q1 ⟨fun c => ?_, fun c => ?_⟩
  · replace t := t.1 c
    refine xr_iconst (n := 102) (show xlook 48 101 = some (101, .iconst 0, 1, 0, 0, 0, 0) from xlk (by decide +kernel)) rfl ?_
    refine xr_istore_n (n := 103) (show xlook 48 102 = some (102, .istore_n 3, 1, 0, 0, 0, 0) from xlk (by decide +kernel)) rfl (ls' := [.ref (o0), .ref (o1), vi (x2), vi (0)]) (Nat.le_of_ble_eq_true rfl) rfl ?_
    exact t hPT
  · replace t := t.2 c
    refine xr_aload_n (n := 54) (show xlook 48 53 = some (53, .aload_n 0, 1, 0, 0, 0, 0) from xlk (by decide +kernel)) rfl rfl ?_
    refine xr_getr (q := o0 + 7) (show xlook 48 54 = some (54, .getfield 18, 3, 6, 6, 0, 75) from xlk (by decide +kernel)) (by decide) (xobf h0 (by decide) (by decide)) rfl (xPT_get hPT h0 (by decide)) (by have := (xtg_6_6 _ h0.1 h0.2).1.1; omega) (n := 57) rfl ?_
    refine xr_iload_n (n := 58) (show xlook 48 57 = some (57, .iload_n 3, 1, 0, 0, 0, 0) from xlk (by decide +kernel)) rfl rfl ?_
    refine xr_iload_n (n := 59) (show xlook 48 58 = some (58, .iload_n 2, 1, 0, 0, 0, 0) from xlk (by decide +kernel)) rfl rfl ?_
    obtain ⟨q1, t⟩ := t
    refine xr_iast (show xlook 48 59 = some (59, .iastore, 1, 0, 0, 0, 0) from xlk (by decide +kernel)) (xtg_6_6 _ h0.1 h0.2).1 (by rw [(xtg_6_6 _ h0.1 h0.2).2]; exact q1) (n := 60) rfl ?_
    refine xr_iload_n (n := 61) (show xlook 48 60 = some (60, .iload_n 2, 1, 0, 0, 0, 0) from xlk (by decide +kernel)) rfl rfl ?_
    refine xr_aload_n (n := 62) (show xlook 48 61 = some (61, .aload_n 1, 1, 0, 0, 0, 0) from xlk (by decide +kernel)) rfl rfl ?_
    refine xr_getr (q := o1 + 2) (show xlook 48 62 = some (62, .getfield 80, 3, 9, 7, 0, 89) from xlk (by decide +kernel)) (by decide) (xobf h1 (by decide) (by decide)) rfl (xPT_get (xPT_arr hPT (Or.inl (xtg_6_6 _ h0.1 h0.2).1.2)) h1 (by decide)) (by have := (xtg_9_7 _ h1.1 h1.2).1.1; omega) (n := 65) rfl ?_
    refine xr_iload_n (n := 66) (show xlook 48 65 = some (65, .iload_n 3, 1, 0, 0, 0, 0) from xlk (by decide +kernel)) rfl rfl ?_
    obtain ⟨q1, t⟩ := t
    refine xr_iald (show xlook 48 66 = some (66, .iaload, 1, 0, 0, 0, 0) from xlk (by decide +kernel)) (xtg_9_7 _ h1.1 h1.2).1 (by rw [(xtg_9_7 _ h1.1 h1.2).2]; exact q1) (n := 67) rfl ?_
    refine xr_aload_n (n := 68) (show xlook 48 67 = some (67, .aload_n 1, 1, 0, 0, 0, 0) from xlk (by decide +kernel)) rfl rfl ?_
    refine xr_geti (show xlook 48 68 = some (68, .getfield 83, 3, 9, 2, 0, 90) from xlk (by decide +kernel)) (by decide) (xobf h1 (by decide) (by decide)) rfl (n := 71) rfl ?_
    refine xr_iadd (n := 72) (show xlook 48 71 = some (71, .iadd, 1, 0, 0, 0, 0) from xlk (by decide +kernel)) rfl ?_
    refine xr_isub (n := 73) (show xlook 48 72 = some (72, .isub, 1, 0, 0, 0, 0) from xlk (by decide +kernel)) rfl ?_
    refine xr_istore_n (n := 74) (show xlook 48 73 = some (73, .istore_n 2, 1, 0, 0, 0, 0) from xlk (by decide +kernel)) rfl (ls' := [.ref (o0), .ref (o1), vi ((x2) - (((xup (F) (o0 + 7) (x3).toNat (x2)) (o1 + 2) (x3).toNat) + ((xup (F) (o0 + 7) (x3).toNat (x2)) (o1) 2))), vi (x3)]) (Nat.le_of_ble_eq_true rfl) rfl ?_
    refine xr_aload_n (n := 75) (show xlook 48 74 = some (74, .aload_n 0, 1, 0, 0, 0, 0) from xlk (by decide +kernel)) rfl rfl ?_
    refine xr_getr (q := o0 + 8) (show xlook 48 75 = some (75, .getfield 22, 3, 6, 7, 0, 76) from xlk (by decide +kernel)) (by decide) (xobf h0 (by decide) (by decide)) rfl (xPT_get (xPT_arr hPT (Or.inl (xtg_6_6 _ h0.1 h0.2).1.2)) h0 (by decide)) (by have := (xtg_6_7 _ h0.1 h0.2).1.1; omega) (n := 78) rfl ?_
    refine xr_iload_n (n := 79) (show xlook 48 78 = some (78, .iload_n 3, 1, 0, 0, 0, 0) from xlk (by decide +kernel)) rfl rfl ?_
    refine xr_iconst (n := 80) (show xlook 48 79 = some (79, .iconst (-1), 1, 0, 0, 0, 0) from xlk (by decide +kernel)) rfl ?_
    obtain ⟨q1, t⟩ := t
    refine xr_iast (show xlook 48 80 = some (80, .iastore, 1, 0, 0, 0, 0) from xlk (by decide +kernel)) (xtg_6_7 _ h0.1 h0.2).1 (by rw [(xtg_6_7 _ h0.1 h0.2).2]; exact q1) (n := 81) rfl ?_
    refine xr_aload_n (n := 82) (show xlook 48 81 = some (81, .aload_n 0, 1, 0, 0, 0, 0) from xlk (by decide +kernel)) rfl rfl ?_
    refine xr_getr (q := o0 + 9) (show xlook 48 82 = some (82, .getfield 25, 3, 6, 8, 0, 77) from xlk (by decide +kernel)) (by decide) (xobf h0 (by decide) (by decide)) rfl (xPT_get (xPT_arr (xPT_arr hPT (Or.inl (xtg_6_6 _ h0.1 h0.2).1.2)) (Or.inl (xtg_6_7 _ h0.1 h0.2).1.2)) h0 (by decide)) (by have := (xtg_6_8 _ h0.1 h0.2).1.1; omega) (n := 85) rfl ?_
    refine xr_iload_n (n := 86) (show xlook 48 85 = some (85, .iload_n 3, 1, 0, 0, 0, 0) from xlk (by decide +kernel)) rfl rfl ?_
    refine xr_iconst (n := 87) (show xlook 48 86 = some (86, .iconst 0, 1, 0, 0, 0, 0) from xlk (by decide +kernel)) rfl ?_
    obtain ⟨q1, t⟩ := t
    refine xr_iast (show xlook 48 87 = some (87, .iastore, 1, 0, 0, 0, 0) from xlk (by decide +kernel)) (xtg_6_8 _ h0.1 h0.2).1 (by rw [(xtg_6_8 _ h0.1 h0.2).2]; exact q1) (n := 88) rfl ?_
    refine xr_aload_n (n := 89) (show xlook 48 88 = some (88, .aload_n 0, 1, 0, 0, 0, 0) from xlk (by decide +kernel)) rfl rfl ?_
    refine xr_getr (q := o0 + 10) (show xlook 48 89 = some (89, .getfield 28, 3, 6, 9, 0, 78) from xlk (by decide +kernel)) (by decide) (xobf h0 (by decide) (by decide)) rfl (xPT_get (xPT_arr (xPT_arr (xPT_arr hPT (Or.inl (xtg_6_6 _ h0.1 h0.2).1.2)) (Or.inl (xtg_6_7 _ h0.1 h0.2).1.2)) (Or.inl (xtg_6_8 _ h0.1 h0.2).1.2)) h0 (by decide)) (by have := (xtg_6_9 _ h0.1 h0.2).1.1; omega) (n := 92) rfl ?_
    refine xr_iload_n (n := 93) (show xlook 48 92 = some (92, .iload_n 3, 1, 0, 0, 0, 0) from xlk (by decide +kernel)) rfl rfl ?_
    refine xr_iconst (n := 94) (show xlook 48 93 = some (93, .iconst 0, 1, 0, 0, 0, 0) from xlk (by decide +kernel)) rfl ?_
    obtain ⟨q1, t⟩ := t
    refine xr_iast (show xlook 48 94 = some (94, .iastore, 1, 0, 0, 0, 0) from xlk (by decide +kernel)) (xtg_6_9 _ h0.1 h0.2).1 (by rw [(xtg_6_9 _ h0.1 h0.2).2]; exact q1) (n := 95) rfl ?_
    refine xr_iinc (n := 98) (show xlook 48 95 = some (95, .iinc 3 1, 3, 0, 0, 0, 0) from xlk (by decide +kernel)) rfl (ls' := [.ref (o0), .ref (o1), vi ((x2) - (((xup (F) (o0 + 7) (x3).toNat (x2)) (o1 + 2) (x3).toNat) + ((xup (F) (o0 + 7) (x3).toNat (x2)) (o1) 2))), vi (x3 + 1)]) rfl rfl ?_
    refine xr_goto (m := 45) (show xlook 48 98 = some (98, .goto (-53), 3, 45, 0, 0, 0) from xlk (by decide +kernel)) rfl ?_
    exact t (xPT_arr (xPT_arr (xPT_arr (xPT_arr hPT (Or.inl (xtg_6_6 _ h0.1 h0.2).1.2)) (Or.inl (xtg_6_7 _ h0.1 h0.2).1.2)) (Or.inl (xtg_6_8 _ h0.1 h0.2).1.2)) (Or.inl (xtg_6_9 _ h0.1 h0.2).1.2))

theorem s48_103 {X : List Int32} {d : Nat} {F F' : XF} {r : Option Value} {o0 : Nat} {o1 : Nat} {x2 : Int} {x3 : Int} (hPT : xPT F) (h0 : xob 6 o0) (h1 : xob 9 o1) (t : inR (x3) ∧ inR ((F) (o1) 4) ∧ (((((F) (o1) 4) ≤ (x3)) → (xPT (F) → r = none ∧ F' = (F))) ∧ (¬ (((F) (o1) 4) ≤ (x3)) → ((0 ≤ (x3) ∧ (x3) < 10) ∧ ((0 ≤ (x3) ∧ (x3) < 10) ∧ (∃ (j2 : Nat) (G2 : XF), j2 < d ∧ xM X j2 68 [.ref (o0 + 12 + 6 + (x3).toNat)] (xup (F) (o0 + 11) (x3).toNat (0)) none G2 ∧ xPT G2 ∧ (xPT (G2) → xE X d 48 103 [.ref (o0), .ref (o1), vi (x2), vi (x3 + 1)] [] (G2) r F'))))))) : xE X d 48 103 [.ref (o0), .ref (o1), vi (x2), vi (x3)] [] F r F' := by
  refine xr_iload_n (n := 104) (show xlook 48 103 = some (103, .iload_n 3, 1, 0, 0, 0, 0) from xlk (by decide +kernel)) rfl rfl ?_
  refine xr_aload_n (n := 105) (show xlook 48 104 = some (104, .aload_n 1, 1, 0, 0, 0, 0) from xlk (by decide +kernel)) rfl rfl ?_
  refine xr_geti (show xlook 48 105 = some (105, .getfield 86, 3, 9, 4, 0, 91) from xlk (by decide +kernel)) (by decide) (xobf h1 (by decide) (by decide)) rfl (n := 108) rfl ?_
  obtain ⟨q0, q1, t⟩ := t
  refine xr_icmp_ge (n := 111) (m := 133) (show xlook 48 108 = some (108, .if_icmp .ge 25, 3, 133, 0, 0, 0) from xlk (by decide +kernel)) rfl rfl q0 q1 ⟨fun c => ?_, fun c => ?_⟩
  · replace t := t.1 c
    obtain ⟨e1, e2⟩ := t hPT
    subst e1
    subst e2
    exact xr_return (show xlook 48 133 = some (133, .return_, 1, 0, 0, 0, 0) from xlk (by decide +kernel)) rfl
  · replace t := t.2 c
    refine xr_aload_n (n := 112) (show xlook 48 111 = some (111, .aload_n 0, 1, 0, 0, 0, 0) from xlk (by decide +kernel)) rfl rfl ?_
    refine xr_getr (q := o0 + 11) (show xlook 48 112 = some (112, .getfield 31, 3, 6, 10, 0, 79) from xlk (by decide +kernel)) (by decide) (xobf h0 (by decide) (by decide)) rfl (xPT_get hPT h0 (by decide)) (by have := (xtg_6_10 _ h0.1 h0.2).1.1; omega) (n := 115) rfl ?_
    refine xr_iload_n (n := 116) (show xlook 48 115 = some (115, .iload_n 3, 1, 0, 0, 0, 0) from xlk (by decide +kernel)) rfl rfl ?_
    refine xr_iconst (n := 117) (show xlook 48 116 = some (116, .iconst 0, 1, 0, 0, 0, 0) from xlk (by decide +kernel)) rfl ?_
    obtain ⟨q1, t⟩ := t
    refine xr_iast (show xlook 48 117 = some (117, .iastore, 1, 0, 0, 0, 0) from xlk (by decide +kernel)) (xtg_6_10 _ h0.1 h0.2).1 (by rw [(xtg_6_10 _ h0.1 h0.2).2]; exact q1) (n := 118) rfl ?_
    refine xr_aload_n (n := 119) (show xlook 48 118 = some (118, .aload_n 0, 1, 0, 0, 0, 0) from xlk (by decide +kernel)) rfl rfl ?_
    refine xr_getr (q := o0 + 12) (show xlook 48 119 = some (119, .getfield 36, 3, 6, 11, 0, 80) from xlk (by decide +kernel)) (by decide) (xobf h0 (by decide) (by decide)) rfl (xPT_get (xPT_arr hPT (Or.inl (xtg_6_10 _ h0.1 h0.2).1.2)) h0 (by decide)) (by have := (xtg_6_11 _ h0.1 h0.2).1.1; omega) (n := 122) rfl ?_
    refine xr_iload_n (n := 123) (show xlook 48 122 = some (122, .iload_n 3, 1, 0, 0, 0, 0) from xlk (by decide +kernel)) rfl rfl ?_
    obtain ⟨q1, t⟩ := t
    have hb1 : xob 8 (o0 + 12 + 6 + (x3).toNat) := xel16 _ (xtg_6_11 _ h0.1 h0.2).1.1 (xtg_6_11 _ h0.1 h0.2).1.2 _ (by omega)
    refine xr_aald (q := o0 + 12 + 6 + (x3).toNat) (show xlook 48 123 = some (123, .aaload, 1, 0, 0, 0, 0) from xlk (by decide +kernel)) ⟨(xtg_6_11 _ h0.1 h0.2).1.1, (Or.inr (xtg_6_11 _ h0.1 h0.2).1.2)⟩ (by rw [xln15 _ (xtg_6_11 _ h0.1 h0.2).1.1 (Or.inr (xtg_6_11 _ h0.1 h0.2).1.2)]; exact q1) (xPT_el (xPT_arr hPT (Or.inl (xtg_6_10 _ h0.1 h0.2).1.2)) (Or.inr (xtg_6_11 _ h0.1 h0.2).1) q1.1 q1.2) (by have := hb1.1; omega) (n := 124) rfl ?_
    obtain ⟨j2, G2, hj2, hm2, hG2, t⟩ := t
    refine xr_callv (dk := j2) (o := o0 + 12 + 6 + (x3).toNat) (as := []) (show xlook 48 124 = some (124, .invokevirtual 89, 3, 68, 1, 0, 55) from xlk (by decide +kernel)) (by decide) hj2 ⟨Nat.le_of_ble_eq_true rfl, Nat.le_of_ble_eq_true rfl, Nat.le_of_ble_eq_true rfl⟩ ⟨hb1.1, hb1.2, by decide⟩ rfl hm2 (n := 127) rfl ?_
    show xE X d 48 127 [.ref (o0), .ref (o1), vi (x2), vi (x3)] [] G2 r F'
    refine xr_iinc (n := 130) (show xlook 48 127 = some (127, .iinc 3 1, 3, 0, 0, 0, 0) from xlk (by decide +kernel)) rfl (ls' := [.ref (o0), .ref (o1), vi (x2), vi (x3 + 1)]) rfl rfl ?_
    refine xr_goto (m := 103) (show xlook 48 130 = some (130, .goto (-27), 3, 103, 0, 0, 0) from xlk (by decide +kernel)) rfl ?_
    exact t hG2

theorem s49_0 {X : List Int32} {d : Nat} {F F' : XF} {r : Option Value} {o0 : Nat} {x1 : Int} (hPT : xPT F) (h0 : xob 6 o0) (t : (0 ≤ (x1) ∧ (x1) < 30) ∧ (∃ t1 : Nat, (F) (o0) 0 = (t1 : Int) ∧ xob 9 t1 ∧ ((0 ≤ (x1) ∧ (x1) < 30) ∧ (xPT (F) → r = some (vi (((F) (o0 + 7) (x1).toNat) - ((F) (t1 + 2) (x1).toNat))) ∧ F' = (F))))) : xE X d 49 0 [.ref (o0), vi (x1)] [] F r F' := by
  refine xr_aload_n (n := 1) (show xlook 49 0 = some (0, .aload_n 0, 1, 0, 0, 0, 0) from xlk (by decide +kernel)) rfl rfl ?_
  refine xr_getr (q := o0 + 7) (show xlook 49 1 = some (1, .getfield 18, 3, 6, 6, 0, 75) from xlk (by decide +kernel)) (by decide) (xobf h0 (by decide) (by decide)) rfl (xPT_get hPT h0 (by decide)) (by have := (xtg_6_6 _ h0.1 h0.2).1.1; omega) (n := 4) rfl ?_
  refine xr_iload_n (n := 5) (show xlook 49 4 = some (4, .iload_n 1, 1, 0, 0, 0, 0) from xlk (by decide +kernel)) rfl rfl ?_
  obtain ⟨q1, t⟩ := t
  refine xr_iald (show xlook 49 5 = some (5, .iaload, 1, 0, 0, 0, 0) from xlk (by decide +kernel)) (xtg_6_6 _ h0.1 h0.2).1 (by rw [(xtg_6_6 _ h0.1 h0.2).2]; exact q1) (n := 6) rfl ?_
  refine xr_aload_n (n := 7) (show xlook 49 6 = some (6, .aload_n 0, 1, 0, 0, 0, 0) from xlk (by decide +kernel)) rfl rfl ?_
  obtain ⟨t1, q1, ht1, t⟩ := t
  refine xr_getr (q := t1) (show xlook 49 7 = some (7, .getfield 40, 3, 6, 0, 0, 81) from xlk (by decide +kernel)) (by decide) (xobf h0 (by decide) (by decide)) rfl q1 (by have := ht1.1; omega) (n := 10) rfl ?_
  refine xr_getr (q := t1 + 2) (show xlook 49 10 = some (10, .getfield 80, 3, 9, 7, 0, 89) from xlk (by decide +kernel)) (by decide) (xobf ht1 (by decide) (by decide)) rfl (xPT_get hPT ht1 (by decide)) (by have := (xtg_9_7 _ ht1.1 ht1.2).1.1; omega) (n := 13) rfl ?_
  refine xr_iload_n (n := 14) (show xlook 49 13 = some (13, .iload_n 1, 1, 0, 0, 0, 0) from xlk (by decide +kernel)) rfl rfl ?_
  obtain ⟨q1, t⟩ := t
  refine xr_iald (show xlook 49 14 = some (14, .iaload, 1, 0, 0, 0, 0) from xlk (by decide +kernel)) (xtg_9_7 _ ht1.1 ht1.2).1 (by rw [(xtg_9_7 _ ht1.1 ht1.2).2]; exact q1) (n := 15) rfl ?_
  refine xr_isub (n := 16) (show xlook 49 15 = some (15, .isub, 1, 0, 0, 0, 0) from xlk (by decide +kernel)) rfl ?_
  obtain ⟨e1, e2⟩ := t hPT
  subst e1
  subst e2
  exact xr_ireturn (show xlook 49 16 = some (16, .ireturn, 1, 0, 0, 0, 0) from xlk (by decide +kernel)) rfl
theorem m49 {X : List Int32} {d : Nat} {F F' : XF} {r : Option Value} {o0 : Nat} {x1 : Int} (hPT : xPT F) (h0 : xob 6 o0) (t : (0 ≤ (x1) ∧ (x1) < 30) ∧ (∃ t1 : Nat, (F) (o0) 0 = (t1 : Int) ∧ xob 9 t1 ∧ ((0 ≤ (x1) ∧ (x1) < 30) ∧ (xPT (F) → r = some (vi (((F) (o0 + 7) (x1).toNat) - ((F) (t1 + 2) (x1).toNat))) ∧ F' = (F))))) : xM X d 49 [.ref (o0), vi (x1)] F r F' := by
  show xE X d 49 0 [.ref (o0), vi (x1)] [] F r F'
  exact s49_0 hPT h0 t

theorem s50_0 {X : List Int32} {d : Nat} {F F' : XF} {r : Option Value} {o0 : Nat} {x1 : Int} (hPT : xPT F) (h0 : xob 6 o0) (t : (0 ≤ (x1) ∧ (x1) < 10) ∧ (inR ((F) (o0 + 11) (x1).toNat) ∧ (((((F) (o0 + 11) (x1).toNat) ≤ (0)) → (xPT (F) → r = some (vi (0)) ∧ F' = (F))) ∧ (¬ (((F) (o0 + 11) (x1).toNat) ≤ (0)) → (xPT (F) → r = some (vi (1)) ∧ F' = (F)))))) : xE X d 50 0 [.ref (o0), vi (x1)] [] F r F' := by
  refine xr_aload_n (n := 1) (show xlook 50 0 = some (0, .aload_n 0, 1, 0, 0, 0, 0) from xlk (by decide +kernel)) rfl rfl ?_
  refine xr_getr (q := o0 + 11) (show xlook 50 1 = some (1, .getfield 31, 3, 6, 10, 0, 79) from xlk (by decide +kernel)) (by decide) (xobf h0 (by decide) (by decide)) rfl (xPT_get hPT h0 (by decide)) (by have := (xtg_6_10 _ h0.1 h0.2).1.1; omega) (n := 4) rfl ?_
  refine xr_iload_n (n := 5) (show xlook 50 4 = some (4, .iload_n 1, 1, 0, 0, 0, 0) from xlk (by decide +kernel)) rfl rfl ?_
  obtain ⟨q1, t⟩ := t
  refine xr_iald (show xlook 50 5 = some (5, .iaload, 1, 0, 0, 0, 0) from xlk (by decide +kernel)) (xtg_6_10 _ h0.1 h0.2).1 (by rw [(xtg_6_10 _ h0.1 h0.2).2]; exact q1) (n := 6) rfl ?_
  obtain ⟨q0, t⟩ := t
  refine xr_if_le (n := 9) (m := 13) (show xlook 50 6 = some (6, .ifCond .le 7, 3, 13, 0, 0, 0) from xlk (by decide +kernel)) rfl rfl q0 ⟨fun c => ?_, fun c => ?_⟩
  · replace t := t.1 c
    refine xr_iconst (n := 14) (show xlook 50 13 = some (13, .iconst 0, 1, 0, 0, 0, 0) from xlk (by decide +kernel)) rfl ?_
    obtain ⟨e1, e2⟩ := t hPT
    subst e1
    subst e2
    exact xr_zreturn (show xlook 50 14 = some (14, .ireturn, 1, 0, 0, 0, 0) from xlk (by decide +kernel)) rfl (by decide)
  · replace t := t.2 c
    refine xr_iconst (n := 10) (show xlook 50 9 = some (9, .iconst 1, 1, 0, 0, 0, 0) from xlk (by decide +kernel)) rfl ?_
    refine xr_goto (m := 14) (show xlook 50 10 = some (10, .goto 4, 3, 14, 0, 0, 0) from xlk (by decide +kernel)) rfl ?_
    obtain ⟨e1, e2⟩ := t hPT
    subst e1
    subst e2
    exact xr_zreturn (show xlook 50 14 = some (14, .ireturn, 1, 0, 0, 0, 0) from xlk (by decide +kernel)) rfl (by decide)
theorem m50 {X : List Int32} {d : Nat} {F F' : XF} {r : Option Value} {o0 : Nat} {x1 : Int} (hPT : xPT F) (h0 : xob 6 o0) (t : (0 ≤ (x1) ∧ (x1) < 10) ∧ (inR ((F) (o0 + 11) (x1).toNat) ∧ (((((F) (o0 + 11) (x1).toNat) ≤ (0)) → (xPT (F) → r = some (vi (0)) ∧ F' = (F))) ∧ (¬ (((F) (o0 + 11) (x1).toNat) ≤ (0)) → (xPT (F) → r = some (vi (1)) ∧ F' = (F)))))) : xM X d 50 [.ref (o0), vi (x1)] F r F' := by
  show xE X d 50 0 [.ref (o0), vi (x1)] [] F r F'
  exact s50_0 hPT h0 t

theorem s51_0 {X : List Int32} {d : Nat} {F F' : XF} {r : Option Value} {o0 : Nat} {x1 : Int} {w2 : Value} {w3 : Value} {w4 : Value} (hPT : xPT F) (h0 : xob 6 o0) (t : ∃ t1 : Nat, (F) (o0) 0 = (t1 : Int) ∧ xob 9 t1 ∧ ((0 ≤ (x1) ∧ (x1) < 10) ∧ (xPT (F) → xE X d 51 12 [.ref (o0), vi (x1), .ref (t1 + 1 + 6 + (x1).toNat), vi (0), w4] [] (F) r F'))) : xE X d 51 0 [.ref (o0), vi (x1), w2, w3, w4] [] F r F' := by
  refine xr_aload_n (n := 1) (show xlook 51 0 = some (0, .aload_n 0, 1, 0, 0, 0, 0) from xlk (by decide +kernel)) rfl rfl ?_
  obtain ⟨t1, q1, ht1, t⟩ := t
  refine xr_getr (q := t1) (show xlook 51 1 = some (1, .getfield 40, 3, 6, 0, 0, 81) from xlk (by decide +kernel)) (by decide) (xobf h0 (by decide) (by decide)) rfl q1 (by have := ht1.1; omega) (n := 4) rfl ?_
  refine xr_getr (q := t1 + 1) (show xlook 51 4 = some (4, .getfield 92, 3, 9, 5, 0, 92) from xlk (by decide +kernel)) (by decide) (xobf ht1 (by decide) (by decide)) rfl (xPT_get hPT ht1 (by decide)) (by have := (xtg_9_5 _ ht1.1 ht1.2).1.1; omega) (n := 7) rfl ?_
  refine xr_iload_n (n := 8) (show xlook 51 7 = some (7, .iload_n 1, 1, 0, 0, 0, 0) from xlk (by decide +kernel)) rfl rfl ?_
  obtain ⟨q1, t⟩ := t
  have hb2 : xob 1 (t1 + 1 + 6 + (x1).toNat) := xel15 _ (xtg_9_5 _ ht1.1 ht1.2).1.1 (xtg_9_5 _ ht1.1 ht1.2).1.2 _ (by omega)
  refine xr_aald (q := t1 + 1 + 6 + (x1).toNat) (show xlook 51 8 = some (8, .aaload, 1, 0, 0, 0, 0) from xlk (by decide +kernel)) ⟨(xtg_9_5 _ ht1.1 ht1.2).1.1, (Or.inl (xtg_9_5 _ ht1.1 ht1.2).1.2)⟩ (by rw [xln15 _ (xtg_9_5 _ ht1.1 ht1.2).1.1 (Or.inl (xtg_9_5 _ ht1.1 ht1.2).1.2)]; exact q1) (xPT_el hPT (Or.inl (xtg_9_5 _ ht1.1 ht1.2).1) q1.1 q1.2) (by have := hb2.1; omega) (n := 9) rfl ?_
  refine xr_astore_n (n := 10) (show xlook 51 9 = some (9, .astore_n 2, 1, 0, 0, 0, 0) from xlk (by decide +kernel)) rfl (ls' := [.ref (o0), vi (x1), .ref (t1 + 1 + 6 + (x1).toNat), w3, w4]) (Nat.le_of_ble_eq_true rfl) rfl ?_
  refine xr_iconst (n := 11) (show xlook 51 10 = some (10, .iconst 0, 1, 0, 0, 0, 0) from xlk (by decide +kernel)) rfl ?_
  refine xr_istore_n (n := 12) (show xlook 51 11 = some (11, .istore_n 3, 1, 0, 0, 0, 0) from xlk (by decide +kernel)) rfl (ls' := [.ref (o0), vi (x1), .ref (t1 + 1 + 6 + (x1).toNat), vi (0), w4]) (Nat.le_of_ble_eq_true rfl) rfl ?_
  exact t hPT
theorem m51 {X : List Int32} {d : Nat} {F F' : XF} {r : Option Value} {o0 : Nat} {x1 : Int} (hPT : xPT F) (h0 : xob 6 o0) (t : ∃ t1 : Nat, (F) (o0) 0 = (t1 : Int) ∧ xob 9 t1 ∧ ((0 ≤ (x1) ∧ (x1) < 10) ∧ (xPT (F) → xE X d 51 12 [.ref (o0), vi (x1), .ref (t1 + 1 + 6 + (x1).toNat), vi (0), xU0] [] (F) r F'))) : xM X d 51 [.ref (o0), vi (x1)] F r F' := by
  show xE X d 51 0 [.ref (o0), vi (x1), xU0, xU0, xU0] [] F r F'
  exact s51_0 hPT h0 t

theorem s51_12 {X : List Int32} {d : Nat} {F F' : XF} {r : Option Value} {o0 : Nat} {x1 : Int} {o2 : Nat} {x3 : Int} {w4 : Value} (hPT : xPT F) (h0 : xob 6 o0) (h2 : xob 1 o2) (t : inR (x3) ∧ inR ((F) (o0 + 1) 0) ∧ (((((F) (o0 + 1) 0) ≤ (x3)) → (xPT (F) → r = some (vi ((-1))) ∧ F' = (F))) ∧ (¬ (((F) (o0 + 1) 0) ≤ (x3)) → ((0 ≤ (x3) ∧ (x3) < 30) ∧ ((0 ≤ ((F) (o0 + 1 + 1) (x3).toNat) ∧ ((F) (o0 + 1 + 1) (x3).toNat) < 30) ∧ (inR ((F) (o0 + 7) ((F) (o0 + 1 + 1) (x3).toNat).toNat) ∧ inR ((F) (o2) 0) ∧ (((((F) (o0 + 7) ((F) (o0 + 1 + 1) (x3).toNat).toNat) ≤ ((F) (o2) 0)) → ((((0) = (0)) → (xPT (F) → xE X d 51 12 [.ref (o0), vi (x1), .ref (o2), vi (x3 + 1), vi (0)] [] (F) r F')) ∧ (¬ ((0) = (0)) → ((0 ≤ (x3) ∧ (x3) < 30) ∧ (∃ (j1 : Nat) (y1 : Int) (G1 : XF), j1 < d ∧ xM X j1 49 [.ref (o0), vi ((F) (o0 + 1 + 2) (x3).toNat)] (F) (some (vi y1)) G1 ∧ xPT G1 ∧ (inR (y1) ∧ inR ((G1) (o2) 1) ∧ (((((G1) (o2) 1) ≤ (y1)) → (xPT (G1) → xE X d 51 12 [.ref (o0), vi (x1), .ref (o2), vi (x3 + 1), vi (0)] [] (G1) r F')) ∧ (¬ (((G1) (o2) 1) ≤ (y1)) → (xPT (G1) → r = some (vi (x3)) ∧ F' = (G1)))))))))) ∧ (¬ (((F) (o0 + 7) ((F) (o0 + 1 + 1) (x3).toNat).toNat) ≤ ((F) (o2) 0)) → ((((1) = (0)) → (xPT (F) → xE X d 51 12 [.ref (o0), vi (x1), .ref (o2), vi (x3 + 1), vi (1)] [] (F) r F')) ∧ (¬ ((1) = (0)) → ((0 ≤ (x3) ∧ (x3) < 30) ∧ (∃ (j2 : Nat) (y2 : Int) (G2 : XF), j2 < d ∧ xM X j2 49 [.ref (o0), vi ((F) (o0 + 1 + 2) (x3).toNat)] (F) (some (vi y2)) G2 ∧ xPT G2 ∧ (inR (y2) ∧ inR ((G2) (o2) 1) ∧ (((((G2) (o2) 1) ≤ (y2)) → (xPT (G2) → xE X d 51 12 [.ref (o0), vi (x1), .ref (o2), vi (x3 + 1), vi (1)] [] (G2) r F')) ∧ (¬ (((G2) (o2) 1) ≤ (y2)) → (xPT (G2) → r = some (vi (x3)) ∧ F' = (G2))))))))))))))))) : xE X d 51 12 [.ref (o0), vi (x1), .ref (o2), vi (x3), w4] [] F r F' := by
  refine xr_iload_n (n := 13) (show xlook 51 12 = some (12, .iload_n 3, 1, 0, 0, 0, 0) from xlk (by decide +kernel)) rfl rfl ?_
  refine xr_aload_n (n := 14) (show xlook 51 13 = some (13, .aload_n 0, 1, 0, 0, 0, 0) from xlk (by decide +kernel)) rfl rfl ?_
  refine xr_getr (q := o0 + 1) (show xlook 51 14 = some (14, .getfield 12, 3, 6, 1, 0, 74) from xlk (by decide +kernel)) (by decide) (xobf h0 (by decide) (by decide)) rfl (xPT_get hPT h0 (by decide)) (by have := (xtg_6_1 _ h0.1 h0.2).1; omega) (n := 17) rfl ?_
  refine xr_geti (show xlook 51 17 = some (17, .getfield 96, 3, 7, 0, 0, 93) from xlk (by decide +kernel)) (by decide) (xobf (xtg_6_1 _ h0.1 h0.2) (by decide) (by decide)) rfl (n := 20) rfl ?_
  obtain ⟨q0, q1, t⟩ := t
  refine xr_icmp_ge (n := 23) (m := 84) (show xlook 51 20 = some (20, .if_icmp .ge 64, 3, 84, 0, 0, 0) from xlk (by decide +kernel)) rfl rfl q0 q1 ⟨fun c => ?_, fun c => ?_⟩
  · replace t := t.1 c
    refine xr_iconst (n := 85) (show xlook 51 84 = some (84, .iconst (-1), 1, 0, 0, 0, 0) from xlk (by decide +kernel)) rfl ?_
    obtain ⟨e1, e2⟩ := t hPT
    subst e1
    subst e2
    exact xr_ireturn (show xlook 51 85 = some (85, .ireturn, 1, 0, 0, 0, 0) from xlk (by decide +kernel)) rfl
  · replace t := t.2 c
    refine xr_aload_n (n := 24) (show xlook 51 23 = some (23, .aload_n 0, 1, 0, 0, 0, 0) from xlk (by decide +kernel)) rfl rfl ?_
    refine xr_getr (q := o0 + 7) (show xlook 51 24 = some (24, .getfield 18, 3, 6, 6, 0, 75) from xlk (by decide +kernel)) (by decide) (xobf h0 (by decide) (by decide)) rfl (xPT_get hPT h0 (by decide)) (by have := (xtg_6_6 _ h0.1 h0.2).1.1; omega) (n := 27) rfl ?_
    refine xr_aload_n (n := 28) (show xlook 51 27 = some (27, .aload_n 0, 1, 0, 0, 0, 0) from xlk (by decide +kernel)) rfl rfl ?_
    refine xr_getr (q := o0 + 1) (show xlook 51 28 = some (28, .getfield 12, 3, 6, 1, 0, 74) from xlk (by decide +kernel)) (by decide) (xobf h0 (by decide) (by decide)) rfl (xPT_get hPT h0 (by decide)) (by have := (xtg_6_1 _ h0.1 h0.2).1; omega) (n := 31) rfl ?_
    refine xr_getr (q := o0 + 1 + 1) (show xlook 51 31 = some (31, .getfield 97, 3, 7, 1, 0, 94) from xlk (by decide +kernel)) (by decide) (xobf (xtg_6_1 _ h0.1 h0.2) (by decide) (by decide)) rfl (xPT_get hPT (xtg_6_1 _ h0.1 h0.2) (by decide)) (by have := (xtg_7_1 _ (xtg_6_1 _ h0.1 h0.2).1 (xtg_6_1 _ h0.1 h0.2).2).1.1; omega) (n := 34) rfl ?_
    refine xr_iload_n (n := 35) (show xlook 51 34 = some (34, .iload_n 3, 1, 0, 0, 0, 0) from xlk (by decide +kernel)) rfl rfl ?_
    obtain ⟨q1, t⟩ := t
    refine xr_iald (show xlook 51 35 = some (35, .iaload, 1, 0, 0, 0, 0) from xlk (by decide +kernel)) (xtg_7_1 _ (xtg_6_1 _ h0.1 h0.2).1 (xtg_6_1 _ h0.1 h0.2).2).1 (by rw [(xtg_7_1 _ (xtg_6_1 _ h0.1 h0.2).1 (xtg_6_1 _ h0.1 h0.2).2).2]; exact q1) (n := 36) rfl ?_
    obtain ⟨q1, t⟩ := t
    refine xr_iald (show xlook 51 36 = some (36, .iaload, 1, 0, 0, 0, 0) from xlk (by decide +kernel)) (xtg_6_6 _ h0.1 h0.2).1 (by rw [(xtg_6_6 _ h0.1 h0.2).2]; exact q1) (n := 37) rfl ?_
    refine xr_aload_n (n := 38) (show xlook 51 37 = some (37, .aload_n 2, 1, 0, 0, 0, 0) from xlk (by decide +kernel)) rfl rfl ?_
    refine xr_geti (show xlook 51 38 = some (38, .getfield 100, 3, 1, 0, 0, 95) from xlk (by decide +kernel)) (by decide) (xobf h2 (by decide) (by decide)) rfl (n := 41) rfl ?_
    obtain ⟨q0, q1, t⟩ := t
    refine xr_icmp_le (n := 44) (m := 48) (show xlook 51 41 = some (41, .if_icmp .le 7, 3, 48, 0, 0, 0) from xlk (by decide +kernel)) rfl rfl q0 q1 ⟨fun c => ?_, fun c => ?_⟩
    · replace t := t.1 c
      refine xr_iconst (n := 49) (show xlook 51 48 = some (48, .iconst 0, 1, 0, 0, 0, 0) from xlk (by decide +kernel)) rfl ?_
      refine xr_istore (n := 51) (show xlook 51 49 = some (49, .istore 4, 2, 0, 0, 0, 0) from xlk (by decide +kernel)) rfl (ls' := [.ref (o0), vi (x1), .ref (o2), vi (x3), vi (0)]) (Nat.le_of_ble_eq_true rfl) rfl ?_
      refine xr_iload (n := 53) (show xlook 51 51 = some (51, .iload 4, 2, 0, 0, 0, 0) from xlk (by decide +kernel)) rfl rfl ?_
      refine xr_if_eq (n := 56) (m := 78) (show xlook 51 53 = some (53, .ifCond .eq 25, 3, 78, 0, 0, 0) from xlk (by decide +kernel)) rfl rfl ⟨by decide, by decide⟩ ⟨fun c => ?_, fun c => ?_⟩
      · replace t := t.1 c
        refine xr_iinc (n := 81) (show xlook 51 78 = some (78, .iinc 3 1, 3, 0, 0, 0, 0) from xlk (by decide +kernel)) rfl (ls' := [.ref (o0), vi (x1), .ref (o2), vi (x3 + 1), vi (0)]) rfl rfl ?_
        refine xr_goto (m := 12) (show xlook 51 81 = some (81, .goto (-69), 3, 12, 0, 0, 0) from xlk (by decide +kernel)) rfl ?_
        exact t hPT
      · replace t := t.2 c
        refine xr_aload_n (n := 57) (show xlook 51 56 = some (56, .aload_n 0, 1, 0, 0, 0, 0) from xlk (by decide +kernel)) rfl rfl ?_
        refine xr_aload_n (n := 58) (show xlook 51 57 = some (57, .aload_n 0, 1, 0, 0, 0, 0) from xlk (by decide +kernel)) rfl rfl ?_
        refine xr_getr (q := o0 + 1) (show xlook 51 58 = some (58, .getfield 12, 3, 6, 1, 0, 74) from xlk (by decide +kernel)) (by decide) (xobf h0 (by decide) (by decide)) rfl (xPT_get hPT h0 (by decide)) (by have := (xtg_6_1 _ h0.1 h0.2).1; omega) (n := 61) rfl ?_
        refine xr_getr (q := o0 + 1 + 2) (show xlook 51 61 = some (61, .getfield 105, 3, 7, 2, 0, 96) from xlk (by decide +kernel)) (by decide) (xobf (xtg_6_1 _ h0.1 h0.2) (by decide) (by decide)) rfl (xPT_get hPT (xtg_6_1 _ h0.1 h0.2) (by decide)) (by have := (xtg_7_2 _ (xtg_6_1 _ h0.1 h0.2).1 (xtg_6_1 _ h0.1 h0.2).2).1.1; omega) (n := 64) rfl ?_
        refine xr_iload_n (n := 65) (show xlook 51 64 = some (64, .iload_n 3, 1, 0, 0, 0, 0) from xlk (by decide +kernel)) rfl rfl ?_
        obtain ⟨q1, t⟩ := t
        refine xr_iald (show xlook 51 65 = some (65, .iaload, 1, 0, 0, 0, 0) from xlk (by decide +kernel)) (xtg_7_2 _ (xtg_6_1 _ h0.1 h0.2).1 (xtg_6_1 _ h0.1 h0.2).2).1 (by rw [(xtg_7_2 _ (xtg_6_1 _ h0.1 h0.2).1 (xtg_6_1 _ h0.1 h0.2).2).2]; exact q1) (n := 66) rfl ?_
        obtain ⟨j1, y1, G1, hj1, hm1, hG1, t⟩ := t
        refine xr_callv (dk := j1) (o := o0) (as := [vi ((F) (o0 + 1 + 2) (x3).toNat)]) (show xlook 51 66 = some (66, .invokevirtual 108, 3, 49, 2, 0, 56) from xlk (by decide +kernel)) (by decide) hj1 ⟨Nat.le_of_ble_eq_true rfl, Nat.le_of_ble_eq_true rfl, Nat.le_of_ble_eq_true rfl⟩ ⟨h0.1, h0.2, by decide⟩ rfl hm1 (n := 69) rfl ?_
        show xE X d 51 69 [.ref (o0), vi (x1), .ref (o2), vi (x3), vi (0)] [vi (y1)] G1 r F'
        refine xr_aload_n (n := 70) (show xlook 51 69 = some (69, .aload_n 2, 1, 0, 0, 0, 0) from xlk (by decide +kernel)) rfl rfl ?_
        refine xr_geti (show xlook 51 70 = some (70, .getfield 112, 3, 1, 1, 0, 97) from xlk (by decide +kernel)) (by decide) (xobf h2 (by decide) (by decide)) rfl (n := 73) rfl ?_
        obtain ⟨q0, q1, t⟩ := t
        refine xr_icmp_ge (n := 76) (m := 78) (show xlook 51 73 = some (73, .if_icmp .ge 5, 3, 78, 0, 0, 0) from xlk (by decide +kernel)) rfl rfl q0 q1 ⟨fun c => ?_, fun c => ?_⟩
        · replace t := t.1 c
          refine xr_iinc (n := 81) (show xlook 51 78 = some (78, .iinc 3 1, 3, 0, 0, 0, 0) from xlk (by decide +kernel)) rfl (ls' := [.ref (o0), vi (x1), .ref (o2), vi (x3 + 1), vi (0)]) rfl rfl ?_
          refine xr_goto (m := 12) (show xlook 51 81 = some (81, .goto (-69), 3, 12, 0, 0, 0) from xlk (by decide +kernel)) rfl ?_
          exact t hG1
        · replace t := t.2 c
          refine xr_iload_n (n := 77) (show xlook 51 76 = some (76, .iload_n 3, 1, 0, 0, 0, 0) from xlk (by decide +kernel)) rfl rfl ?_
          obtain ⟨e1, e2⟩ := t hG1
          subst e1
          subst e2
          exact xr_ireturn (show xlook 51 77 = some (77, .ireturn, 1, 0, 0, 0, 0) from xlk (by decide +kernel)) rfl
    · replace t := t.2 c
      refine xr_iconst (n := 45) (show xlook 51 44 = some (44, .iconst 1, 1, 0, 0, 0, 0) from xlk (by decide +kernel)) rfl ?_
      refine xr_goto (m := 49) (show xlook 51 45 = some (45, .goto 4, 3, 49, 0, 0, 0) from xlk (by decide +kernel)) rfl ?_
      refine xr_istore (n := 51) (show xlook 51 49 = some (49, .istore 4, 2, 0, 0, 0, 0) from xlk (by decide +kernel)) rfl (ls' := [.ref (o0), vi (x1), .ref (o2), vi (x3), vi (1)]) (Nat.le_of_ble_eq_true rfl) rfl ?_
      refine xr_iload (n := 53) (show xlook 51 51 = some (51, .iload 4, 2, 0, 0, 0, 0) from xlk (by decide +kernel)) rfl rfl ?_
      refine xr_if_eq (n := 56) (m := 78) (show xlook 51 53 = some (53, .ifCond .eq 25, 3, 78, 0, 0, 0) from xlk (by decide +kernel)) rfl rfl ⟨by decide, by decide⟩ ⟨fun c => ?_, fun c => ?_⟩
      · replace t := t.1 c
        refine xr_iinc (n := 81) (show xlook 51 78 = some (78, .iinc 3 1, 3, 0, 0, 0, 0) from xlk (by decide +kernel)) rfl (ls' := [.ref (o0), vi (x1), .ref (o2), vi (x3 + 1), vi (1)]) rfl rfl ?_
        refine xr_goto (m := 12) (show xlook 51 81 = some (81, .goto (-69), 3, 12, 0, 0, 0) from xlk (by decide +kernel)) rfl ?_
        exact t hPT
      · replace t := t.2 c
        refine xr_aload_n (n := 57) (show xlook 51 56 = some (56, .aload_n 0, 1, 0, 0, 0, 0) from xlk (by decide +kernel)) rfl rfl ?_
        refine xr_aload_n (n := 58) (show xlook 51 57 = some (57, .aload_n 0, 1, 0, 0, 0, 0) from xlk (by decide +kernel)) rfl rfl ?_
        refine xr_getr (q := o0 + 1) (show xlook 51 58 = some (58, .getfield 12, 3, 6, 1, 0, 74) from xlk (by decide +kernel)) (by decide) (xobf h0 (by decide) (by decide)) rfl (xPT_get hPT h0 (by decide)) (by have := (xtg_6_1 _ h0.1 h0.2).1; omega) (n := 61) rfl ?_
        refine xr_getr (q := o0 + 1 + 2) (show xlook 51 61 = some (61, .getfield 105, 3, 7, 2, 0, 96) from xlk (by decide +kernel)) (by decide) (xobf (xtg_6_1 _ h0.1 h0.2) (by decide) (by decide)) rfl (xPT_get hPT (xtg_6_1 _ h0.1 h0.2) (by decide)) (by have := (xtg_7_2 _ (xtg_6_1 _ h0.1 h0.2).1 (xtg_6_1 _ h0.1 h0.2).2).1.1; omega) (n := 64) rfl ?_
        refine xr_iload_n (n := 65) (show xlook 51 64 = some (64, .iload_n 3, 1, 0, 0, 0, 0) from xlk (by decide +kernel)) rfl rfl ?_
        obtain ⟨q1, t⟩ := t
        refine xr_iald (show xlook 51 65 = some (65, .iaload, 1, 0, 0, 0, 0) from xlk (by decide +kernel)) (xtg_7_2 _ (xtg_6_1 _ h0.1 h0.2).1 (xtg_6_1 _ h0.1 h0.2).2).1 (by rw [(xtg_7_2 _ (xtg_6_1 _ h0.1 h0.2).1 (xtg_6_1 _ h0.1 h0.2).2).2]; exact q1) (n := 66) rfl ?_
        obtain ⟨j2, y2, G2, hj2, hm2, hG2, t⟩ := t
        refine xr_callv (dk := j2) (o := o0) (as := [vi ((F) (o0 + 1 + 2) (x3).toNat)]) (show xlook 51 66 = some (66, .invokevirtual 108, 3, 49, 2, 0, 56) from xlk (by decide +kernel)) (by decide) hj2 ⟨Nat.le_of_ble_eq_true rfl, Nat.le_of_ble_eq_true rfl, Nat.le_of_ble_eq_true rfl⟩ ⟨h0.1, h0.2, by decide⟩ rfl hm2 (n := 69) rfl ?_
        show xE X d 51 69 [.ref (o0), vi (x1), .ref (o2), vi (x3), vi (1)] [vi (y2)] G2 r F'
        refine xr_aload_n (n := 70) (show xlook 51 69 = some (69, .aload_n 2, 1, 0, 0, 0, 0) from xlk (by decide +kernel)) rfl rfl ?_
        refine xr_geti (show xlook 51 70 = some (70, .getfield 112, 3, 1, 1, 0, 97) from xlk (by decide +kernel)) (by decide) (xobf h2 (by decide) (by decide)) rfl (n := 73) rfl ?_
        obtain ⟨q0, q1, t⟩ := t
        refine xr_icmp_ge (n := 76) (m := 78) (show xlook 51 73 = some (73, .if_icmp .ge 5, 3, 78, 0, 0, 0) from xlk (by decide +kernel)) rfl rfl q0 q1 ⟨fun c => ?_, fun c => ?_⟩
        · replace t := t.1 c
          refine xr_iinc (n := 81) (show xlook 51 78 = some (78, .iinc 3 1, 3, 0, 0, 0, 0) from xlk (by decide +kernel)) rfl (ls' := [.ref (o0), vi (x1), .ref (o2), vi (x3 + 1), vi (1)]) rfl rfl ?_
          refine xr_goto (m := 12) (show xlook 51 81 = some (81, .goto (-69), 3, 12, 0, 0, 0) from xlk (by decide +kernel)) rfl ?_
          exact t hG2
        · replace t := t.2 c
          refine xr_iload_n (n := 77) (show xlook 51 76 = some (76, .iload_n 3, 1, 0, 0, 0, 0) from xlk (by decide +kernel)) rfl rfl ?_
          obtain ⟨e1, e2⟩ := t hG2
          subst e1
          subst e2
          exact xr_ireturn (show xlook 51 77 = some (77, .ireturn, 1, 0, 0, 0, 0) from xlk (by decide +kernel)) rfl

theorem s52_0 {X : List Int32} {d : Nat} {F F' : XF} {r : Option Value} {o0 : Nat} {w1 : Value} {w2 : Value} (hPT : xPT F) (h0 : xob 6 o0) (t : xPT (F) → xE X d 52 4 [.ref (o0), vi (0), vi (0)] [] (F) r F') : xE X d 52 0 [.ref (o0), w1, w2] [] F r F' := by
  refine xr_iconst (n := 1) (show xlook 52 0 = some (0, .iconst 0, 1, 0, 0, 0, 0) from xlk (by decide +kernel)) rfl ?_
  refine xr_istore_n (n := 2) (show xlook 52 1 = some (1, .istore_n 1, 1, 0, 0, 0, 0) from xlk (by decide +kernel)) rfl (ls' := [.ref (o0), vi (0), w2]) (Nat.le_of_ble_eq_true rfl) rfl ?_
  refine xr_iconst (n := 3) (show xlook 52 2 = some (2, .iconst 0, 1, 0, 0, 0, 0) from xlk (by decide +kernel)) rfl ?_
  refine xr_istore_n (n := 4) (show xlook 52 3 = some (3, .istore_n 2, 1, 0, 0, 0, 0) from xlk (by decide +kernel)) rfl (ls' := [.ref (o0), vi (0), vi (0)]) (Nat.le_of_ble_eq_true rfl) rfl ?_
  exact t hPT
theorem m52 {X : List Int32} {d : Nat} {F F' : XF} {r : Option Value} {o0 : Nat} (hPT : xPT F) (h0 : xob 6 o0) (t : xPT (F) → xE X d 52 4 [.ref (o0), vi (0), vi (0)] [] (F) r F') : xM X d 52 [.ref (o0)] F r F' := by
  show xE X d 52 0 [.ref (o0), xU0, xU0] [] F r F'
  exact s52_0 hPT h0 t

theorem s52_4 {X : List Int32} {d : Nat} {F F' : XF} {r : Option Value} {o0 : Nat} {x1 : Int} {x2 : Int} (hPT : xPT F) (h0 : xob 6 o0) (t : ∃ t1 : Nat, (F) (o0) 0 = (t1 : Int) ∧ xob 9 t1 ∧ (inR (x2) ∧ inR ((F) (t1) 4) ∧ (((((F) (t1) 4) ≤ (x2)) → (xPT (F) → r = some (vi (x1)) ∧ F' = (F))) ∧ (¬ (((F) (t1) 4) ≤ (x2)) → ((0 ≤ (x2) ∧ (x2) < 10) ∧ (xPT (F) → xE X d 52 4 [.ref (o0), vi ((x1) + ((F) (o0 + 12 + 6 + (x2).toNat) 1)), vi (x2 + 1)] [] (F) r F')))))) : xE X d 52 4 [.ref (o0), vi (x1), vi (x2)] [] F r F' := by
  refine xr_iload_n (n := 5) (show xlook 52 4 = some (4, .iload_n 2, 1, 0, 0, 0, 0) from xlk (by decide +kernel)) rfl rfl ?_
  refine xr_aload_n (n := 6) (show xlook 52 5 = some (5, .aload_n 0, 1, 0, 0, 0, 0) from xlk (by decide +kernel)) rfl rfl ?_
  obtain ⟨t1, q1, ht1, t⟩ := t
  refine xr_getr (q := t1) (show xlook 52 6 = some (6, .getfield 40, 3, 6, 0, 0, 81) from xlk (by decide +kernel)) (by decide) (xobf h0 (by decide) (by decide)) rfl q1 (by have := ht1.1; omega) (n := 9) rfl ?_
  refine xr_geti (show xlook 52 9 = some (9, .getfield 86, 3, 9, 4, 0, 91) from xlk (by decide +kernel)) (by decide) (xobf ht1 (by decide) (by decide)) rfl (n := 12) rfl ?_
  obtain ⟨q0, q1, t⟩ := t
  refine xr_icmp_ge (n := 15) (m := 33) (show xlook 52 12 = some (12, .if_icmp .ge 21, 3, 33, 0, 0, 0) from xlk (by decide +kernel)) rfl rfl q0 q1 ⟨fun c => ?_, fun c => ?_⟩
  · replace t := t.1 c
    refine xr_iload_n (n := 34) (show xlook 52 33 = some (33, .iload_n 1, 1, 0, 0, 0, 0) from xlk (by decide +kernel)) rfl rfl ?_
    obtain ⟨e1, e2⟩ := t hPT
    subst e1
    subst e2
    exact xr_ireturn (show xlook 52 34 = some (34, .ireturn, 1, 0, 0, 0, 0) from xlk (by decide +kernel)) rfl
  · replace t := t.2 c
    refine xr_iload_n (n := 16) (show xlook 52 15 = some (15, .iload_n 1, 1, 0, 0, 0, 0) from xlk (by decide +kernel)) rfl rfl ?_
    refine xr_aload_n (n := 17) (show xlook 52 16 = some (16, .aload_n 0, 1, 0, 0, 0, 0) from xlk (by decide +kernel)) rfl rfl ?_
    refine xr_getr (q := o0 + 12) (show xlook 52 17 = some (17, .getfield 36, 3, 6, 11, 0, 80) from xlk (by decide +kernel)) (by decide) (xobf h0 (by decide) (by decide)) rfl (xPT_get hPT h0 (by decide)) (by have := (xtg_6_11 _ h0.1 h0.2).1.1; omega) (n := 20) rfl ?_
    refine xr_iload_n (n := 21) (show xlook 52 20 = some (20, .iload_n 2, 1, 0, 0, 0, 0) from xlk (by decide +kernel)) rfl rfl ?_
    obtain ⟨q1, t⟩ := t
    have hb2 : xob 8 (o0 + 12 + 6 + (x2).toNat) := xel16 _ (xtg_6_11 _ h0.1 h0.2).1.1 (xtg_6_11 _ h0.1 h0.2).1.2 _ (by omega)
    refine xr_aald (q := o0 + 12 + 6 + (x2).toNat) (show xlook 52 21 = some (21, .aaload, 1, 0, 0, 0, 0) from xlk (by decide +kernel)) ⟨(xtg_6_11 _ h0.1 h0.2).1.1, (Or.inr (xtg_6_11 _ h0.1 h0.2).1.2)⟩ (by rw [xln15 _ (xtg_6_11 _ h0.1 h0.2).1.1 (Or.inr (xtg_6_11 _ h0.1 h0.2).1.2)]; exact q1) (xPT_el hPT (Or.inr (xtg_6_11 _ h0.1 h0.2).1) q1.1 q1.2) (by have := hb2.1; omega) (n := 22) rfl ?_
    refine xr_geti (show xlook 52 22 = some (22, .getfield 115, 3, 8, 1, 0, 98) from xlk (by decide +kernel)) (by decide) (xobf hb2 (by decide) (by decide)) rfl (n := 25) rfl ?_
    refine xr_iadd (n := 26) (show xlook 52 25 = some (25, .iadd, 1, 0, 0, 0, 0) from xlk (by decide +kernel)) rfl ?_
    refine xr_istore_n (n := 27) (show xlook 52 26 = some (26, .istore_n 1, 1, 0, 0, 0, 0) from xlk (by decide +kernel)) rfl (ls' := [.ref (o0), vi ((x1) + ((F) (o0 + 12 + 6 + (x2).toNat) 1)), vi (x2)]) (Nat.le_of_ble_eq_true rfl) rfl ?_
    refine xr_iinc (n := 30) (show xlook 52 27 = some (27, .iinc 2 1, 3, 0, 0, 0, 0) from xlk (by decide +kernel)) rfl (ls' := [.ref (o0), vi ((x1) + ((F) (o0 + 12 + 6 + (x2).toNat) 1)), vi (x2 + 1)]) rfl rfl ?_
    refine xr_goto (m := 4) (show xlook 52 30 = some (30, .goto (-26), 3, 4, 0, 0, 0) from xlk (by decide +kernel)) rfl ?_
    exact t hPT

theorem s53_0 {X : List Int32} {d : Nat} {F F' : XF} {r : Option Value} {o0 : Nat} {w1 : Value} (hPT : xPT F) (h0 : xob 6 o0) (t : xPT (F) → xE X d 53 2 [.ref (o0), vi (0)] [] (F) r F') : xE X d 53 0 [.ref (o0), w1] [] F r F' := by
  refine xr_iconst (n := 1) (show xlook 53 0 = some (0, .iconst 0, 1, 0, 0, 0, 0) from xlk (by decide +kernel)) rfl ?_
  refine xr_istore_n (n := 2) (show xlook 53 1 = some (1, .istore_n 1, 1, 0, 0, 0, 0) from xlk (by decide +kernel)) rfl (ls' := [.ref (o0), vi (0)]) (Nat.le_of_ble_eq_true rfl) rfl ?_
  exact t hPT
theorem m53 {X : List Int32} {d : Nat} {F F' : XF} {r : Option Value} {o0 : Nat} (hPT : xPT F) (h0 : xob 6 o0) (t : xPT (F) → xE X d 53 2 [.ref (o0), vi (0)] [] (F) r F') : xM X d 53 [.ref (o0)] F r F' := by
  show xE X d 53 0 [.ref (o0), xU0] [] F r F'
  exact s53_0 hPT h0 t

theorem s53_2 {X : List Int32} {d : Nat} {F F' : XF} {r : Option Value} {o0 : Nat} {x1 : Int} (hPT : xPT F) (h0 : xob 6 o0) (t : ∃ t1 : Nat, (F) (o0) 0 = (t1 : Int) ∧ xob 9 t1 ∧ (inR (x1) ∧ inR ((F) (t1) 4) ∧ (((((F) (t1) 4) ≤ (x1)) → (∃ (j2 : Nat) (G2 : XF), j2 < d ∧ xM X j2 60 [.ref (o0)] (F) none G2 ∧ xPT G2 ∧ (xPT (xup (G2) (o0) 2 (((G2) (o0) 2) + (1))) → r = none ∧ F' = (xup (G2) (o0) 2 (((G2) (o0) 2) + (1)))))) ∧ (¬ (((F) (t1) 4) ≤ (x1)) → ((0 ≤ (x1) ∧ (x1) < 10) ∧ (∃ t4 : Nat, (F) (o0) 0 = (t4 : Int) ∧ xob 9 t4 ∧ ((0 ≤ (x1) ∧ (x1) < 10) ∧ ((0 ≤ (x1) ∧ (x1) < 10) ∧ (inR ((F) (o0 + 11) (x1).toNat) ∧ (((((F) (o0 + 11) (x1).toNat) ≤ (0)) → (∃ (j6 : Nat) (G6 : XF), j6 < d ∧ xM X j6 69 [.ref (o0 + 12 + 6 + (x1).toNat), .ref (t4 + 1 + 6 + (x1).toNat), vi ((F) (o0) 2), vi (0)] (F) none G6 ∧ xPT G6 ∧ (xPT (G6) → xE X d 53 2 [.ref (o0), vi (x1 + 1)] [] (G6) r F'))) ∧ (¬ (((F) (o0 + 11) (x1).toNat) ≤ (0)) → (∃ (j7 : Nat) (G7 : XF), j7 < d ∧ xM X j7 69 [.ref (o0 + 12 + 6 + (x1).toNat), .ref (t4 + 1 + 6 + (x1).toNat), vi ((F) (o0) 2), vi (1)] (F) none G7 ∧ xPT G7 ∧ (xPT (G7) → xE X d 53 2 [.ref (o0), vi (x1 + 1)] [] (G7) r F'))))))))))))) : xE X d 53 2 [.ref (o0), vi (x1)] [] F r F' := by
  refine xr_iload_n (n := 3) (show xlook 53 2 = some (2, .iload_n 1, 1, 0, 0, 0, 0) from xlk (by decide +kernel)) rfl rfl ?_
  refine xr_aload_n (n := 4) (show xlook 53 3 = some (3, .aload_n 0, 1, 0, 0, 0, 0) from xlk (by decide +kernel)) rfl rfl ?_
  obtain ⟨t1, q1, ht1, t⟩ := t
  refine xr_getr (q := t1) (show xlook 53 4 = some (4, .getfield 40, 3, 6, 0, 0, 81) from xlk (by decide +kernel)) (by decide) (xobf h0 (by decide) (by decide)) rfl q1 (by have := ht1.1; omega) (n := 7) rfl ?_
  refine xr_geti (show xlook 53 7 = some (7, .getfield 86, 3, 9, 4, 0, 91) from xlk (by decide +kernel)) (by decide) (xobf ht1 (by decide) (by decide)) rfl (n := 10) rfl ?_
  obtain ⟨q0, q1, t⟩ := t
  refine xr_icmp_ge (n := 13) (m := 55) (show xlook 53 10 = some (10, .if_icmp .ge 45, 3, 55, 0, 0, 0) from xlk (by decide +kernel)) rfl rfl q0 q1 ⟨fun c => ?_, fun c => ?_⟩
  · replace t := t.1 c
    refine xr_aload_n (n := 56) (show xlook 53 55 = some (55, .aload_n 0, 1, 0, 0, 0, 0) from xlk (by decide +kernel)) rfl rfl ?_
    obtain ⟨j2, G2, hj2, hm2, hG2, t⟩ := t
    refine xr_callv (dk := j2) (o := o0) (as := []) (show xlook 53 56 = some (56, .invokevirtual 122, 3, 60, 1, 0, 58) from xlk (by decide +kernel)) (by decide) hj2 ⟨Nat.le_of_ble_eq_true rfl, Nat.le_of_ble_eq_true rfl, Nat.le_of_ble_eq_true rfl⟩ ⟨h0.1, h0.2, by decide⟩ rfl hm2 (n := 59) rfl ?_
    show xE X d 53 59 [.ref (o0), vi (x1)] [] G2 r F'
    refine xr_aload_n (n := 60) (show xlook 53 59 = some (59, .aload_n 0, 1, 0, 0, 0, 0) from xlk (by decide +kernel)) rfl rfl ?_
    refine xr_dupr (n := 61) (show xlook 53 60 = some (60, .dup, 1, 0, 0, 0, 0) from xlk (by decide +kernel)) rfl ?_
    refine xr_geti (show xlook 53 61 = some (61, .getfield 58, 3, 6, 2, 0, 83) from xlk (by decide +kernel)) (by decide) (xobf h0 (by decide) (by decide)) rfl (n := 64) rfl ?_
    refine xr_iconst (n := 65) (show xlook 53 64 = some (64, .iconst 1, 1, 0, 0, 0, 0) from xlk (by decide +kernel)) rfl ?_
    refine xr_iadd (n := 66) (show xlook 53 65 = some (65, .iadd, 1, 0, 0, 0, 0) from xlk (by decide +kernel)) rfl ?_
    refine xr_puti (show xlook 53 66 = some (66, .putfield 58, 3, 6, 2, 0, 83) from xlk (by decide +kernel)) (xobf h0 (by decide) (by decide)) rfl (n := 69) rfl ?_
    obtain ⟨e1, e2⟩ := t (xPT_fld hG2 h0 (by decide) (by decide))
    subst e1
    subst e2
    exact xr_return (show xlook 53 69 = some (69, .return_, 1, 0, 0, 0, 0) from xlk (by decide +kernel)) rfl
  · replace t := t.2 c
    refine xr_aload_n (n := 14) (show xlook 53 13 = some (13, .aload_n 0, 1, 0, 0, 0, 0) from xlk (by decide +kernel)) rfl rfl ?_
    refine xr_getr (q := o0 + 12) (show xlook 53 14 = some (14, .getfield 36, 3, 6, 11, 0, 80) from xlk (by decide +kernel)) (by decide) (xobf h0 (by decide) (by decide)) rfl (xPT_get hPT h0 (by decide)) (by have := (xtg_6_11 _ h0.1 h0.2).1.1; omega) (n := 17) rfl ?_
    refine xr_iload_n (n := 18) (show xlook 53 17 = some (17, .iload_n 1, 1, 0, 0, 0, 0) from xlk (by decide +kernel)) rfl rfl ?_
    obtain ⟨q1, t⟩ := t
    have hb3 : xob 8 (o0 + 12 + 6 + (x1).toNat) := xel16 _ (xtg_6_11 _ h0.1 h0.2).1.1 (xtg_6_11 _ h0.1 h0.2).1.2 _ (by omega)
    refine xr_aald (q := o0 + 12 + 6 + (x1).toNat) (show xlook 53 18 = some (18, .aaload, 1, 0, 0, 0, 0) from xlk (by decide +kernel)) ⟨(xtg_6_11 _ h0.1 h0.2).1.1, (Or.inr (xtg_6_11 _ h0.1 h0.2).1.2)⟩ (by rw [xln15 _ (xtg_6_11 _ h0.1 h0.2).1.1 (Or.inr (xtg_6_11 _ h0.1 h0.2).1.2)]; exact q1) (xPT_el hPT (Or.inr (xtg_6_11 _ h0.1 h0.2).1) q1.1 q1.2) (by have := hb3.1; omega) (n := 19) rfl ?_
    refine xr_aload_n (n := 20) (show xlook 53 19 = some (19, .aload_n 0, 1, 0, 0, 0, 0) from xlk (by decide +kernel)) rfl rfl ?_
    obtain ⟨t4, q1, ht4, t⟩ := t
    refine xr_getr (q := t4) (show xlook 53 20 = some (20, .getfield 40, 3, 6, 0, 0, 81) from xlk (by decide +kernel)) (by decide) (xobf h0 (by decide) (by decide)) rfl q1 (by have := ht4.1; omega) (n := 23) rfl ?_
    refine xr_getr (q := t4 + 1) (show xlook 53 23 = some (23, .getfield 92, 3, 9, 5, 0, 92) from xlk (by decide +kernel)) (by decide) (xobf ht4 (by decide) (by decide)) rfl (xPT_get hPT ht4 (by decide)) (by have := (xtg_9_5 _ ht4.1 ht4.2).1.1; omega) (n := 26) rfl ?_
    refine xr_iload_n (n := 27) (show xlook 53 26 = some (26, .iload_n 1, 1, 0, 0, 0, 0) from xlk (by decide +kernel)) rfl rfl ?_
    obtain ⟨q1, t⟩ := t
    have hb5 : xob 1 (t4 + 1 + 6 + (x1).toNat) := xel15 _ (xtg_9_5 _ ht4.1 ht4.2).1.1 (xtg_9_5 _ ht4.1 ht4.2).1.2 _ (by omega)
    refine xr_aald (q := t4 + 1 + 6 + (x1).toNat) (show xlook 53 27 = some (27, .aaload, 1, 0, 0, 0, 0) from xlk (by decide +kernel)) ⟨(xtg_9_5 _ ht4.1 ht4.2).1.1, (Or.inl (xtg_9_5 _ ht4.1 ht4.2).1.2)⟩ (by rw [xln15 _ (xtg_9_5 _ ht4.1 ht4.2).1.1 (Or.inl (xtg_9_5 _ ht4.1 ht4.2).1.2)]; exact q1) (xPT_el hPT (Or.inl (xtg_9_5 _ ht4.1 ht4.2).1) q1.1 q1.2) (by have := hb5.1; omega) (n := 28) rfl ?_
    refine xr_aload_n (n := 29) (show xlook 53 28 = some (28, .aload_n 0, 1, 0, 0, 0, 0) from xlk (by decide +kernel)) rfl rfl ?_
    refine xr_geti (show xlook 53 29 = some (29, .getfield 58, 3, 6, 2, 0, 83) from xlk (by decide +kernel)) (by decide) (xobf h0 (by decide) (by decide)) rfl (n := 32) rfl ?_
    refine xr_aload_n (n := 33) (show xlook 53 32 = some (32, .aload_n 0, 1, 0, 0, 0, 0) from xlk (by decide +kernel)) rfl rfl ?_
    refine xr_getr (q := o0 + 11) (show xlook 53 33 = some (33, .getfield 31, 3, 6, 10, 0, 79) from xlk (by decide +kernel)) (by decide) (xobf h0 (by decide) (by decide)) rfl (xPT_get hPT h0 (by decide)) (by have := (xtg_6_10 _ h0.1 h0.2).1.1; omega) (n := 36) rfl ?_
    refine xr_iload_n (n := 37) (show xlook 53 36 = some (36, .iload_n 1, 1, 0, 0, 0, 0) from xlk (by decide +kernel)) rfl rfl ?_
    obtain ⟨q1, t⟩ := t
    refine xr_iald (show xlook 53 37 = some (37, .iaload, 1, 0, 0, 0, 0) from xlk (by decide +kernel)) (xtg_6_10 _ h0.1 h0.2).1 (by rw [(xtg_6_10 _ h0.1 h0.2).2]; exact q1) (n := 38) rfl ?_
    obtain ⟨q0, t⟩ := t
    refine xr_if_le (n := 41) (m := 45) (show xlook 53 38 = some (38, .ifCond .le 7, 3, 45, 0, 0, 0) from xlk (by decide +kernel)) rfl rfl q0 ⟨fun c => ?_, fun c => ?_⟩
    · replace t := t.1 c
      refine xr_iconst (n := 46) (show xlook 53 45 = some (45, .iconst 0, 1, 0, 0, 0, 0) from xlk (by decide +kernel)) rfl ?_
      obtain ⟨j6, G6, hj6, hm6, hG6, t⟩ := t
      refine xr_callv (dk := j6) (o := o0 + 12 + 6 + (x1).toNat) (as := [.ref (t4 + 1 + 6 + (x1).toNat), vi ((F) (o0) 2), vi (0)]) (show xlook 53 46 = some (46, .invokevirtual 118, 3, 69, 4, 0, 57) from xlk (by decide +kernel)) (by decide) hj6 ⟨Nat.le_of_ble_eq_true rfl, Nat.le_of_ble_eq_true rfl, Nat.le_of_ble_eq_true rfl⟩ ⟨hb3.1, hb3.2, by decide⟩ rfl hm6 (n := 49) rfl ?_
      show xE X d 53 49 [.ref (o0), vi (x1)] [] G6 r F'
      refine xr_iinc (n := 52) (show xlook 53 49 = some (49, .iinc 1 1, 3, 0, 0, 0, 0) from xlk (by decide +kernel)) rfl (ls' := [.ref (o0), vi (x1 + 1)]) rfl rfl ?_
      refine xr_goto (m := 2) (show xlook 53 52 = some (52, .goto (-50), 3, 2, 0, 0, 0) from xlk (by decide +kernel)) rfl ?_
      exact t hG6
    · replace t := t.2 c
      refine xr_iconst (n := 42) (show xlook 53 41 = some (41, .iconst 1, 1, 0, 0, 0, 0) from xlk (by decide +kernel)) rfl ?_
      refine xr_goto (m := 46) (show xlook 53 42 = some (42, .goto 4, 3, 46, 0, 0, 0) from xlk (by decide +kernel)) rfl ?_
      obtain ⟨j7, G7, hj7, hm7, hG7, t⟩ := t
      refine xr_callv (dk := j7) (o := o0 + 12 + 6 + (x1).toNat) (as := [.ref (t4 + 1 + 6 + (x1).toNat), vi ((F) (o0) 2), vi (1)]) (show xlook 53 46 = some (46, .invokevirtual 118, 3, 69, 4, 0, 57) from xlk (by decide +kernel)) (by decide) hj7 ⟨Nat.le_of_ble_eq_true rfl, Nat.le_of_ble_eq_true rfl, Nat.le_of_ble_eq_true rfl⟩ ⟨hb3.1, hb3.2, by decide⟩ rfl hm7 (n := 49) rfl ?_
      show xE X d 53 49 [.ref (o0), vi (x1)] [] G7 r F'
      refine xr_iinc (n := 52) (show xlook 53 49 = some (49, .iinc 1 1, 3, 0, 0, 0, 0) from xlk (by decide +kernel)) rfl (ls' := [.ref (o0), vi (x1 + 1)]) rfl rfl ?_
      refine xr_goto (m := 2) (show xlook 53 52 = some (52, .goto (-50), 3, 2, 0, 0, 0) from xlk (by decide +kernel)) rfl ?_
      exact t hG7

theorem s54_0 {X : List Int32} {d : Nat} {F F' : XF} {r : Option Value} {o0 : Nat} (hPT : xPT F) (h0 : xob 6 o0) (t : ∃ (j1 : Nat) (G1 : XF), j1 < d ∧ xM X j1 60 [.ref (o0)] (F) none G1 ∧ xPT G1 ∧ (xPT (xup (G1) (o0) 2 (((G1) (o0) 2) + (1))) → r = none ∧ F' = (xup (G1) (o0) 2 (((G1) (o0) 2) + (1))))) : xE X d 54 0 [.ref (o0)] [] F r F' := by
  refine xr_aload_n (n := 1) (show xlook 54 0 = some (0, .aload_n 0, 1, 0, 0, 0, 0) from xlk (by decide +kernel)) rfl rfl ?_
  obtain ⟨j1, G1, hj1, hm1, hG1, t⟩ := t
  refine xr_callv (dk := j1) (o := o0) (as := []) (show xlook 54 1 = some (1, .invokevirtual 122, 3, 60, 1, 0, 58) from xlk (by decide +kernel)) (by decide) hj1 ⟨Nat.le_of_ble_eq_true rfl, Nat.le_of_ble_eq_true rfl, Nat.le_of_ble_eq_true rfl⟩ ⟨h0.1, h0.2, by decide⟩ rfl hm1 (n := 4) rfl ?_
  show xE X d 54 4 [.ref (o0)] [] G1 r F'
  refine xr_aload_n (n := 5) (show xlook 54 4 = some (4, .aload_n 0, 1, 0, 0, 0, 0) from xlk (by decide +kernel)) rfl rfl ?_
  refine xr_dupr (n := 6) (show xlook 54 5 = some (5, .dup, 1, 0, 0, 0, 0) from xlk (by decide +kernel)) rfl ?_
  refine xr_geti (show xlook 54 6 = some (6, .getfield 58, 3, 6, 2, 0, 83) from xlk (by decide +kernel)) (by decide) (xobf h0 (by decide) (by decide)) rfl (n := 9) rfl ?_
  refine xr_iconst (n := 10) (show xlook 54 9 = some (9, .iconst 1, 1, 0, 0, 0, 0) from xlk (by decide +kernel)) rfl ?_
  refine xr_iadd (n := 11) (show xlook 54 10 = some (10, .iadd, 1, 0, 0, 0, 0) from xlk (by decide +kernel)) rfl ?_
  refine xr_puti (show xlook 54 11 = some (11, .putfield 58, 3, 6, 2, 0, 83) from xlk (by decide +kernel)) (xobf h0 (by decide) (by decide)) rfl (n := 14) rfl ?_
  obtain ⟨e1, e2⟩ := t (xPT_fld hG1 h0 (by decide) (by decide))
  subst e1
  subst e2
  exact xr_return (show xlook 54 14 = some (14, .return_, 1, 0, 0, 0, 0) from xlk (by decide +kernel)) rfl
theorem m54 {X : List Int32} {d : Nat} {F F' : XF} {r : Option Value} {o0 : Nat} (hPT : xPT F) (h0 : xob 6 o0) (t : ∃ (j1 : Nat) (G1 : XF), j1 < d ∧ xM X j1 60 [.ref (o0)] (F) none G1 ∧ xPT G1 ∧ (xPT (xup (G1) (o0) 2 (((G1) (o0) 2) + (1))) → r = none ∧ F' = (xup (G1) (o0) 2 (((G1) (o0) 2) + (1))))) : xM X d 54 [.ref (o0)] F r F' := by
  show xE X d 54 0 [.ref (o0)] [] F r F'
  exact s54_0 hPT h0 t

theorem s55_0 {X : List Int32} {d : Nat} {F F' : XF} {r : Option Value} {o0 : Nat} {x1 : Int} (hPT : xPT F) (h0 : xob 6 o0) (t : ∃ (j1 : Nat) (G1 : XF), j1 < d ∧ xM X j1 60 [.ref (o0)] (F) none G1 ∧ xPT G1 ∧ (inR ((xup (G1) (o0) 2 (((G1) (o0) 2) + (1))) (o0) 4) ∧ (((¬ ((xup (G1) (o0) 2 (((G1) (o0) 2) + (1))) (o0) 4) = (0)) → (xPT (xup (G1) (o0) 2 (((G1) (o0) 2) + (1))) → r = none ∧ F' = (xup (G1) (o0) 2 (((G1) (o0) 2) + (1))))) ∧ (¬ (¬ ((xup (G1) (o0) 2 (((G1) (o0) 2) + (1))) (o0) 4) = (0)) → (∃ (j2 : Nat) (y2 : Int) (G2 : XF), j2 < d ∧ xM X j2 56 [.ref (o0)] (xup (G1) (o0) 2 (((G1) (o0) 2) + (1))) (some (vi y2)) G2 ∧ xPT G2 ∧ (inR (x1) ∧ inR (y2) ∧ (inR ((xup (G1) (o0) 2 (((G1) (o0) 2) + (1))) (o0) 2) ∧ inR (min (x1) (y2)) ∧ (xPT (xup (G2) (o0) 2 (max ((xup (G1) (o0) 2 (((G1) (o0) 2) + (1))) (o0) 2) (min (x1) (y2)))) → r = none ∧ F' = (xup (G2) (o0) 2 (max ((xup (G1) (o0) 2 (((G1) (o0) 2) + (1))) (o0) 2) (min (x1) (y2)))))))))))) : xE X d 55 0 [.ref (o0), vi (x1)] [] F r F' := by
  refine xr_aload_n (n := 1) (show xlook 55 0 = some (0, .aload_n 0, 1, 0, 0, 0, 0) from xlk (by decide +kernel)) rfl rfl ?_
  obtain ⟨j1, G1, hj1, hm1, hG1, t⟩ := t
  refine xr_callv (dk := j1) (o := o0) (as := []) (show xlook 55 1 = some (1, .invokevirtual 122, 3, 60, 1, 0, 58) from xlk (by decide +kernel)) (by decide) hj1 ⟨Nat.le_of_ble_eq_true rfl, Nat.le_of_ble_eq_true rfl, Nat.le_of_ble_eq_true rfl⟩ ⟨h0.1, h0.2, by decide⟩ rfl hm1 (n := 4) rfl ?_
  show xE X d 55 4 [.ref (o0), vi (x1)] [] G1 r F'
  refine xr_aload_n (n := 5) (show xlook 55 4 = some (4, .aload_n 0, 1, 0, 0, 0, 0) from xlk (by decide +kernel)) rfl rfl ?_
  refine xr_dupr (n := 6) (show xlook 55 5 = some (5, .dup, 1, 0, 0, 0, 0) from xlk (by decide +kernel)) rfl ?_
  refine xr_geti (show xlook 55 6 = some (6, .getfield 58, 3, 6, 2, 0, 83) from xlk (by decide +kernel)) (by decide) (xobf h0 (by decide) (by decide)) rfl (n := 9) rfl ?_
  refine xr_iconst (n := 10) (show xlook 55 9 = some (9, .iconst 1, 1, 0, 0, 0, 0) from xlk (by decide +kernel)) rfl ?_
  refine xr_iadd (n := 11) (show xlook 55 10 = some (10, .iadd, 1, 0, 0, 0, 0) from xlk (by decide +kernel)) rfl ?_
  refine xr_puti (show xlook 55 11 = some (11, .putfield 58, 3, 6, 2, 0, 83) from xlk (by decide +kernel)) (xobf h0 (by decide) (by decide)) rfl (n := 14) rfl ?_
  refine xr_aload_n (n := 15) (show xlook 55 14 = some (14, .aload_n 0, 1, 0, 0, 0, 0) from xlk (by decide +kernel)) rfl rfl ?_
  refine xr_geti (show xlook 55 15 = some (15, .getfield 65, 3, 6, 4, 0, 85) from xlk (by decide +kernel)) (by decide) (xobf h0 (by decide) (by decide)) rfl (n := 18) rfl ?_
  obtain ⟨q0, t⟩ := t
  refine xr_if_ne (n := 21) (m := 40) (show xlook 55 18 = some (18, .ifCond .ne 22, 3, 40, 0, 0, 0) from xlk (by decide +kernel)) rfl rfl q0 ⟨fun c => ?_, fun c => ?_⟩
  · replace t := t.1 c
    obtain ⟨e1, e2⟩ := t (xPT_fld hG1 h0 (by decide) (by decide))
    subst e1
    subst e2
    exact xr_return (show xlook 55 40 = some (40, .return_, 1, 0, 0, 0, 0) from xlk (by decide +kernel)) rfl
  · replace t := t.2 c
    refine xr_aload_n (n := 22) (show xlook 55 21 = some (21, .aload_n 0, 1, 0, 0, 0, 0) from xlk (by decide +kernel)) rfl rfl ?_
    refine xr_aload_n (n := 23) (show xlook 55 22 = some (22, .aload_n 0, 1, 0, 0, 0, 0) from xlk (by decide +kernel)) rfl rfl ?_
    refine xr_geti (show xlook 55 23 = some (23, .getfield 58, 3, 6, 2, 0, 83) from xlk (by decide +kernel)) (by decide) (xobf h0 (by decide) (by decide)) rfl (n := 26) rfl ?_
    refine xr_iload_n (n := 27) (show xlook 55 26 = some (26, .iload_n 1, 1, 0, 0, 0, 0) from xlk (by decide +kernel)) rfl rfl ?_
    refine xr_aload_n (n := 28) (show xlook 55 27 = some (27, .aload_n 0, 1, 0, 0, 0, 0) from xlk (by decide +kernel)) rfl rfl ?_
    obtain ⟨j2, y2, G2, hj2, hm2, hG2, t⟩ := t
    refine xr_callv (dk := j2) (o := o0) (as := []) (show xlook 55 28 = some (28, .invokevirtual 125, 3, 56, 1, 0, 59) from xlk (by decide +kernel)) (by decide) hj2 ⟨Nat.le_of_ble_eq_true rfl, Nat.le_of_ble_eq_true rfl, Nat.le_of_ble_eq_true rfl⟩ ⟨h0.1, h0.2, by decide⟩ rfl hm2 (n := 31) rfl ?_
    show xE X d 55 31 [.ref (o0), vi (x1)] [vi (y2), vi (x1), vi ((xup (G1) (o0) 2 (((G1) (o0) 2) + (1))) (o0) 2), .ref (o0)] G2 r F'
    obtain ⟨q0, q1, t⟩ := t
    refine xr_min (show xlook 55 31 = some (31, .invokestatic 129, 3, 1002, 2, 0, 60) from xlk (by decide +kernel)) rfl (Nat.le_of_ble_eq_true rfl) q0 q1 (n := 34) rfl ?_
    obtain ⟨q0, q1, t⟩ := t
    refine xr_max (show xlook 55 34 = some (34, .invokestatic 135, 3, 1001, 2, 0, 61) from xlk (by decide +kernel)) rfl (Nat.le_of_ble_eq_true rfl) q0 q1 (n := 37) rfl ?_
    refine xr_puti (show xlook 55 37 = some (37, .putfield 58, 3, 6, 2, 0, 83) from xlk (by decide +kernel)) (xobf h0 (by decide) (by decide)) rfl (n := 40) rfl ?_
    obtain ⟨e1, e2⟩ := t (xPT_fld hG2 h0 (by decide) (by decide))
    subst e1
    subst e2
    exact xr_return (show xlook 55 40 = some (40, .return_, 1, 0, 0, 0, 0) from xlk (by decide +kernel)) rfl
theorem m55 {X : List Int32} {d : Nat} {F F' : XF} {r : Option Value} {o0 : Nat} {x1 : Int} (hPT : xPT F) (h0 : xob 6 o0) (t : ∃ (j1 : Nat) (G1 : XF), j1 < d ∧ xM X j1 60 [.ref (o0)] (F) none G1 ∧ xPT G1 ∧ (inR ((xup (G1) (o0) 2 (((G1) (o0) 2) + (1))) (o0) 4) ∧ (((¬ ((xup (G1) (o0) 2 (((G1) (o0) 2) + (1))) (o0) 4) = (0)) → (xPT (xup (G1) (o0) 2 (((G1) (o0) 2) + (1))) → r = none ∧ F' = (xup (G1) (o0) 2 (((G1) (o0) 2) + (1))))) ∧ (¬ (¬ ((xup (G1) (o0) 2 (((G1) (o0) 2) + (1))) (o0) 4) = (0)) → (∃ (j2 : Nat) (y2 : Int) (G2 : XF), j2 < d ∧ xM X j2 56 [.ref (o0)] (xup (G1) (o0) 2 (((G1) (o0) 2) + (1))) (some (vi y2)) G2 ∧ xPT G2 ∧ (inR (x1) ∧ inR (y2) ∧ (inR ((xup (G1) (o0) 2 (((G1) (o0) 2) + (1))) (o0) 2) ∧ inR (min (x1) (y2)) ∧ (xPT (xup (G2) (o0) 2 (max ((xup (G1) (o0) 2 (((G1) (o0) 2) + (1))) (o0) 2) (min (x1) (y2)))) → r = none ∧ F' = (xup (G2) (o0) 2 (max ((xup (G1) (o0) 2 (((G1) (o0) 2) + (1))) (o0) 2) (min (x1) (y2)))))))))))) : xM X d 55 [.ref (o0), vi (x1)] F r F' := by
  show xE X d 55 0 [.ref (o0), vi (x1)] [] F r F'
  exact s55_0 hPT h0 t

theorem s56_0 {X : List Int32} {d : Nat} {F F' : XF} {r : Option Value} {o0 : Nat} {w1 : Value} {w2 : Value} {w3 : Value} {w4 : Value} {w5 : Value} (hPT : xPT F) (h0 : xob 6 o0) (t : ∃ t1 : Nat, (F) (o0) 0 = (t1 : Int) ∧ xob 9 t1 ∧ (inR ((F) (o0) 2) ∧ inR ((F) (t1) 3) ∧ (((((F) (t1) 3) < ((F) (o0) 2)) → (xPT (F) → xE X d 56 28 [.ref (o0), vi (2000), vi (0), w3, w4, w5] [] (F) r F')) ∧ (¬ (((F) (t1) 3) < ((F) (o0) 2)) → (∃ t2 : Nat, (F) (o0) 0 = (t2 : Int) ∧ xob 9 t2 ∧ (xPT (F) → r = some (vi ((F) (t2) 3)) ∧ F' = (F))))))) : xE X d 56 0 [.ref (o0), w1, w2, w3, w4, w5] [] F r F' := by
  refine xr_aload_n (n := 1) (show xlook 56 0 = some (0, .aload_n 0, 1, 0, 0, 0, 0) from xlk (by decide +kernel)) rfl rfl ?_
  refine xr_geti (show xlook 56 1 = some (1, .getfield 58, 3, 6, 2, 0, 83) from xlk (by decide +kernel)) (by decide) (xobf h0 (by decide) (by decide)) rfl (n := 4) rfl ?_
  refine xr_aload_n (n := 5) (show xlook 56 4 = some (4, .aload_n 0, 1, 0, 0, 0, 0) from xlk (by decide +kernel)) rfl rfl ?_
  obtain ⟨t1, q1, ht1, t⟩ := t
  refine xr_getr (q := t1) (show xlook 56 5 = some (5, .getfield 40, 3, 6, 0, 0, 81) from xlk (by decide +kernel)) (by decide) (xobf h0 (by decide) (by decide)) rfl q1 (by have := ht1.1; omega) (n := 8) rfl ?_
  refine xr_geti (show xlook 56 8 = some (8, .getfield 138, 3, 9, 3, 0, 99) from xlk (by decide +kernel)) (by decide) (xobf ht1 (by decide) (by decide)) rfl (n := 11) rfl ?_
  obtain ⟨q0, q1, t⟩ := t
  refine xr_icmp_gt (n := 14) (m := 22) (show xlook 56 11 = some (11, .if_icmp .gt 11, 3, 22, 0, 0, 0) from xlk (by decide +kernel)) rfl rfl q0 q1 ⟨fun c => ?_, fun c => ?_⟩
  · replace t := t.1 c
    refine xr_sipush (n := 25) (show xlook 56 22 = some (22, .sipush 2000, 3, 0, 0, 0, 0) from xlk (by decide +kernel)) rfl (by decide) ?_
    refine xr_istore_n (n := 26) (show xlook 56 25 = some (25, .istore_n 1, 1, 0, 0, 0, 0) from xlk (by decide +kernel)) rfl (ls' := [.ref (o0), vi (2000), w2, w3, w4, w5]) (Nat.le_of_ble_eq_true rfl) rfl ?_
    refine xr_iconst (n := 27) (show xlook 56 26 = some (26, .iconst 0, 1, 0, 0, 0, 0) from xlk (by decide +kernel)) rfl ?_
    refine xr_istore_n (n := 28) (show xlook 56 27 = some (27, .istore_n 2, 1, 0, 0, 0, 0) from xlk (by decide +kernel)) rfl (ls' := [.ref (o0), vi (2000), vi (0), w3, w4, w5]) (Nat.le_of_ble_eq_true rfl) rfl ?_
    exact t hPT
  · replace t := t.2 c
    refine xr_aload_n (n := 15) (show xlook 56 14 = some (14, .aload_n 0, 1, 0, 0, 0, 0) from xlk (by decide +kernel)) rfl rfl ?_
    obtain ⟨t2, q1, ht2, t⟩ := t
    refine xr_getr (q := t2) (show xlook 56 15 = some (15, .getfield 40, 3, 6, 0, 0, 81) from xlk (by decide +kernel)) (by decide) (xobf h0 (by decide) (by decide)) rfl q1 (by have := ht2.1; omega) (n := 18) rfl ?_
    refine xr_geti (show xlook 56 18 = some (18, .getfield 138, 3, 9, 3, 0, 99) from xlk (by decide +kernel)) (by decide) (xobf ht2 (by decide) (by decide)) rfl (n := 21) rfl ?_
    obtain ⟨e1, e2⟩ := t hPT
    subst e1
    subst e2
    exact xr_ireturn (show xlook 56 21 = some (21, .ireturn, 1, 0, 0, 0, 0) from xlk (by decide +kernel)) rfl
theorem m56 {X : List Int32} {d : Nat} {F F' : XF} {r : Option Value} {o0 : Nat} (hPT : xPT F) (h0 : xob 6 o0) (t : ∃ t1 : Nat, (F) (o0) 0 = (t1 : Int) ∧ xob 9 t1 ∧ (inR ((F) (o0) 2) ∧ inR ((F) (t1) 3) ∧ (((((F) (t1) 3) < ((F) (o0) 2)) → (xPT (F) → xE X d 56 28 [.ref (o0), vi (2000), vi (0), xU0, xU0, xU0] [] (F) r F')) ∧ (¬ (((F) (t1) 3) < ((F) (o0) 2)) → (∃ t2 : Nat, (F) (o0) 0 = (t2 : Int) ∧ xob 9 t2 ∧ (xPT (F) → r = some (vi ((F) (t2) 3)) ∧ F' = (F))))))) : xM X d 56 [.ref (o0)] F r F' := by
  show xE X d 56 0 [.ref (o0), xU0, xU0, xU0, xU0, xU0] [] F r F'
  exact s56_0 hPT h0 t

theorem s56_28 {X : List Int32} {d : Nat} {F F' : XF} {r : Option Value} {o0 : Nat} {x1 : Int} {x2 : Int} {w3 : Value} {w4 : Value} {w5 : Value} (hPT : xPT F) (h0 : xob 6 o0) (t : ∃ t1 : Nat, (F) (o0) 0 = (t1 : Int) ∧ xob 9 t1 ∧ (inR (x2) ∧ inR ((F) (t1) 11) ∧ (((((F) (t1) 11) ≤ (x2)) → (xPT (F) → xE X d 56 81 [.ref (o0), vi (x1), vi (0), w3, w4, w5] [] (F) r F')) ∧ (¬ (((F) (t1) 11) ≤ (x2)) → (∃ t2 : Nat, (F) (o0) 0 = (t2 : Int) ∧ xob 9 t2 ∧ ((0 ≤ (x2) ∧ (x2) < 7) ∧ (∃ t3 : Nat, (F) (o0) 0 = (t3 : Int) ∧ xob 9 t3 ∧ ((0 ≤ (x2) ∧ (x2) < 7) ∧ (inR (((F) (t2 + 5) (x2).toNat) + ((F) (t3 + 6) (x2).toNat)) ∧ inR ((F) (o0) 2) ∧ ((((((F) (t2 + 5) (x2).toNat) + ((F) (t3 + 6) (x2).toNat)) < ((F) (o0) 2)) → (xPT (F) → xE X d 56 28 [.ref (o0), vi (x1), vi (x2 + 1), vi (((F) (t2 + 5) (x2).toNat) + ((F) (t3 + 6) (x2).toNat)), w4, w5] [] (F) r F')) ∧ (¬ ((((F) (t2 + 5) (x2).toNat) + ((F) (t3 + 6) (x2).toNat)) < ((F) (o0) 2)) → (inR (x1) ∧ inR (((F) (t2 + 5) (x2).toNat) + ((F) (t3 + 6) (x2).toNat)) ∧ (xPT (F) → xE X d 56 28 [.ref (o0), vi (min (x1) (((F) (t2 + 5) (x2).toNat) + ((F) (t3 + 6) (x2).toNat))), vi (x2 + 1), vi (((F) (t2 + 5) (x2).toNat) + ((F) (t3 + 6) (x2).toNat)), w4, w5] [] (F) r F'))))))))))))) : xE X d 56 28 [.ref (o0), vi (x1), vi (x2), w3, w4, w5] [] F r F' := by
  refine xr_iload_n (n := 29) (show xlook 56 28 = some (28, .iload_n 2, 1, 0, 0, 0, 0) from xlk (by decide +kernel)) rfl rfl ?_
  refine xr_aload_n (n := 30) (show xlook 56 29 = some (29, .aload_n 0, 1, 0, 0, 0, 0) from xlk (by decide +kernel)) rfl rfl ?_
  obtain ⟨t1, q1, ht1, t⟩ := t
  refine xr_getr (q := t1) (show xlook 56 30 = some (30, .getfield 40, 3, 6, 0, 0, 81) from xlk (by decide +kernel)) (by decide) (xobf h0 (by decide) (by decide)) rfl q1 (by have := ht1.1; omega) (n := 33) rfl ?_
  refine xr_geti (show xlook 56 33 = some (33, .getfield 141, 3, 9, 11, 0, 100) from xlk (by decide +kernel)) (by decide) (xobf ht1 (by decide) (by decide)) rfl (n := 36) rfl ?_
  obtain ⟨q0, q1, t⟩ := t
  refine xr_icmp_ge (n := 39) (m := 79) (show xlook 56 36 = some (36, .if_icmp .ge 43, 3, 79, 0, 0, 0) from xlk (by decide +kernel)) rfl rfl q0 q1 ⟨fun c => ?_, fun c => ?_⟩
  · replace t := t.1 c
    refine xr_iconst (n := 80) (show xlook 56 79 = some (79, .iconst 0, 1, 0, 0, 0, 0) from xlk (by decide +kernel)) rfl ?_
    refine xr_istore_n (n := 81) (show xlook 56 80 = some (80, .istore_n 2, 1, 0, 0, 0, 0) from xlk (by decide +kernel)) rfl (ls' := [.ref (o0), vi (x1), vi (0), w3, w4, w5]) (Nat.le_of_ble_eq_true rfl) rfl ?_
    exact t hPT
  · replace t := t.2 c
    refine xr_aload_n (n := 40) (show xlook 56 39 = some (39, .aload_n 0, 1, 0, 0, 0, 0) from xlk (by decide +kernel)) rfl rfl ?_
    obtain ⟨t2, q1, ht2, t⟩ := t
    refine xr_getr (q := t2) (show xlook 56 40 = some (40, .getfield 40, 3, 6, 0, 0, 81) from xlk (by decide +kernel)) (by decide) (xobf h0 (by decide) (by decide)) rfl q1 (by have := ht2.1; omega) (n := 43) rfl ?_
    refine xr_getr (q := t2 + 5) (show xlook 56 43 = some (43, .getfield 144, 3, 9, 13, 0, 101) from xlk (by decide +kernel)) (by decide) (xobf ht2 (by decide) (by decide)) rfl (xPT_get hPT ht2 (by decide)) (by have := (xtg_9_13 _ ht2.1 ht2.2).1.1; omega) (n := 46) rfl ?_
    refine xr_iload_n (n := 47) (show xlook 56 46 = some (46, .iload_n 2, 1, 0, 0, 0, 0) from xlk (by decide +kernel)) rfl rfl ?_
    obtain ⟨q1, t⟩ := t
    refine xr_iald (show xlook 56 47 = some (47, .iaload, 1, 0, 0, 0, 0) from xlk (by decide +kernel)) (xtg_9_13 _ ht2.1 ht2.2).1 (by rw [(xtg_9_13 _ ht2.1 ht2.2).2]; exact q1) (n := 48) rfl ?_
    refine xr_aload_n (n := 49) (show xlook 56 48 = some (48, .aload_n 0, 1, 0, 0, 0, 0) from xlk (by decide +kernel)) rfl rfl ?_
    obtain ⟨t3, q1, ht3, t⟩ := t
    refine xr_getr (q := t3) (show xlook 56 49 = some (49, .getfield 40, 3, 6, 0, 0, 81) from xlk (by decide +kernel)) (by decide) (xobf h0 (by decide) (by decide)) rfl q1 (by have := ht3.1; omega) (n := 52) rfl ?_
    refine xr_getr (q := t3 + 6) (show xlook 56 52 = some (52, .getfield 147, 3, 9, 14, 0, 102) from xlk (by decide +kernel)) (by decide) (xobf ht3 (by decide) (by decide)) rfl (xPT_get hPT ht3 (by decide)) (by have := (xtg_9_14 _ ht3.1 ht3.2).1.1; omega) (n := 55) rfl ?_
    refine xr_iload_n (n := 56) (show xlook 56 55 = some (55, .iload_n 2, 1, 0, 0, 0, 0) from xlk (by decide +kernel)) rfl rfl ?_
    obtain ⟨q1, t⟩ := t
    refine xr_iald (show xlook 56 56 = some (56, .iaload, 1, 0, 0, 0, 0) from xlk (by decide +kernel)) (xtg_9_14 _ ht3.1 ht3.2).1 (by rw [(xtg_9_14 _ ht3.1 ht3.2).2]; exact q1) (n := 57) rfl ?_
    refine xr_iadd (n := 58) (show xlook 56 57 = some (57, .iadd, 1, 0, 0, 0, 0) from xlk (by decide +kernel)) rfl ?_
    refine xr_istore_n (n := 59) (show xlook 56 58 = some (58, .istore_n 3, 1, 0, 0, 0, 0) from xlk (by decide +kernel)) rfl (ls' := [.ref (o0), vi (x1), vi (x2), vi (((F) (t2 + 5) (x2).toNat) + ((F) (t3 + 6) (x2).toNat)), w4, w5]) (Nat.le_of_ble_eq_true rfl) rfl ?_
    refine xr_iload_n (n := 60) (show xlook 56 59 = some (59, .iload_n 3, 1, 0, 0, 0, 0) from xlk (by decide +kernel)) rfl rfl ?_
    refine xr_aload_n (n := 61) (show xlook 56 60 = some (60, .aload_n 0, 1, 0, 0, 0, 0) from xlk (by decide +kernel)) rfl rfl ?_
    refine xr_geti (show xlook 56 61 = some (61, .getfield 58, 3, 6, 2, 0, 83) from xlk (by decide +kernel)) (by decide) (xobf h0 (by decide) (by decide)) rfl (n := 64) rfl ?_
    obtain ⟨q0, q1, t⟩ := t
    refine xr_icmp_lt (n := 67) (m := 73) (show xlook 56 64 = some (64, .if_icmp .lt 9, 3, 73, 0, 0, 0) from xlk (by decide +kernel)) rfl rfl q0 q1 ⟨fun c => ?_, fun c => ?_⟩
    · replace t := t.1 c
      refine xr_iinc (n := 76) (show xlook 56 73 = some (73, .iinc 2 1, 3, 0, 0, 0, 0) from xlk (by decide +kernel)) rfl (ls' := [.ref (o0), vi (x1), vi (x2 + 1), vi (((F) (t2 + 5) (x2).toNat) + ((F) (t3 + 6) (x2).toNat)), w4, w5]) rfl rfl ?_
      refine xr_goto (m := 28) (show xlook 56 76 = some (76, .goto (-48), 3, 28, 0, 0, 0) from xlk (by decide +kernel)) rfl ?_
      exact t hPT
    · replace t := t.2 c
      refine xr_iload_n (n := 68) (show xlook 56 67 = some (67, .iload_n 1, 1, 0, 0, 0, 0) from xlk (by decide +kernel)) rfl rfl ?_
      refine xr_iload_n (n := 69) (show xlook 56 68 = some (68, .iload_n 3, 1, 0, 0, 0, 0) from xlk (by decide +kernel)) rfl rfl ?_
      obtain ⟨q0, q1, t⟩ := t
      refine xr_min (show xlook 56 69 = some (69, .invokestatic 129, 3, 1002, 2, 0, 60) from xlk (by decide +kernel)) rfl (Nat.le_of_ble_eq_true rfl) q0 q1 (n := 72) rfl ?_
      refine xr_istore_n (n := 73) (show xlook 56 72 = some (72, .istore_n 1, 1, 0, 0, 0, 0) from xlk (by decide +kernel)) rfl (ls' := [.ref (o0), vi (min (x1) (((F) (t2 + 5) (x2).toNat) + ((F) (t3 + 6) (x2).toNat))), vi (x2), vi (((F) (t2 + 5) (x2).toNat) + ((F) (t3 + 6) (x2).toNat)), w4, w5]) (Nat.le_of_ble_eq_true rfl) rfl ?_
      refine xr_iinc (n := 76) (show xlook 56 73 = some (73, .iinc 2 1, 3, 0, 0, 0, 0) from xlk (by decide +kernel)) rfl (ls' := [.ref (o0), vi (min (x1) (((F) (t2 + 5) (x2).toNat) + ((F) (t3 + 6) (x2).toNat))), vi (x2 + 1), vi (((F) (t2 + 5) (x2).toNat) + ((F) (t3 + 6) (x2).toNat)), w4, w5]) rfl rfl ?_
      refine xr_goto (m := 28) (show xlook 56 76 = some (76, .goto (-48), 3, 28, 0, 0, 0) from xlk (by decide +kernel)) rfl ?_
      exact t hPT

theorem s56_81 {X : List Int32} {d : Nat} {F F' : XF} {r : Option Value} {o0 : Nat} {x1 : Int} {x2 : Int} {w3 : Value} {w4 : Value} {w5 : Value} (hPT : xPT F) (h0 : xob 6 o0) (t : inR (x2) ∧ inR ((F) (o0 + 1) 0) ∧ (((((F) (o0 + 1) 0) ≤ (x2)) → (xPT (F) → r = some (vi (x1)) ∧ F' = (F))) ∧ (¬ (((F) (o0 + 1) 0) ≤ (x2)) → ((0 ≤ (x2) ∧ (x2) < 30) ∧ ((0 ≤ ((F) (o0 + 1 + 1) (x2).toNat) ∧ ((F) (o0 + 1 + 1) (x2).toNat) < 30) ∧ (inR ((F) (o0 + 1 + 1) (x2).toNat) ∧ inR ((F) (o0) 3) ∧ (((((F) (o0 + 1 + 1) (x2).toNat) < ((F) (o0) 3)) → (xPT (F) → xE X d 56 81 [.ref (o0), vi (x1), vi (x2 + 1), vi ((F) (o0 + 1 + 1) (x2).toNat), vi ((F) (o0 + 9) ((F) (o0 + 1 + 1) (x2).toNat).toNat), w5] [] (F) r F')) ∧ (¬ (((F) (o0 + 1 + 1) (x2).toNat) < ((F) (o0) 3)) → ((0 ≤ ((F) (o0 + 1 + 1) (x2).toNat) ∧ ((F) (o0 + 1 + 1) (x2).toNat) < 30) ∧ (inR ((F) (o0 + 8) ((F) (o0 + 1 + 1) (x2).toNat).toNat) ∧ (((¬ ((F) (o0 + 8) ((F) (o0 + 1 + 1) (x2).toNat).toNat) = (5)) → (xPT (F) → xE X d 56 81 [.ref (o0), vi (x1), vi (x2 + 1), vi ((F) (o0 + 1 + 1) (x2).toNat), vi ((F) (o0 + 9) ((F) (o0 + 1 + 1) (x2).toNat).toNat), w5] [] (F) r F')) ∧ (¬ (¬ ((F) (o0 + 8) ((F) (o0 + 1 + 1) (x2).toNat).toNat) = (5)) → (∃ t1 : Nat, (F) (o0) 0 = (t1 : Int) ∧ xob 9 t1 ∧ (inR ((F) (o0 + 9) ((F) (o0 + 1 + 1) (x2).toNat).toNat) ∧ inR ((F) (t1) 4) ∧ (((((F) (t1) 4) ≤ ((F) (o0 + 9) ((F) (o0 + 1 + 1) (x2).toNat).toNat)) → (xPT (F) → xE X d 56 81 [.ref (o0), vi (x1), vi (x2 + 1), vi ((F) (o0 + 1 + 1) (x2).toNat), vi ((F) (o0 + 9) ((F) (o0 + 1 + 1) (x2).toNat).toNat), w5] [] (F) r F')) ∧ (¬ (((F) (t1) 4) ≤ ((F) (o0 + 9) ((F) (o0 + 1 + 1) (x2).toNat).toNat)) → (∃ (j2 : Nat) (y2 : Int) (G2 : XF), j2 < d ∧ xM X j2 66 [.ref (o0 + 1), vi (x2), vi ((F) (o0 + 9) ((F) (o0 + 1 + 1) (x2).toNat).toNat)] (F) (some (vi y2)) G2 ∧ xPT G2 ∧ (∃ t3 : Nat, (G2) (o0) 0 = (t3 : Int) ∧ xob 9 t3 ∧ ((0 ≤ ((F) (o0 + 9) ((F) (o0 + 1 + 1) (x2).toNat).toNat) ∧ ((F) (o0 + 9) ((F) (o0 + 1 + 1) (x2).toNat).toNat) < 10) ∧ (∃ (j5 : Nat) (y5 : Int) (G5 : XF), j5 < d ∧ xM X j5 12 [.ref (t3 + 1 + 6 + ((F) (o0 + 9) ((F) (o0 + 1 + 1) (x2).toNat).toNat).toNat), vi ((G2) (o0) 2), vi (y2)] (G2) (some (vi y5)) G5 ∧ xPT G5 ∧ (inR (x1) ∧ inR (y5) ∧ (xPT (G5) → xE X d 56 81 [.ref (o0), vi (min (x1) (y5)), vi (x2 + 1), vi ((F) (o0 + 1 + 1) (x2).toNat), vi ((F) (o0 + 9) ((F) (o0 + 1 + 1) (x2).toNat).toNat), vi (y2)] [] (G5) r F')))))))))))))))))))))) : xE X d 56 81 [.ref (o0), vi (x1), vi (x2), w3, w4, w5] [] F r F' := by
  refine xr_iload_n (n := 82) (show xlook 56 81 = some (81, .iload_n 2, 1, 0, 0, 0, 0) from xlk (by decide +kernel)) rfl rfl ?_
  refine xr_aload_n (n := 83) (show xlook 56 82 = some (82, .aload_n 0, 1, 0, 0, 0, 0) from xlk (by decide +kernel)) rfl rfl ?_
  refine xr_getr (q := o0 + 1) (show xlook 56 83 = some (83, .getfield 12, 3, 6, 1, 0, 74) from xlk (by decide +kernel)) (by decide) (xobf h0 (by decide) (by decide)) rfl (xPT_get hPT h0 (by decide)) (by have := (xtg_6_1 _ h0.1 h0.2).1; omega) (n := 86) rfl ?_
  refine xr_geti (show xlook 56 86 = some (86, .getfield 96, 3, 7, 0, 0, 93) from xlk (by decide +kernel)) (by decide) (xobf (xtg_6_1 _ h0.1 h0.2) (by decide) (by decide)) rfl (n := 89) rfl ?_
  obtain ⟨q0, q1, t⟩ := t
  refine xr_icmp_ge (n := 92) (m := 182) (show xlook 56 89 = some (89, .if_icmp .ge 93, 3, 182, 0, 0, 0) from xlk (by decide +kernel)) rfl rfl q0 q1 ⟨fun c => ?_, fun c => ?_⟩
  · replace t := t.1 c
    refine xr_iload_n (n := 183) (show xlook 56 182 = some (182, .iload_n 1, 1, 0, 0, 0, 0) from xlk (by decide +kernel)) rfl rfl ?_
    obtain ⟨e1, e2⟩ := t hPT
    subst e1
    subst e2
    exact xr_ireturn (show xlook 56 183 = some (183, .ireturn, 1, 0, 0, 0, 0) from xlk (by decide +kernel)) rfl
  · replace t := t.2 c
    refine xr_aload_n (n := 93) (show xlook 56 92 = some (92, .aload_n 0, 1, 0, 0, 0, 0) from xlk (by decide +kernel)) rfl rfl ?_
    refine xr_getr (q := o0 + 1) (show xlook 56 93 = some (93, .getfield 12, 3, 6, 1, 0, 74) from xlk (by decide +kernel)) (by decide) (xobf h0 (by decide) (by decide)) rfl (xPT_get hPT h0 (by decide)) (by have := (xtg_6_1 _ h0.1 h0.2).1; omega) (n := 96) rfl ?_
    refine xr_getr (q := o0 + 1 + 1) (show xlook 56 96 = some (96, .getfield 97, 3, 7, 1, 0, 94) from xlk (by decide +kernel)) (by decide) (xobf (xtg_6_1 _ h0.1 h0.2) (by decide) (by decide)) rfl (xPT_get hPT (xtg_6_1 _ h0.1 h0.2) (by decide)) (by have := (xtg_7_1 _ (xtg_6_1 _ h0.1 h0.2).1 (xtg_6_1 _ h0.1 h0.2).2).1.1; omega) (n := 99) rfl ?_
    refine xr_iload_n (n := 100) (show xlook 56 99 = some (99, .iload_n 2, 1, 0, 0, 0, 0) from xlk (by decide +kernel)) rfl rfl ?_
    obtain ⟨q1, t⟩ := t
    refine xr_iald (show xlook 56 100 = some (100, .iaload, 1, 0, 0, 0, 0) from xlk (by decide +kernel)) (xtg_7_1 _ (xtg_6_1 _ h0.1 h0.2).1 (xtg_6_1 _ h0.1 h0.2).2).1 (by rw [(xtg_7_1 _ (xtg_6_1 _ h0.1 h0.2).1 (xtg_6_1 _ h0.1 h0.2).2).2]; exact q1) (n := 101) rfl ?_
    refine xr_istore_n (n := 102) (show xlook 56 101 = some (101, .istore_n 3, 1, 0, 0, 0, 0) from xlk (by decide +kernel)) rfl (ls' := [.ref (o0), vi (x1), vi (x2), vi ((F) (o0 + 1 + 1) (x2).toNat), w4, w5]) (Nat.le_of_ble_eq_true rfl) rfl ?_
    refine xr_aload_n (n := 103) (show xlook 56 102 = some (102, .aload_n 0, 1, 0, 0, 0, 0) from xlk (by decide +kernel)) rfl rfl ?_
    refine xr_getr (q := o0 + 9) (show xlook 56 103 = some (103, .getfield 25, 3, 6, 8, 0, 77) from xlk (by decide +kernel)) (by decide) (xobf h0 (by decide) (by decide)) rfl (xPT_get hPT h0 (by decide)) (by have := (xtg_6_8 _ h0.1 h0.2).1.1; omega) (n := 106) rfl ?_
    refine xr_iload_n (n := 107) (show xlook 56 106 = some (106, .iload_n 3, 1, 0, 0, 0, 0) from xlk (by decide +kernel)) rfl rfl ?_
    obtain ⟨q1, t⟩ := t
    refine xr_iald (show xlook 56 107 = some (107, .iaload, 1, 0, 0, 0, 0) from xlk (by decide +kernel)) (xtg_6_8 _ h0.1 h0.2).1 (by rw [(xtg_6_8 _ h0.1 h0.2).2]; exact q1) (n := 108) rfl ?_
    refine xr_istore (n := 110) (show xlook 56 108 = some (108, .istore 4, 2, 0, 0, 0, 0) from xlk (by decide +kernel)) rfl (ls' := [.ref (o0), vi (x1), vi (x2), vi ((F) (o0 + 1 + 1) (x2).toNat), vi ((F) (o0 + 9) ((F) (o0 + 1 + 1) (x2).toNat).toNat), w5]) (Nat.le_of_ble_eq_true rfl) rfl ?_
    refine xr_iload_n (n := 111) (show xlook 56 110 = some (110, .iload_n 3, 1, 0, 0, 0, 0) from xlk (by decide +kernel)) rfl rfl ?_
    refine xr_aload_n (n := 112) (show xlook 56 111 = some (111, .aload_n 0, 1, 0, 0, 0, 0) from xlk (by decide +kernel)) rfl rfl ?_
    refine xr_geti (show xlook 56 112 = some (112, .getfield 62, 3, 6, 3, 0, 84) from xlk (by decide +kernel)) (by decide) (xobf h0 (by decide) (by decide)) rfl (n := 115) rfl ?_
    obtain ⟨q0, q1, t⟩ := t
    refine xr_icmp_lt (n := 118) (m := 176) (show xlook 56 115 = some (115, .if_icmp .lt 61, 3, 176, 0, 0, 0) from xlk (by decide +kernel)) rfl rfl q0 q1 ⟨fun c => ?_, fun c => ?_⟩
    · replace t := t.1 c
      refine xr_iinc (n := 179) (show xlook 56 176 = some (176, .iinc 2 1, 3, 0, 0, 0, 0) from xlk (by decide +kernel)) rfl (ls' := [.ref (o0), vi (x1), vi (x2 + 1), vi ((F) (o0 + 1 + 1) (x2).toNat), vi ((F) (o0 + 9) ((F) (o0 + 1 + 1) (x2).toNat).toNat), w5]) rfl rfl ?_
      refine xr_goto (m := 81) (show xlook 56 179 = some (179, .goto (-98), 3, 81, 0, 0, 0) from xlk (by decide +kernel)) rfl ?_
      exact t hPT
    · replace t := t.2 c
      refine xr_aload_n (n := 119) (show xlook 56 118 = some (118, .aload_n 0, 1, 0, 0, 0, 0) from xlk (by decide +kernel)) rfl rfl ?_
      refine xr_getr (q := o0 + 8) (show xlook 56 119 = some (119, .getfield 22, 3, 6, 7, 0, 76) from xlk (by decide +kernel)) (by decide) (xobf h0 (by decide) (by decide)) rfl (xPT_get hPT h0 (by decide)) (by have := (xtg_6_7 _ h0.1 h0.2).1.1; omega) (n := 122) rfl ?_
      refine xr_iload_n (n := 123) (show xlook 56 122 = some (122, .iload_n 3, 1, 0, 0, 0, 0) from xlk (by decide +kernel)) rfl rfl ?_
      obtain ⟨q1, t⟩ := t
      refine xr_iald (show xlook 56 123 = some (123, .iaload, 1, 0, 0, 0, 0) from xlk (by decide +kernel)) (xtg_6_7 _ h0.1 h0.2).1 (by rw [(xtg_6_7 _ h0.1 h0.2).2]; exact q1) (n := 124) rfl ?_
      refine xr_iconst (n := 125) (show xlook 56 124 = some (124, .iconst 5, 1, 0, 0, 0, 0) from xlk (by decide +kernel)) rfl ?_
      obtain ⟨q0, t⟩ := t
      refine xr_icmp_ne (n := 128) (m := 176) (show xlook 56 125 = some (125, .if_icmp .ne 51, 3, 176, 0, 0, 0) from xlk (by decide +kernel)) rfl rfl q0 ⟨by decide, by decide⟩ ⟨fun c => ?_, fun c => ?_⟩
      · replace t := t.1 c
        refine xr_iinc (n := 179) (show xlook 56 176 = some (176, .iinc 2 1, 3, 0, 0, 0, 0) from xlk (by decide +kernel)) rfl (ls' := [.ref (o0), vi (x1), vi (x2 + 1), vi ((F) (o0 + 1 + 1) (x2).toNat), vi ((F) (o0 + 9) ((F) (o0 + 1 + 1) (x2).toNat).toNat), w5]) rfl rfl ?_
        refine xr_goto (m := 81) (show xlook 56 179 = some (179, .goto (-98), 3, 81, 0, 0, 0) from xlk (by decide +kernel)) rfl ?_
        exact t hPT
      · replace t := t.2 c
        refine xr_iload (n := 130) (show xlook 56 128 = some (128, .iload 4, 2, 0, 0, 0, 0) from xlk (by decide +kernel)) rfl rfl ?_
        refine xr_aload_n (n := 131) (show xlook 56 130 = some (130, .aload_n 0, 1, 0, 0, 0, 0) from xlk (by decide +kernel)) rfl rfl ?_
        obtain ⟨t1, q1, ht1, t⟩ := t
        refine xr_getr (q := t1) (show xlook 56 131 = some (131, .getfield 40, 3, 6, 0, 0, 81) from xlk (by decide +kernel)) (by decide) (xobf h0 (by decide) (by decide)) rfl q1 (by have := ht1.1; omega) (n := 134) rfl ?_
        refine xr_geti (show xlook 56 134 = some (134, .getfield 86, 3, 9, 4, 0, 91) from xlk (by decide +kernel)) (by decide) (xobf ht1 (by decide) (by decide)) rfl (n := 137) rfl ?_
        obtain ⟨q0, q1, t⟩ := t
        refine xr_icmp_ge (n := 140) (m := 176) (show xlook 56 137 = some (137, .if_icmp .ge 39, 3, 176, 0, 0, 0) from xlk (by decide +kernel)) rfl rfl q0 q1 ⟨fun c => ?_, fun c => ?_⟩
        · replace t := t.1 c
          refine xr_iinc (n := 179) (show xlook 56 176 = some (176, .iinc 2 1, 3, 0, 0, 0, 0) from xlk (by decide +kernel)) rfl (ls' := [.ref (o0), vi (x1), vi (x2 + 1), vi ((F) (o0 + 1 + 1) (x2).toNat), vi ((F) (o0 + 9) ((F) (o0 + 1 + 1) (x2).toNat).toNat), w5]) rfl rfl ?_
          refine xr_goto (m := 81) (show xlook 56 179 = some (179, .goto (-98), 3, 81, 0, 0, 0) from xlk (by decide +kernel)) rfl ?_
          exact t hPT
        · replace t := t.2 c
          refine xr_aload_n (n := 141) (show xlook 56 140 = some (140, .aload_n 0, 1, 0, 0, 0, 0) from xlk (by decide +kernel)) rfl rfl ?_
          refine xr_getr (q := o0 + 1) (show xlook 56 141 = some (141, .getfield 12, 3, 6, 1, 0, 74) from xlk (by decide +kernel)) (by decide) (xobf h0 (by decide) (by decide)) rfl (xPT_get hPT h0 (by decide)) (by have := (xtg_6_1 _ h0.1 h0.2).1; omega) (n := 144) rfl ?_
          refine xr_iload_n (n := 145) (show xlook 56 144 = some (144, .iload_n 2, 1, 0, 0, 0, 0) from xlk (by decide +kernel)) rfl rfl ?_
          refine xr_iload (n := 147) (show xlook 56 145 = some (145, .iload 4, 2, 0, 0, 0, 0) from xlk (by decide +kernel)) rfl rfl ?_
          obtain ⟨j2, y2, G2, hj2, hm2, hG2, t⟩ := t
          refine xr_callv (dk := j2) (o := o0 + 1) (as := [vi (x2), vi ((F) (o0 + 9) ((F) (o0 + 1 + 1) (x2).toNat).toNat)]) (show xlook 56 147 = some (147, .invokevirtual 150, 3, 66, 3, 0, 62) from xlk (by decide +kernel)) (by decide) hj2 ⟨Nat.le_of_ble_eq_true rfl, Nat.le_of_ble_eq_true rfl, Nat.le_of_ble_eq_true rfl⟩ ⟨(xtg_6_1 _ h0.1 h0.2).1, (xtg_6_1 _ h0.1 h0.2).2, by decide⟩ rfl hm2 (n := 150) rfl ?_
          show xE X d 56 150 [.ref (o0), vi (x1), vi (x2), vi ((F) (o0 + 1 + 1) (x2).toNat), vi ((F) (o0 + 9) ((F) (o0 + 1 + 1) (x2).toNat).toNat), w5] [vi (y2)] G2 r F'
          refine xr_istore (n := 152) (show xlook 56 150 = some (150, .istore 5, 2, 0, 0, 0, 0) from xlk (by decide +kernel)) rfl (ls' := [.ref (o0), vi (x1), vi (x2), vi ((F) (o0 + 1 + 1) (x2).toNat), vi ((F) (o0 + 9) ((F) (o0 + 1 + 1) (x2).toNat).toNat), vi (y2)]) (Nat.le_of_ble_eq_true rfl) rfl ?_
          refine xr_iload_n (n := 153) (show xlook 56 152 = some (152, .iload_n 1, 1, 0, 0, 0, 0) from xlk (by decide +kernel)) rfl rfl ?_
          refine xr_aload_n (n := 154) (show xlook 56 153 = some (153, .aload_n 0, 1, 0, 0, 0, 0) from xlk (by decide +kernel)) rfl rfl ?_
          obtain ⟨t3, q1, ht3, t⟩ := t
          refine xr_getr (q := t3) (show xlook 56 154 = some (154, .getfield 40, 3, 6, 0, 0, 81) from xlk (by decide +kernel)) (by decide) (xobf h0 (by decide) (by decide)) rfl q1 (by have := ht3.1; omega) (n := 157) rfl ?_
          refine xr_getr (q := t3 + 1) (show xlook 56 157 = some (157, .getfield 92, 3, 9, 5, 0, 92) from xlk (by decide +kernel)) (by decide) (xobf ht3 (by decide) (by decide)) rfl (xPT_get hG2 ht3 (by decide)) (by have := (xtg_9_5 _ ht3.1 ht3.2).1.1; omega) (n := 160) rfl ?_
          refine xr_iload (n := 162) (show xlook 56 160 = some (160, .iload 4, 2, 0, 0, 0, 0) from xlk (by decide +kernel)) rfl rfl ?_
          obtain ⟨q1, t⟩ := t
          have hb4 : xob 1 (t3 + 1 + 6 + ((F) (o0 + 9) ((F) (o0 + 1 + 1) (x2).toNat).toNat).toNat) := xel15 _ (xtg_9_5 _ ht3.1 ht3.2).1.1 (xtg_9_5 _ ht3.1 ht3.2).1.2 _ (by omega)
          refine xr_aald (q := t3 + 1 + 6 + ((F) (o0 + 9) ((F) (o0 + 1 + 1) (x2).toNat).toNat).toNat) (show xlook 56 162 = some (162, .aaload, 1, 0, 0, 0, 0) from xlk (by decide +kernel)) ⟨(xtg_9_5 _ ht3.1 ht3.2).1.1, (Or.inl (xtg_9_5 _ ht3.1 ht3.2).1.2)⟩ (by rw [xln15 _ (xtg_9_5 _ ht3.1 ht3.2).1.1 (Or.inl (xtg_9_5 _ ht3.1 ht3.2).1.2)]; exact q1) (xPT_el hG2 (Or.inl (xtg_9_5 _ ht3.1 ht3.2).1) q1.1 q1.2) (by have := hb4.1; omega) (n := 163) rfl ?_
          refine xr_aload_n (n := 164) (show xlook 56 163 = some (163, .aload_n 0, 1, 0, 0, 0, 0) from xlk (by decide +kernel)) rfl rfl ?_
          refine xr_geti (show xlook 56 164 = some (164, .getfield 58, 3, 6, 2, 0, 83) from xlk (by decide +kernel)) (by decide) (xobf h0 (by decide) (by decide)) rfl (n := 167) rfl ?_
          refine xr_iload (n := 169) (show xlook 56 167 = some (167, .iload 5, 2, 0, 0, 0, 0) from xlk (by decide +kernel)) rfl rfl ?_
          obtain ⟨j5, y5, G5, hj5, hm5, hG5, t⟩ := t
          refine xr_callv (dk := j5) (o := t3 + 1 + 6 + ((F) (o0 + 9) ((F) (o0 + 1 + 1) (x2).toNat).toNat).toNat) (as := [vi ((G2) (o0) 2), vi (y2)]) (show xlook 56 169 = some (169, .invokevirtual 153, 3, 12, 3, 0, 63) from xlk (by decide +kernel)) (by decide) hj5 ⟨Nat.le_of_ble_eq_true rfl, Nat.le_of_ble_eq_true rfl, Nat.le_of_ble_eq_true rfl⟩ ⟨hb4.1, hb4.2, by decide⟩ rfl hm5 (n := 172) rfl ?_
          show xE X d 56 172 [.ref (o0), vi (x1), vi (x2), vi ((F) (o0 + 1 + 1) (x2).toNat), vi ((F) (o0 + 9) ((F) (o0 + 1 + 1) (x2).toNat).toNat), vi (y2)] [vi (y5), vi (x1)] G5 r F'
          obtain ⟨q0, q1, t⟩ := t
          refine xr_min (show xlook 56 172 = some (172, .invokestatic 129, 3, 1002, 2, 0, 60) from xlk (by decide +kernel)) rfl (Nat.le_of_ble_eq_true rfl) q0 q1 (n := 175) rfl ?_
          refine xr_istore_n (n := 176) (show xlook 56 175 = some (175, .istore_n 1, 1, 0, 0, 0, 0) from xlk (by decide +kernel)) rfl (ls' := [.ref (o0), vi (min (x1) (y5)), vi (x2), vi ((F) (o0 + 1 + 1) (x2).toNat), vi ((F) (o0 + 9) ((F) (o0 + 1 + 1) (x2).toNat).toNat), vi (y2)]) (Nat.le_of_ble_eq_true rfl) rfl ?_
          refine xr_iinc (n := 179) (show xlook 56 176 = some (176, .iinc 2 1, 3, 0, 0, 0, 0) from xlk (by decide +kernel)) rfl (ls' := [.ref (o0), vi (min (x1) (y5)), vi (x2 + 1), vi ((F) (o0 + 1 + 1) (x2).toNat), vi ((F) (o0 + 9) ((F) (o0 + 1 + 1) (x2).toNat).toNat), vi (y2)]) rfl rfl ?_
          refine xr_goto (m := 81) (show xlook 56 179 = some (179, .goto (-98), 3, 81, 0, 0, 0) from xlk (by decide +kernel)) rfl ?_
          exact t hG5

theorem s57_0 {X : List Int32} {d : Nat} {F F' : XF} {r : Option Value} {o0 : Nat} {o1 : Nat} {x2 : Int} {w3 : Value} (hPT : xPT F) (h0 : xob 6 o0) (h1 : xob 9 o1) (t : ∃ (j1 : Nat) (G1 : XF), j1 < d ∧ xM X j1 48 [.ref (o0), .ref (o1)] (F) none G1 ∧ xPT G1 ∧ (∃ (j2 : Nat) (y2 : Int) (G2 : XF), j2 < d ∧ xM X j2 59 [.ref (o0)] (G1) (some (vi y2)) G2 ∧ xPT G2 ∧ (inR (y2) ∧ ((((y2) = (0)) → (xPT (G2) → xE X d 57 16 [.ref (o0), .ref (o1), vi (x2), vi (0)] [] (G2) r F')) ∧ (¬ ((y2) = (0)) → (xPT (G2) → r = some (vi ((-1))) ∧ F' = (G2))))))) : xE X d 57 0 [.ref (o0), .ref (o1), vi (x2), w3] [] F r F' := by
  refine xr_aload_n (n := 1) (show xlook 57 0 = some (0, .aload_n 0, 1, 0, 0, 0, 0) from xlk (by decide +kernel)) rfl rfl ?_
  refine xr_aload_n (n := 2) (show xlook 57 1 = some (1, .aload_n 1, 1, 0, 0, 0, 0) from xlk (by decide +kernel)) rfl rfl ?_
  obtain ⟨j1, G1, hj1, hm1, hG1, t⟩ := t
  refine xr_callv (dk := j1) (o := o0) (as := [.ref (o1)]) (show xlook 57 2 = some (2, .invokevirtual 156, 3, 48, 2, 0, 64) from xlk (by decide +kernel)) (by decide) hj1 ⟨Nat.le_of_ble_eq_true rfl, Nat.le_of_ble_eq_true rfl, Nat.le_of_ble_eq_true rfl⟩ ⟨h0.1, h0.2, by decide⟩ rfl hm1 (n := 5) rfl ?_
  show xE X d 57 5 [.ref (o0), .ref (o1), vi (x2), w3] [] G1 r F'
  refine xr_aload_n (n := 6) (show xlook 57 5 = some (5, .aload_n 0, 1, 0, 0, 0, 0) from xlk (by decide +kernel)) rfl rfl ?_
  obtain ⟨j2, y2, G2, hj2, hm2, hG2, t⟩ := t
  refine xr_callv (dk := j2) (o := o0) (as := []) (show xlook 57 6 = some (6, .invokevirtual 159, 3, 59, 1, 0, 65) from xlk (by decide +kernel)) (by decide) hj2 ⟨Nat.le_of_ble_eq_true rfl, Nat.le_of_ble_eq_true rfl, Nat.le_of_ble_eq_true rfl⟩ ⟨h0.1, h0.2, by decide⟩ rfl hm2 (n := 9) rfl ?_
  show xE X d 57 9 [.ref (o0), .ref (o1), vi (x2), w3] [vi (y2)] G2 r F'
  obtain ⟨q0, t⟩ := t
  refine xr_if_eq (n := 12) (m := 14) (show xlook 57 9 = some (9, .ifCond .eq 5, 3, 14, 0, 0, 0) from xlk (by decide +kernel)) rfl rfl q0 ⟨fun c => ?_, fun c => ?_⟩
  · replace t := t.1 c
    refine xr_iconst (n := 15) (show xlook 57 14 = some (14, .iconst 0, 1, 0, 0, 0, 0) from xlk (by decide +kernel)) rfl ?_
    refine xr_istore_n (n := 16) (show xlook 57 15 = some (15, .istore_n 3, 1, 0, 0, 0, 0) from xlk (by decide +kernel)) rfl (ls' := [.ref (o0), .ref (o1), vi (x2), vi (0)]) (Nat.le_of_ble_eq_true rfl) rfl ?_
    exact t hG2
  · replace t := t.2 c
    refine xr_iconst (n := 13) (show xlook 57 12 = some (12, .iconst (-1), 1, 0, 0, 0, 0) from xlk (by decide +kernel)) rfl ?_
    obtain ⟨e1, e2⟩ := t hG2
    subst e1
    subst e2
    exact xr_ireturn (show xlook 57 13 = some (13, .ireturn, 1, 0, 0, 0, 0) from xlk (by decide +kernel)) rfl
theorem m57 {X : List Int32} {d : Nat} {F F' : XF} {r : Option Value} {o0 : Nat} {o1 : Nat} {x2 : Int} (hPT : xPT F) (h0 : xob 6 o0) (h1 : xob 9 o1) (t : ∃ (j1 : Nat) (G1 : XF), j1 < d ∧ xM X j1 48 [.ref (o0), .ref (o1)] (F) none G1 ∧ xPT G1 ∧ (∃ (j2 : Nat) (y2 : Int) (G2 : XF), j2 < d ∧ xM X j2 59 [.ref (o0)] (G1) (some (vi y2)) G2 ∧ xPT G2 ∧ (inR (y2) ∧ ((((y2) = (0)) → (xPT (G2) → xE X d 57 16 [.ref (o0), .ref (o1), vi (x2), vi (0)] [] (G2) r F')) ∧ (¬ ((y2) = (0)) → (xPT (G2) → r = some (vi ((-1))) ∧ F' = (G2))))))) : xM X d 57 [.ref (o0), .ref (o1), vi (x2)] F r F' := by
  show xE X d 57 0 [.ref (o0), .ref (o1), vi (x2), xU0] [] F r F'
  exact s57_0 hPT h0 h1 t

theorem s57_16 {X : List Int32} {d : Nat} {F F' : XF} {r : Option Value} {o0 : Nat} {o1 : Nat} {x2 : Int} {x3 : Int} (hPT : xPT F) (h0 : xob 6 o0) (h1 : xob 9 o1) (t : inR (x3) ∧ inR (x2) ∧ ((((x2) ≤ (x3)) → (xPT (F) → xE X d 57 59 [.ref (o0), .ref (o1), vi (x2), vi (x3)] [] (F) r F')) ∧ (¬ ((x2) ≤ (x3)) → (inR ((F) (o0) 2) ∧ inR (x2) ∧ ((((x2) ≤ ((F) (o0) 2)) → (xPT (F) → xE X d 57 59 [.ref (o0), .ref (o1), vi (x2), vi (x3)] [] (F) r F')) ∧ (¬ ((x2) ≤ ((F) (o0) 2)) → (inR ((F) (o0) 3) ∧ inR ((F) (o1) 6) ∧ (((((F) (o1) 6) ≤ ((F) (o0) 3)) → (xPT (F) → xE X d 57 59 [.ref (o0), .ref (o1), vi (x2), vi (x3)] [] (F) r F')) ∧ (¬ (((F) (o1) 6) ≤ ((F) (o0) 3)) → (∃ (j1 : Nat) (y1 : Int) (G1 : XF), j1 < d ∧ xM X j1 58 [.ref (o0), vi (x2)] (F) (some (vi y1)) G1 ∧ xPT G1 ∧ (inR (y1) ∧ (((¬ (y1) = (0)) → (xPT (G1) → xE X d 57 59 [.ref (o0), .ref (o1), vi (x2), vi (x3)] [] (G1) r F')) ∧ (¬ (¬ (y1) = (0)) → (∃ (j2 : Nat) (G2 : XF), j2 < d ∧ xM X j2 55 [.ref (o0), vi (x2)] (G1) none G2 ∧ xPT G2 ∧ (xPT (G2) → xE X d 57 16 [.ref (o0), .ref (o1), vi (x2), vi (x3 + 1)] [] (G2) r F'))))))))))))))) : xE X d 57 16 [.ref (o0), .ref (o1), vi (x2), vi (x3)] [] F r F' := by
  refine xr_iload_n (n := 17) (show xlook 57 16 = some (16, .iload_n 3, 1, 0, 0, 0, 0) from xlk (by decide +kernel)) rfl rfl ?_
  refine xr_iload_n (n := 18) (show xlook 57 17 = some (17, .iload_n 2, 1, 0, 0, 0, 0) from xlk (by decide +kernel)) rfl rfl ?_
  obtain ⟨q0, q1, t⟩ := t
  refine xr_icmp_ge (n := 21) (m := 59) (show xlook 57 18 = some (18, .if_icmp .ge 41, 3, 59, 0, 0, 0) from xlk (by decide +kernel)) rfl rfl q0 q1 ⟨fun c => ?_, fun c => ?_⟩
  · replace t := t.1 c
    exact t hPT
  · replace t := t.2 c
    refine xr_aload_n (n := 22) (show xlook 57 21 = some (21, .aload_n 0, 1, 0, 0, 0, 0) from xlk (by decide +kernel)) rfl rfl ?_
    refine xr_geti (show xlook 57 22 = some (22, .getfield 58, 3, 6, 2, 0, 83) from xlk (by decide +kernel)) (by decide) (xobf h0 (by decide) (by decide)) rfl (n := 25) rfl ?_
    refine xr_iload_n (n := 26) (show xlook 57 25 = some (25, .iload_n 2, 1, 0, 0, 0, 0) from xlk (by decide +kernel)) rfl rfl ?_
    obtain ⟨q0, q1, t⟩ := t
    refine xr_icmp_ge (n := 29) (m := 59) (show xlook 57 26 = some (26, .if_icmp .ge 33, 3, 59, 0, 0, 0) from xlk (by decide +kernel)) rfl rfl q0 q1 ⟨fun c => ?_, fun c => ?_⟩
    · replace t := t.1 c
      exact t hPT
    · replace t := t.2 c
      refine xr_aload_n (n := 30) (show xlook 57 29 = some (29, .aload_n 0, 1, 0, 0, 0, 0) from xlk (by decide +kernel)) rfl rfl ?_
      refine xr_geti (show xlook 57 30 = some (30, .getfield 62, 3, 6, 3, 0, 84) from xlk (by decide +kernel)) (by decide) (xobf h0 (by decide) (by decide)) rfl (n := 33) rfl ?_
      refine xr_aload_n (n := 34) (show xlook 57 33 = some (33, .aload_n 1, 1, 0, 0, 0, 0) from xlk (by decide +kernel)) rfl rfl ?_
      refine xr_geti (show xlook 57 34 = some (34, .getfield 75, 3, 9, 6, 0, 88) from xlk (by decide +kernel)) (by decide) (xobf h1 (by decide) (by decide)) rfl (n := 37) rfl ?_
      obtain ⟨q0, q1, t⟩ := t
      refine xr_icmp_ge (n := 40) (m := 59) (show xlook 57 37 = some (37, .if_icmp .ge 22, 3, 59, 0, 0, 0) from xlk (by decide +kernel)) rfl rfl q0 q1 ⟨fun c => ?_, fun c => ?_⟩
      · replace t := t.1 c
        exact t hPT
      · replace t := t.2 c
        refine xr_aload_n (n := 41) (show xlook 57 40 = some (40, .aload_n 0, 1, 0, 0, 0, 0) from xlk (by decide +kernel)) rfl rfl ?_
        refine xr_iload_n (n := 42) (show xlook 57 41 = some (41, .iload_n 2, 1, 0, 0, 0, 0) from xlk (by decide +kernel)) rfl rfl ?_
        obtain ⟨j1, y1, G1, hj1, hm1, hG1, t⟩ := t
        refine xr_callv (dk := j1) (o := o0) (as := [vi (x2)]) (show xlook 57 42 = some (42, .invokevirtual 163, 3, 58, 2, 0, 66) from xlk (by decide +kernel)) (by decide) hj1 ⟨Nat.le_of_ble_eq_true rfl, Nat.le_of_ble_eq_true rfl, Nat.le_of_ble_eq_true rfl⟩ ⟨h0.1, h0.2, by decide⟩ rfl hm1 (n := 45) rfl ?_
        show xE X d 57 45 [.ref (o0), .ref (o1), vi (x2), vi (x3)] [vi (y1)] G1 r F'
        obtain ⟨q0, t⟩ := t
        refine xr_if_ne (n := 48) (m := 59) (show xlook 57 45 = some (45, .ifCond .ne 14, 3, 59, 0, 0, 0) from xlk (by decide +kernel)) rfl rfl q0 ⟨fun c => ?_, fun c => ?_⟩
        · replace t := t.1 c
          exact t hG1
        · replace t := t.2 c
          refine xr_aload_n (n := 49) (show xlook 57 48 = some (48, .aload_n 0, 1, 0, 0, 0, 0) from xlk (by decide +kernel)) rfl rfl ?_
          refine xr_iload_n (n := 50) (show xlook 57 49 = some (49, .iload_n 2, 1, 0, 0, 0, 0) from xlk (by decide +kernel)) rfl rfl ?_
          obtain ⟨j2, G2, hj2, hm2, hG2, t⟩ := t
          refine xr_callv (dk := j2) (o := o0) (as := [vi (x2)]) (show xlook 57 50 = some (50, .invokevirtual 167, 3, 55, 2, 0, 67) from xlk (by decide +kernel)) (by decide) hj2 ⟨Nat.le_of_ble_eq_true rfl, Nat.le_of_ble_eq_true rfl, Nat.le_of_ble_eq_true rfl⟩ ⟨h0.1, h0.2, by decide⟩ rfl hm2 (n := 53) rfl ?_
          show xE X d 57 53 [.ref (o0), .ref (o1), vi (x2), vi (x3)] [] G2 r F'
          refine xr_iinc (n := 56) (show xlook 57 53 = some (53, .iinc 3 1, 3, 0, 0, 0, 0) from xlk (by decide +kernel)) rfl (ls' := [.ref (o0), .ref (o1), vi (x2), vi (x3 + 1)]) rfl rfl ?_
          refine xr_goto (m := 16) (show xlook 57 56 = some (56, .goto (-40), 3, 16, 0, 0, 0) from xlk (by decide +kernel)) rfl ?_
          exact t hG2

theorem s57_59 {X : List Int32} {d : Nat} {F F' : XF} {r : Option Value} {o0 : Nat} {o1 : Nat} {x2 : Int} {x3 : Int} (hPT : xPT F) (h0 : xob 6 o0) (h1 : xob 9 o1) (t : inR ((F) (o0) 3) ∧ inR ((F) (o1) 6) ∧ (((((F) (o0) 3) < ((F) (o1) 6)) → (xPT (F) → r = some (vi ((-1))) ∧ F' = (F))) ∧ (¬ (((F) (o0) 3) < ((F) (o1) 6)) → (xPT (F) → r = some (vi ((F) (o0) 2)) ∧ F' = (F))))) : xE X d 57 59 [.ref (o0), .ref (o1), vi (x2), vi (x3)] [] F r F' := by
  refine xr_aload_n (n := 60) (show xlook 57 59 = some (59, .aload_n 0, 1, 0, 0, 0, 0) from xlk (by decide +kernel)) rfl rfl ?_
  refine xr_geti (show xlook 57 60 = some (60, .getfield 62, 3, 6, 3, 0, 84) from xlk (by decide +kernel)) (by decide) (xobf h0 (by decide) (by decide)) rfl (n := 63) rfl ?_
  refine xr_aload_n (n := 64) (show xlook 57 63 = some (63, .aload_n 1, 1, 0, 0, 0, 0) from xlk (by decide +kernel)) rfl rfl ?_
  refine xr_geti (show xlook 57 64 = some (64, .getfield 75, 3, 9, 6, 0, 88) from xlk (by decide +kernel)) (by decide) (xobf h1 (by decide) (by decide)) rfl (n := 67) rfl ?_
  obtain ⟨q0, q1, t⟩ := t
  refine xr_icmp_lt (n := 70) (m := 77) (show xlook 57 67 = some (67, .if_icmp .lt 10, 3, 77, 0, 0, 0) from xlk (by decide +kernel)) rfl rfl q0 q1 ⟨fun c => ?_, fun c => ?_⟩
  · replace t := t.1 c
    refine xr_iconst (n := 78) (show xlook 57 77 = some (77, .iconst (-1), 1, 0, 0, 0, 0) from xlk (by decide +kernel)) rfl ?_
    obtain ⟨e1, e2⟩ := t hPT
    subst e1
    subst e2
    exact xr_ireturn (show xlook 57 78 = some (78, .ireturn, 1, 0, 0, 0, 0) from xlk (by decide +kernel)) rfl
  · replace t := t.2 c
    refine xr_aload_n (n := 71) (show xlook 57 70 = some (70, .aload_n 0, 1, 0, 0, 0, 0) from xlk (by decide +kernel)) rfl rfl ?_
    refine xr_geti (show xlook 57 71 = some (71, .getfield 58, 3, 6, 2, 0, 83) from xlk (by decide +kernel)) (by decide) (xobf h0 (by decide) (by decide)) rfl (n := 74) rfl ?_
    refine xr_goto (m := 78) (show xlook 57 74 = some (74, .goto 4, 3, 78, 0, 0, 0) from xlk (by decide +kernel)) rfl ?_
    obtain ⟨e1, e2⟩ := t hPT
    subst e1
    subst e2
    exact xr_ireturn (show xlook 57 78 = some (78, .ireturn, 1, 0, 0, 0, 0) from xlk (by decide +kernel)) rfl

theorem s58_0 {X : List Int32} {d : Nat} {F F' : XF} {r : Option Value} {o0 : Nat} {x1 : Int} {w2 : Value} {w3 : Value} (hPT : xPT F) (h0 : xob 6 o0) (t : ∃ t1 : Nat, (F) (o0) 0 = (t1 : Int) ∧ xob 9 t1 ∧ (∃ t2 : Nat, (F) (o0) 0 = (t2 : Int) ∧ xob 9 t2 ∧ (inR ((F) (o0) 2) ∧ inR ((F) (t2) 3) ∧ (inR (((F) (t1) 6) - (1)) ∧ ((((((F) (t1) 6) - (1)) < (0)) → (xPT (F) → r = some (vi (0)) ∧ F' = (F))) ∧ (¬ ((((F) (t1) 6) - (1)) < (0)) → (∃ (j3 : Nat) (y3 : Int) (G3 : XF), j3 < d ∧ xM X j3 49 [.ref (o0), vi (((F) (t1) 6) - (1))] (F) (some (vi y3)) G3 ∧ xPT G3 ∧ (∃ t4 : Nat, (G3) (o0) 0 = (t4 : Int) ∧ xob 9 t4 ∧ (∃ t5 : Nat, (G3) (o0) 0 = (t5 : Int) ∧ xob 9 t5 ∧ (inR ((y3) + (((G3) (t4) 1) * ((x1) - (max ((F) (o0) 2) ((F) (t2) 3))))) ∧ inR ((G3) (t5) 0) ∧ (((((G3) (t5) 0) ≤ ((y3) + (((G3) (t4) 1) * ((x1) - (max ((F) (o0) 2) ((F) (t2) 3)))))) → (xPT (G3) → r = some (vi (0)) ∧ F' = (G3))) ∧ (¬ (((G3) (t5) 0) ≤ ((y3) + (((G3) (t4) 1) * ((x1) - (max ((F) (o0) 2) ((F) (t2) 3)))))) → (xPT (G3) → r = some (vi (1)) ∧ F' = (G3)))))))))))))) : xE X d 58 0 [.ref (o0), vi (x1), w2, w3] [] F r F' := by
  refine xr_aload_n (n := 1) (show xlook 58 0 = some (0, .aload_n 0, 1, 0, 0, 0, 0) from xlk (by decide +kernel)) rfl rfl ?_
  obtain ⟨t1, q1, ht1, t⟩ := t
  refine xr_getr (q := t1) (show xlook 58 1 = some (1, .getfield 40, 3, 6, 0, 0, 81) from xlk (by decide +kernel)) (by decide) (xobf h0 (by decide) (by decide)) rfl q1 (by have := ht1.1; omega) (n := 4) rfl ?_
  refine xr_geti (show xlook 58 4 = some (4, .getfield 75, 3, 9, 6, 0, 88) from xlk (by decide +kernel)) (by decide) (xobf ht1 (by decide) (by decide)) rfl (n := 7) rfl ?_
  refine xr_iconst (n := 8) (show xlook 58 7 = some (7, .iconst 1, 1, 0, 0, 0, 0) from xlk (by decide +kernel)) rfl ?_
  refine xr_isub (n := 9) (show xlook 58 8 = some (8, .isub, 1, 0, 0, 0, 0) from xlk (by decide +kernel)) rfl ?_
  refine xr_istore_n (n := 10) (show xlook 58 9 = some (9, .istore_n 2, 1, 0, 0, 0, 0) from xlk (by decide +kernel)) rfl (ls' := [.ref (o0), vi (x1), vi (((F) (t1) 6) - (1)), w3]) (Nat.le_of_ble_eq_true rfl) rfl ?_
  refine xr_iload_n (n := 11) (show xlook 58 10 = some (10, .iload_n 1, 1, 0, 0, 0, 0) from xlk (by decide +kernel)) rfl rfl ?_
  refine xr_aload_n (n := 12) (show xlook 58 11 = some (11, .aload_n 0, 1, 0, 0, 0, 0) from xlk (by decide +kernel)) rfl rfl ?_
  refine xr_geti (show xlook 58 12 = some (12, .getfield 58, 3, 6, 2, 0, 83) from xlk (by decide +kernel)) (by decide) (xobf h0 (by decide) (by decide)) rfl (n := 15) rfl ?_
  refine xr_aload_n (n := 16) (show xlook 58 15 = some (15, .aload_n 0, 1, 0, 0, 0, 0) from xlk (by decide +kernel)) rfl rfl ?_
  obtain ⟨t2, q1, ht2, t⟩ := t
  refine xr_getr (q := t2) (show xlook 58 16 = some (16, .getfield 40, 3, 6, 0, 0, 81) from xlk (by decide +kernel)) (by decide) (xobf h0 (by decide) (by decide)) rfl q1 (by have := ht2.1; omega) (n := 19) rfl ?_
  refine xr_geti (show xlook 58 19 = some (19, .getfield 138, 3, 9, 3, 0, 99) from xlk (by decide +kernel)) (by decide) (xobf ht2 (by decide) (by decide)) rfl (n := 22) rfl ?_
  obtain ⟨q0, q1, t⟩ := t
  refine xr_max (show xlook 58 22 = some (22, .invokestatic 135, 3, 1001, 2, 0, 61) from xlk (by decide +kernel)) rfl (Nat.le_of_ble_eq_true rfl) q0 q1 (n := 25) rfl ?_
  refine xr_isub (n := 26) (show xlook 58 25 = some (25, .isub, 1, 0, 0, 0, 0) from xlk (by decide +kernel)) rfl ?_
  refine xr_istore_n (n := 27) (show xlook 58 26 = some (26, .istore_n 3, 1, 0, 0, 0, 0) from xlk (by decide +kernel)) rfl (ls' := [.ref (o0), vi (x1), vi (((F) (t1) 6) - (1)), vi ((x1) - (max ((F) (o0) 2) ((F) (t2) 3)))]) (Nat.le_of_ble_eq_true rfl) rfl ?_
  refine xr_iload_n (n := 28) (show xlook 58 27 = some (27, .iload_n 2, 1, 0, 0, 0, 0) from xlk (by decide +kernel)) rfl rfl ?_
  obtain ⟨q0, t⟩ := t
  refine xr_if_lt (n := 31) (m := 60) (show xlook 58 28 = some (28, .ifCond .lt 32, 3, 60, 0, 0, 0) from xlk (by decide +kernel)) rfl rfl q0 ⟨fun c => ?_, fun c => ?_⟩
  · replace t := t.1 c
    refine xr_iconst (n := 61) (show xlook 58 60 = some (60, .iconst 0, 1, 0, 0, 0, 0) from xlk (by decide +kernel)) rfl ?_
    obtain ⟨e1, e2⟩ := t hPT
    subst e1
    subst e2
    exact xr_zreturn (show xlook 58 61 = some (61, .ireturn, 1, 0, 0, 0, 0) from xlk (by decide +kernel)) rfl (by decide)
  · replace t := t.2 c
    refine xr_aload_n (n := 32) (show xlook 58 31 = some (31, .aload_n 0, 1, 0, 0, 0, 0) from xlk (by decide +kernel)) rfl rfl ?_
    refine xr_iload_n (n := 33) (show xlook 58 32 = some (32, .iload_n 2, 1, 0, 0, 0, 0) from xlk (by decide +kernel)) rfl rfl ?_
    obtain ⟨j3, y3, G3, hj3, hm3, hG3, t⟩ := t
    refine xr_callv (dk := j3) (o := o0) (as := [vi (((F) (t1) 6) - (1))]) (show xlook 58 33 = some (33, .invokevirtual 108, 3, 49, 2, 0, 56) from xlk (by decide +kernel)) (by decide) hj3 ⟨Nat.le_of_ble_eq_true rfl, Nat.le_of_ble_eq_true rfl, Nat.le_of_ble_eq_true rfl⟩ ⟨h0.1, h0.2, by decide⟩ rfl hm3 (n := 36) rfl ?_
    show xE X d 58 36 [.ref (o0), vi (x1), vi (((F) (t1) 6) - (1)), vi ((x1) - (max ((F) (o0) 2) ((F) (t2) 3)))] [vi (y3)] G3 r F'
    refine xr_aload_n (n := 37) (show xlook 58 36 = some (36, .aload_n 0, 1, 0, 0, 0, 0) from xlk (by decide +kernel)) rfl rfl ?_
    obtain ⟨t4, q1, ht4, t⟩ := t
    refine xr_getr (q := t4) (show xlook 58 37 = some (37, .getfield 40, 3, 6, 0, 0, 81) from xlk (by decide +kernel)) (by decide) (xobf h0 (by decide) (by decide)) rfl q1 (by have := ht4.1; omega) (n := 40) rfl ?_
    refine xr_geti (show xlook 58 40 = some (40, .getfield 170, 3, 9, 1, 0, 103) from xlk (by decide +kernel)) (by decide) (xobf ht4 (by decide) (by decide)) rfl (n := 43) rfl ?_
    refine xr_iload_n (n := 44) (show xlook 58 43 = some (43, .iload_n 3, 1, 0, 0, 0, 0) from xlk (by decide +kernel)) rfl rfl ?_
    refine xr_imul (n := 45) (show xlook 58 44 = some (44, .imul, 1, 0, 0, 0, 0) from xlk (by decide +kernel)) rfl ?_
    refine xr_iadd (n := 46) (show xlook 58 45 = some (45, .iadd, 1, 0, 0, 0, 0) from xlk (by decide +kernel)) rfl ?_
    refine xr_aload_n (n := 47) (show xlook 58 46 = some (46, .aload_n 0, 1, 0, 0, 0, 0) from xlk (by decide +kernel)) rfl rfl ?_
    obtain ⟨t5, q1, ht5, t⟩ := t
    refine xr_getr (q := t5) (show xlook 58 47 = some (47, .getfield 40, 3, 6, 0, 0, 81) from xlk (by decide +kernel)) (by decide) (xobf h0 (by decide) (by decide)) rfl q1 (by have := ht5.1; omega) (n := 50) rfl ?_
    refine xr_geti (show xlook 58 50 = some (50, .getfield 173, 3, 9, 0, 0, 104) from xlk (by decide +kernel)) (by decide) (xobf ht5 (by decide) (by decide)) rfl (n := 53) rfl ?_
    obtain ⟨q0, q1, t⟩ := t
    refine xr_icmp_ge (n := 56) (m := 60) (show xlook 58 53 = some (53, .if_icmp .ge 7, 3, 60, 0, 0, 0) from xlk (by decide +kernel)) rfl rfl q0 q1 ⟨fun c => ?_, fun c => ?_⟩
    · replace t := t.1 c
      refine xr_iconst (n := 61) (show xlook 58 60 = some (60, .iconst 0, 1, 0, 0, 0, 0) from xlk (by decide +kernel)) rfl ?_
      obtain ⟨e1, e2⟩ := t hG3
      subst e1
      subst e2
      exact xr_zreturn (show xlook 58 61 = some (61, .ireturn, 1, 0, 0, 0, 0) from xlk (by decide +kernel)) rfl (by decide)
    · replace t := t.2 c
      refine xr_iconst (n := 57) (show xlook 58 56 = some (56, .iconst 1, 1, 0, 0, 0, 0) from xlk (by decide +kernel)) rfl ?_
      refine xr_goto (m := 61) (show xlook 58 57 = some (57, .goto 4, 3, 61, 0, 0, 0) from xlk (by decide +kernel)) rfl ?_
      obtain ⟨e1, e2⟩ := t hG3
      subst e1
      subst e2
      exact xr_zreturn (show xlook 58 61 = some (61, .ireturn, 1, 0, 0, 0, 0) from xlk (by decide +kernel)) rfl (by decide)
theorem m58 {X : List Int32} {d : Nat} {F F' : XF} {r : Option Value} {o0 : Nat} {x1 : Int} (hPT : xPT F) (h0 : xob 6 o0) (t : ∃ t1 : Nat, (F) (o0) 0 = (t1 : Int) ∧ xob 9 t1 ∧ (∃ t2 : Nat, (F) (o0) 0 = (t2 : Int) ∧ xob 9 t2 ∧ (inR ((F) (o0) 2) ∧ inR ((F) (t2) 3) ∧ (inR (((F) (t1) 6) - (1)) ∧ ((((((F) (t1) 6) - (1)) < (0)) → (xPT (F) → r = some (vi (0)) ∧ F' = (F))) ∧ (¬ ((((F) (t1) 6) - (1)) < (0)) → (∃ (j3 : Nat) (y3 : Int) (G3 : XF), j3 < d ∧ xM X j3 49 [.ref (o0), vi (((F) (t1) 6) - (1))] (F) (some (vi y3)) G3 ∧ xPT G3 ∧ (∃ t4 : Nat, (G3) (o0) 0 = (t4 : Int) ∧ xob 9 t4 ∧ (∃ t5 : Nat, (G3) (o0) 0 = (t5 : Int) ∧ xob 9 t5 ∧ (inR ((y3) + (((G3) (t4) 1) * ((x1) - (max ((F) (o0) 2) ((F) (t2) 3))))) ∧ inR ((G3) (t5) 0) ∧ (((((G3) (t5) 0) ≤ ((y3) + (((G3) (t4) 1) * ((x1) - (max ((F) (o0) 2) ((F) (t2) 3)))))) → (xPT (G3) → r = some (vi (0)) ∧ F' = (G3))) ∧ (¬ (((G3) (t5) 0) ≤ ((y3) + (((G3) (t4) 1) * ((x1) - (max ((F) (o0) 2) ((F) (t2) 3)))))) → (xPT (G3) → r = some (vi (1)) ∧ F' = (G3)))))))))))))) : xM X d 58 [.ref (o0), vi (x1)] F r F' := by
  show xE X d 58 0 [.ref (o0), vi (x1), xU0, xU0] [] F r F'
  exact s58_0 hPT h0 t

theorem s59_0 {X : List Int32} {d : Nat} {F F' : XF} {r : Option Value} {o0 : Nat} {w1 : Value} {w2 : Value} (hPT : xPT F) (h0 : xob 6 o0) (t : xPT (F) → xE X d 59 2 [.ref (o0), vi (0), w2] [] (F) r F') : xE X d 59 0 [.ref (o0), w1, w2] [] F r F' := by
  refine xr_iconst (n := 1) (show xlook 59 0 = some (0, .iconst 0, 1, 0, 0, 0, 0) from xlk (by decide +kernel)) rfl ?_
  refine xr_istore_n (n := 2) (show xlook 59 1 = some (1, .istore_n 1, 1, 0, 0, 0, 0) from xlk (by decide +kernel)) rfl (ls' := [.ref (o0), vi (0), w2]) (Nat.le_of_ble_eq_true rfl) rfl ?_
  exact t hPT
theorem m59 {X : List Int32} {d : Nat} {F F' : XF} {r : Option Value} {o0 : Nat} (hPT : xPT F) (h0 : xob 6 o0) (t : xPT (F) → xE X d 59 2 [.ref (o0), vi (0), xU0] [] (F) r F') : xM X d 59 [.ref (o0)] F r F' := by
  show xE X d 59 0 [.ref (o0), xU0, xU0] [] F r F'
  exact s59_0 hPT h0 t

theorem s59_2 {X : List Int32} {d : Nat} {F F' : XF} {r : Option Value} {o0 : Nat} {x1 : Int} {w2 : Value} (hPT : xPT F) (h0 : xob 6 o0) (t : inR (x1) ∧ inR ((F) (o0 + 1) 0) ∧ (((((F) (o0 + 1) 0) ≤ (x1)) → (xPT (F) → r = some (vi (0)) ∧ F' = (F))) ∧ (¬ (((F) (o0 + 1) 0) ≤ (x1)) → (xPT (F) → xE X d 59 15 [.ref (o0), vi (x1), vi (0)] [] (F) r F')))) : xE X d 59 2 [.ref (o0), vi (x1), w2] [] F r F' := by
  refine xr_iload_n (n := 3) (show xlook 59 2 = some (2, .iload_n 1, 1, 0, 0, 0, 0) from xlk (by decide +kernel)) rfl rfl ?_
  refine xr_aload_n (n := 4) (show xlook 59 3 = some (3, .aload_n 0, 1, 0, 0, 0, 0) from xlk (by decide +kernel)) rfl rfl ?_
  refine xr_getr (q := o0 + 1) (show xlook 59 4 = some (4, .getfield 12, 3, 6, 1, 0, 74) from xlk (by decide +kernel)) (by decide) (xobf h0 (by decide) (by decide)) rfl (xPT_get hPT h0 (by decide)) (by have := (xtg_6_1 _ h0.1 h0.2).1; omega) (n := 7) rfl ?_
  refine xr_geti (show xlook 59 7 = some (7, .getfield 96, 3, 7, 0, 0, 93) from xlk (by decide +kernel)) (by decide) (xobf (xtg_6_1 _ h0.1 h0.2) (by decide) (by decide)) rfl (n := 10) rfl ?_
  obtain ⟨q0, q1, t⟩ := t
  refine xr_icmp_ge (n := 13) (m := 64) (show xlook 59 10 = some (10, .if_icmp .ge 54, 3, 64, 0, 0, 0) from xlk (by decide +kernel)) rfl rfl q0 q1 ⟨fun c => ?_, fun c => ?_⟩
  · replace t := t.1 c
    refine xr_iconst (n := 65) (show xlook 59 64 = some (64, .iconst 0, 1, 0, 0, 0, 0) from xlk (by decide +kernel)) rfl ?_
    obtain ⟨e1, e2⟩ := t hPT
    subst e1
    subst e2
    exact xr_zreturn (show xlook 59 65 = some (65, .ireturn, 1, 0, 0, 0, 0) from xlk (by decide +kernel)) rfl (by decide)
  · replace t := t.2 c
    refine xr_iconst (n := 14) (show xlook 59 13 = some (13, .iconst 0, 1, 0, 0, 0, 0) from xlk (by decide +kernel)) rfl ?_
    refine xr_istore_n (n := 15) (show xlook 59 14 = some (14, .istore_n 2, 1, 0, 0, 0, 0) from xlk (by decide +kernel)) rfl (ls' := [.ref (o0), vi (x1), vi (0)]) (Nat.le_of_ble_eq_true rfl) rfl ?_
    exact t hPT

theorem s59_15 {X : List Int32} {d : Nat} {F F' : XF} {r : Option Value} {o0 : Nat} {x1 : Int} {x2 : Int} (hPT : xPT F) (h0 : xob 6 o0) (t : ∃ t1 : Nat, (F) (o0) 0 = (t1 : Int) ∧ xob 9 t1 ∧ (inR (x2) ∧ inR ((F) (t1) 4) ∧ (((((F) (t1) 4) ≤ (x2)) → (xPT (F) → xE X d 59 2 [.ref (o0), vi (x1 + 1), vi (x2)] [] (F) r F')) ∧ (¬ (((F) (t1) 4) ≤ (x2)) → (∃ t2 : Nat, (F) (o0) 0 = (t2 : Int) ∧ xob 9 t2 ∧ ((0 ≤ (x2) ∧ (x2) < 10) ∧ (∃ (j4 : Nat) (y4 : Int) (G4 : XF), j4 < d ∧ xM X j4 66 [.ref (o0 + 1), vi (x1), vi (x2)] (F) (some (vi y4)) G4 ∧ xPT G4 ∧ (∃ (j5 : Nat) (y5 : Int) (G5 : XF), j5 < d ∧ xM X j5 10 [.ref (t2 + 1 + 6 + (x2).toNat), vi (y4)] (G4) (some (vi y5)) G5 ∧ xPT G5 ∧ (inR (y5) ∧ (((¬ (y5) = (0)) → (xPT (G5) → xE X d 59 15 [.ref (o0), vi (x1), vi (x2 + 1)] [] (G5) r F')) ∧ (¬ (¬ (y5) = (0)) → (xPT (G5) → r = some (vi (1)) ∧ F' = (G5))))))))))))) : xE X d 59 15 [.ref (o0), vi (x1), vi (x2)] [] F r F' := by
  refine xr_iload_n (n := 16) (show xlook 59 15 = some (15, .iload_n 2, 1, 0, 0, 0, 0) from xlk (by decide +kernel)) rfl rfl ?_
  refine xr_aload_n (n := 17) (show xlook 59 16 = some (16, .aload_n 0, 1, 0, 0, 0, 0) from xlk (by decide +kernel)) rfl rfl ?_
  obtain ⟨t1, q1, ht1, t⟩ := t
  refine xr_getr (q := t1) (show xlook 59 17 = some (17, .getfield 40, 3, 6, 0, 0, 81) from xlk (by decide +kernel)) (by decide) (xobf h0 (by decide) (by decide)) rfl q1 (by have := ht1.1; omega) (n := 20) rfl ?_
  refine xr_geti (show xlook 59 20 = some (20, .getfield 86, 3, 9, 4, 0, 91) from xlk (by decide +kernel)) (by decide) (xobf ht1 (by decide) (by decide)) rfl (n := 23) rfl ?_
  obtain ⟨q0, q1, t⟩ := t
  refine xr_icmp_ge (n := 26) (m := 58) (show xlook 59 23 = some (23, .if_icmp .ge 35, 3, 58, 0, 0, 0) from xlk (by decide +kernel)) rfl rfl q0 q1 ⟨fun c => ?_, fun c => ?_⟩
  · replace t := t.1 c
    refine xr_iinc (n := 61) (show xlook 59 58 = some (58, .iinc 1 1, 3, 0, 0, 0, 0) from xlk (by decide +kernel)) rfl (ls' := [.ref (o0), vi (x1 + 1), vi (x2)]) rfl rfl ?_
    refine xr_goto (m := 2) (show xlook 59 61 = some (61, .goto (-59), 3, 2, 0, 0, 0) from xlk (by decide +kernel)) rfl ?_
    exact t hPT
  · replace t := t.2 c
    refine xr_aload_n (n := 27) (show xlook 59 26 = some (26, .aload_n 0, 1, 0, 0, 0, 0) from xlk (by decide +kernel)) rfl rfl ?_
    obtain ⟨t2, q1, ht2, t⟩ := t
    refine xr_getr (q := t2) (show xlook 59 27 = some (27, .getfield 40, 3, 6, 0, 0, 81) from xlk (by decide +kernel)) (by decide) (xobf h0 (by decide) (by decide)) rfl q1 (by have := ht2.1; omega) (n := 30) rfl ?_
    refine xr_getr (q := t2 + 1) (show xlook 59 30 = some (30, .getfield 92, 3, 9, 5, 0, 92) from xlk (by decide +kernel)) (by decide) (xobf ht2 (by decide) (by decide)) rfl (xPT_get hPT ht2 (by decide)) (by have := (xtg_9_5 _ ht2.1 ht2.2).1.1; omega) (n := 33) rfl ?_
    refine xr_iload_n (n := 34) (show xlook 59 33 = some (33, .iload_n 2, 1, 0, 0, 0, 0) from xlk (by decide +kernel)) rfl rfl ?_
    obtain ⟨q1, t⟩ := t
    have hb3 : xob 1 (t2 + 1 + 6 + (x2).toNat) := xel15 _ (xtg_9_5 _ ht2.1 ht2.2).1.1 (xtg_9_5 _ ht2.1 ht2.2).1.2 _ (by omega)
    refine xr_aald (q := t2 + 1 + 6 + (x2).toNat) (show xlook 59 34 = some (34, .aaload, 1, 0, 0, 0, 0) from xlk (by decide +kernel)) ⟨(xtg_9_5 _ ht2.1 ht2.2).1.1, (Or.inl (xtg_9_5 _ ht2.1 ht2.2).1.2)⟩ (by rw [xln15 _ (xtg_9_5 _ ht2.1 ht2.2).1.1 (Or.inl (xtg_9_5 _ ht2.1 ht2.2).1.2)]; exact q1) (xPT_el hPT (Or.inl (xtg_9_5 _ ht2.1 ht2.2).1) q1.1 q1.2) (by have := hb3.1; omega) (n := 35) rfl ?_
    refine xr_aload_n (n := 36) (show xlook 59 35 = some (35, .aload_n 0, 1, 0, 0, 0, 0) from xlk (by decide +kernel)) rfl rfl ?_
    refine xr_getr (q := o0 + 1) (show xlook 59 36 = some (36, .getfield 12, 3, 6, 1, 0, 74) from xlk (by decide +kernel)) (by decide) (xobf h0 (by decide) (by decide)) rfl (xPT_get hPT h0 (by decide)) (by have := (xtg_6_1 _ h0.1 h0.2).1; omega) (n := 39) rfl ?_
    refine xr_iload_n (n := 40) (show xlook 59 39 = some (39, .iload_n 1, 1, 0, 0, 0, 0) from xlk (by decide +kernel)) rfl rfl ?_
    refine xr_iload_n (n := 41) (show xlook 59 40 = some (40, .iload_n 2, 1, 0, 0, 0, 0) from xlk (by decide +kernel)) rfl rfl ?_
    obtain ⟨j4, y4, G4, hj4, hm4, hG4, t⟩ := t
    refine xr_callv (dk := j4) (o := o0 + 1) (as := [vi (x1), vi (x2)]) (show xlook 59 41 = some (41, .invokevirtual 150, 3, 66, 3, 0, 62) from xlk (by decide +kernel)) (by decide) hj4 ⟨Nat.le_of_ble_eq_true rfl, Nat.le_of_ble_eq_true rfl, Nat.le_of_ble_eq_true rfl⟩ ⟨(xtg_6_1 _ h0.1 h0.2).1, (xtg_6_1 _ h0.1 h0.2).2, by decide⟩ rfl hm4 (n := 44) rfl ?_
    show xE X d 59 44 [.ref (o0), vi (x1), vi (x2)] [vi (y4), .ref (t2 + 1 + 6 + (x2).toNat)] G4 r F'
    obtain ⟨j5, y5, G5, hj5, hm5, hG5, t⟩ := t
    refine xr_callv (dk := j5) (o := t2 + 1 + 6 + (x2).toNat) (as := [vi (y4)]) (show xlook 59 44 = some (44, .invokevirtual 176, 3, 10, 2, 0, 68) from xlk (by decide +kernel)) (by decide) hj5 ⟨Nat.le_of_ble_eq_true rfl, Nat.le_of_ble_eq_true rfl, Nat.le_of_ble_eq_true rfl⟩ ⟨hb3.1, hb3.2, by decide⟩ rfl hm5 (n := 47) rfl ?_
    show xE X d 59 47 [.ref (o0), vi (x1), vi (x2)] [vi (y5)] G5 r F'
    obtain ⟨q0, t⟩ := t
    refine xr_if_ne (n := 50) (m := 52) (show xlook 59 47 = some (47, .ifCond .ne 5, 3, 52, 0, 0, 0) from xlk (by decide +kernel)) rfl rfl q0 ⟨fun c => ?_, fun c => ?_⟩
    · replace t := t.1 c
      refine xr_iinc (n := 55) (show xlook 59 52 = some (52, .iinc 2 1, 3, 0, 0, 0, 0) from xlk (by decide +kernel)) rfl (ls' := [.ref (o0), vi (x1), vi (x2 + 1)]) rfl rfl ?_
      refine xr_goto (m := 15) (show xlook 59 55 = some (55, .goto (-40), 3, 15, 0, 0, 0) from xlk (by decide +kernel)) rfl ?_
      exact t hG5
    · replace t := t.2 c
      refine xr_iconst (n := 51) (show xlook 59 50 = some (50, .iconst 1, 1, 0, 0, 0, 0) from xlk (by decide +kernel)) rfl ?_
      obtain ⟨e1, e2⟩ := t hG5
      subst e1
      subst e2
      exact xr_zreturn (show xlook 59 51 = some (51, .ireturn, 1, 0, 0, 0, 0) from xlk (by decide +kernel)) rfl (by decide)

theorem s60_0 {X : List Int32} {d : Nat} {F F' : XF} {r : Option Value} {o0 : Nat} {w1 : Value} {w2 : Value} {w3 : Value} (hPT : xPT F) (h0 : xob 6 o0) (t : xPT (xup (F) (o0) 4 (0)) → xE X d 60 7 [.ref (o0), vi (0), w2, w3] [] (xup (F) (o0) 4 (0)) r F') : xE X d 60 0 [.ref (o0), w1, w2, w3] [] F r F' := by
  refine xr_aload_n (n := 1) (show xlook 60 0 = some (0, .aload_n 0, 1, 0, 0, 0, 0) from xlk (by decide +kernel)) rfl rfl ?_
  refine xr_iconst (n := 2) (show xlook 60 1 = some (1, .iconst 0, 1, 0, 0, 0, 0) from xlk (by decide +kernel)) rfl ?_
  refine xr_putz (show xlook 60 2 = some (2, .putfield 65, 3, 6, 4, 0, 85) from xlk (by decide +kernel)) (xobf h0 (by decide) (by decide)) rfl (by decide) (n := 5) rfl ?_
  refine xr_iconst (n := 6) (show xlook 60 5 = some (5, .iconst 0, 1, 0, 0, 0, 0) from xlk (by decide +kernel)) rfl ?_
  refine xr_istore_n (n := 7) (show xlook 60 6 = some (6, .istore_n 1, 1, 0, 0, 0, 0) from xlk (by decide +kernel)) rfl (ls' := [.ref (o0), vi (0), w2, w3]) (Nat.le_of_ble_eq_true rfl) rfl ?_
  exact t (xPT_fld hPT h0 (by decide) (by decide))
theorem m60 {X : List Int32} {d : Nat} {F F' : XF} {r : Option Value} {o0 : Nat} (hPT : xPT F) (h0 : xob 6 o0) (t : xPT (xup (F) (o0) 4 (0)) → xE X d 60 7 [.ref (o0), vi (0), xU0, xU0] [] (xup (F) (o0) 4 (0)) r F') : xM X d 60 [.ref (o0)] F r F' := by
  show xE X d 60 0 [.ref (o0), xU0, xU0, xU0] [] F r F'
  exact s60_0 hPT h0 t

theorem s60_7 {X : List Int32} {d : Nat} {F F' : XF} {r : Option Value} {o0 : Nat} {x1 : Int} {w2 : Value} {w3 : Value} (hPT : xPT F) (h0 : xob 6 o0) (t : inR (x1) ∧ inR ((F) (o0) 3) ∧ (((((F) (o0) 3) ≤ (x1)) → (∃ t1 : Nat, (F) (o0) 0 = (t1 : Int) ∧ xob 9 t1 ∧ (inR ((F) (o0) 2) ∧ inR ((F) (t1) 3) ∧ (((((F) (t1) 3) ≤ ((F) (o0) 2)) → (∃ t2 : Nat, (F) (o0) 0 = (t2 : Int) ∧ xob 9 t2 ∧ (∃ (j3 : Nat) (y3 : Int) (G3 : XF), j3 < d ∧ xM X j3 75 [.ref (t2), vi ((F) (o0) 2)] (F) (some (vi y3)) G3 ∧ xPT G3 ∧ (∃ (j4 : Nat) (y4 : Int) (G4 : XF), j4 < d ∧ xM X j4 61 [.ref (o0)] (G3) (some (vi y4)) G4 ∧ xPT G4 ∧ (xPT (G4) → xE X d 60 94 [.ref (o0), vi (y3), vi (y4), vi ((G4) (o0) 3)] [] (G4) r F'))))) ∧ (¬ (((F) (t1) 3) ≤ ((F) (o0) 2)) → (xPT (F) → xE X d 60 47 [.ref (o0), vi ((F) (o0) 3), w2, w3] [] (F) r F')))))) ∧ (¬ (((F) (o0) 3) ≤ (x1)) → ((0 ≤ (x1) ∧ (x1) < 30) ∧ (xPT (xup (F) (o0 + 8) (x1).toNat (0)) → xE X d 60 7 [.ref (o0), vi (x1 + 1), w2, w3] [] (xup (F) (o0 + 8) (x1).toNat (0)) r F'))))) : xE X d 60 7 [.ref (o0), vi (x1), w2, w3] [] F r F' := by
  refine xr_iload_n (n := 8) (show xlook 60 7 = some (7, .iload_n 1, 1, 0, 0, 0, 0) from xlk (by decide +kernel)) rfl rfl ?_
  refine xr_aload_n (n := 9) (show xlook 60 8 = some (8, .aload_n 0, 1, 0, 0, 0, 0) from xlk (by decide +kernel)) rfl rfl ?_
  refine xr_geti (show xlook 60 9 = some (9, .getfield 62, 3, 6, 3, 0, 84) from xlk (by decide +kernel)) (by decide) (xobf h0 (by decide) (by decide)) rfl (n := 12) rfl ?_
  obtain ⟨q0, q1, t⟩ := t
  refine xr_icmp_ge (n := 15) (m := 28) (show xlook 60 12 = some (12, .if_icmp .ge 16, 3, 28, 0, 0, 0) from xlk (by decide +kernel)) rfl rfl q0 q1 ⟨fun c => ?_, fun c => ?_⟩
  · replace t := t.1 c
    refine xr_aload_n (n := 29) (show xlook 60 28 = some (28, .aload_n 0, 1, 0, 0, 0, 0) from xlk (by decide +kernel)) rfl rfl ?_
    refine xr_geti (show xlook 60 29 = some (29, .getfield 58, 3, 6, 2, 0, 83) from xlk (by decide +kernel)) (by decide) (xobf h0 (by decide) (by decide)) rfl (n := 32) rfl ?_
    refine xr_aload_n (n := 33) (show xlook 60 32 = some (32, .aload_n 0, 1, 0, 0, 0, 0) from xlk (by decide +kernel)) rfl rfl ?_
    obtain ⟨t1, q1, ht1, t⟩ := t
    refine xr_getr (q := t1) (show xlook 60 33 = some (33, .getfield 40, 3, 6, 0, 0, 81) from xlk (by decide +kernel)) (by decide) (xobf h0 (by decide) (by decide)) rfl q1 (by have := ht1.1; omega) (n := 36) rfl ?_
    refine xr_geti (show xlook 60 36 = some (36, .getfield 138, 3, 9, 3, 0, 99) from xlk (by decide +kernel)) (by decide) (xobf ht1 (by decide) (by decide)) rfl (n := 39) rfl ?_
    obtain ⟨q0, q1, t⟩ := t
    refine xr_icmp_ge (n := 42) (m := 72) (show xlook 60 39 = some (39, .if_icmp .ge 33, 3, 72, 0, 0, 0) from xlk (by decide +kernel)) rfl rfl q0 q1 ⟨fun c => ?_, fun c => ?_⟩
    · replace t := t.1 c
      refine xr_aload_n (n := 73) (show xlook 60 72 = some (72, .aload_n 0, 1, 0, 0, 0, 0) from xlk (by decide +kernel)) rfl rfl ?_
      obtain ⟨t2, q1, ht2, t⟩ := t
      refine xr_getr (q := t2) (show xlook 60 73 = some (73, .getfield 40, 3, 6, 0, 0, 81) from xlk (by decide +kernel)) (by decide) (xobf h0 (by decide) (by decide)) rfl q1 (by have := ht2.1; omega) (n := 76) rfl ?_
      refine xr_aload_n (n := 77) (show xlook 60 76 = some (76, .aload_n 0, 1, 0, 0, 0, 0) from xlk (by decide +kernel)) rfl rfl ?_
      refine xr_geti (show xlook 60 77 = some (77, .getfield 58, 3, 6, 2, 0, 83) from xlk (by decide +kernel)) (by decide) (xobf h0 (by decide) (by decide)) rfl (n := 80) rfl ?_
      obtain ⟨j3, y3, G3, hj3, hm3, hG3, t⟩ := t
      refine xr_callv (dk := j3) (o := t2) (as := [vi ((F) (o0) 2)]) (show xlook 60 80 = some (80, .invokevirtual 179, 3, 75, 2, 0, 69) from xlk (by decide +kernel)) (by decide) hj3 ⟨Nat.le_of_ble_eq_true rfl, Nat.le_of_ble_eq_true rfl, Nat.le_of_ble_eq_true rfl⟩ ⟨ht2.1, ht2.2, by decide⟩ rfl hm3 (n := 83) rfl ?_
      show xE X d 60 83 [.ref (o0), vi (x1), w2, w3] [vi (y3)] G3 r F'
      refine xr_istore_n (n := 84) (show xlook 60 83 = some (83, .istore_n 1, 1, 0, 0, 0, 0) from xlk (by decide +kernel)) rfl (ls' := [.ref (o0), vi (y3), w2, w3]) (Nat.le_of_ble_eq_true rfl) rfl ?_
      refine xr_aload_n (n := 85) (show xlook 60 84 = some (84, .aload_n 0, 1, 0, 0, 0, 0) from xlk (by decide +kernel)) rfl rfl ?_
      obtain ⟨j4, y4, G4, hj4, hm4, hG4, t⟩ := t
      refine xr_callv (dk := j4) (o := o0) (as := []) (show xlook 60 85 = some (85, .invokevirtual 182, 3, 61, 1, 0, 70) from xlk (by decide +kernel)) (by decide) hj4 ⟨Nat.le_of_ble_eq_true rfl, Nat.le_of_ble_eq_true rfl, Nat.le_of_ble_eq_true rfl⟩ ⟨h0.1, h0.2, by decide⟩ rfl hm4 (n := 88) rfl ?_
      show xE X d 60 88 [.ref (o0), vi (y3), w2, w3] [vi (y4)] G4 r F'
      refine xr_istore_n (n := 89) (show xlook 60 88 = some (88, .istore_n 2, 1, 0, 0, 0, 0) from xlk (by decide +kernel)) rfl (ls' := [.ref (o0), vi (y3), vi (y4), w3]) (Nat.le_of_ble_eq_true rfl) rfl ?_
      refine xr_aload_n (n := 90) (show xlook 60 89 = some (89, .aload_n 0, 1, 0, 0, 0, 0) from xlk (by decide +kernel)) rfl rfl ?_
      refine xr_geti (show xlook 60 90 = some (90, .getfield 62, 3, 6, 3, 0, 84) from xlk (by decide +kernel)) (by decide) (xobf h0 (by decide) (by decide)) rfl (n := 93) rfl ?_
      refine xr_istore_n (n := 94) (show xlook 60 93 = some (93, .istore_n 3, 1, 0, 0, 0, 0) from xlk (by decide +kernel)) rfl (ls' := [.ref (o0), vi (y3), vi (y4), vi ((G4) (o0) 3)]) (Nat.le_of_ble_eq_true rfl) rfl ?_
      exact t hG4
    · replace t := t.2 c
      refine xr_aload_n (n := 43) (show xlook 60 42 = some (42, .aload_n 0, 1, 0, 0, 0, 0) from xlk (by decide +kernel)) rfl rfl ?_
      refine xr_geti (show xlook 60 43 = some (43, .getfield 62, 3, 6, 3, 0, 84) from xlk (by decide +kernel)) (by decide) (xobf h0 (by decide) (by decide)) rfl (n := 46) rfl ?_
      refine xr_istore_n (n := 47) (show xlook 60 46 = some (46, .istore_n 1, 1, 0, 0, 0, 0) from xlk (by decide +kernel)) rfl (ls' := [.ref (o0), vi ((F) (o0) 3), w2, w3]) (Nat.le_of_ble_eq_true rfl) rfl ?_
      exact t hPT
  · replace t := t.2 c
    refine xr_aload_n (n := 16) (show xlook 60 15 = some (15, .aload_n 0, 1, 0, 0, 0, 0) from xlk (by decide +kernel)) rfl rfl ?_
    refine xr_getr (q := o0 + 8) (show xlook 60 16 = some (16, .getfield 22, 3, 6, 7, 0, 76) from xlk (by decide +kernel)) (by decide) (xobf h0 (by decide) (by decide)) rfl (xPT_get hPT h0 (by decide)) (by have := (xtg_6_7 _ h0.1 h0.2).1.1; omega) (n := 19) rfl ?_
    refine xr_iload_n (n := 20) (show xlook 60 19 = some (19, .iload_n 1, 1, 0, 0, 0, 0) from xlk (by decide +kernel)) rfl rfl ?_
    refine xr_iconst (n := 21) (show xlook 60 20 = some (20, .iconst 0, 1, 0, 0, 0, 0) from xlk (by decide +kernel)) rfl ?_
    obtain ⟨q1, t⟩ := t
    refine xr_iast (show xlook 60 21 = some (21, .iastore, 1, 0, 0, 0, 0) from xlk (by decide +kernel)) (xtg_6_7 _ h0.1 h0.2).1 (by rw [(xtg_6_7 _ h0.1 h0.2).2]; exact q1) (n := 22) rfl ?_
    refine xr_iinc (n := 25) (show xlook 60 22 = some (22, .iinc 1 1, 3, 0, 0, 0, 0) from xlk (by decide +kernel)) rfl (ls' := [.ref (o0), vi (x1 + 1), w2, w3]) rfl rfl ?_
    refine xr_goto (m := 7) (show xlook 60 25 = some (25, .goto (-18), 3, 7, 0, 0, 0) from xlk (by decide +kernel)) rfl ?_
    exact t (xPT_arr hPT (Or.inl (xtg_6_7 _ h0.1 h0.2).1.2))

theorem s60_47 {X : List Int32} {d : Nat} {F F' : XF} {r : Option Value} {o0 : Nat} {x1 : Int} {w2 : Value} {w3 : Value} (hPT : xPT F) (h0 : xob 6 o0) (t : ∃ t1 : Nat, (F) (o0) 0 = (t1 : Int) ∧ xob 9 t1 ∧ (inR (x1) ∧ inR ((F) (t1) 6) ∧ (((((F) (t1) 6) ≤ (x1)) → (xPT (F) → r = none ∧ F' = (F))) ∧ (¬ (((F) (t1) 6) ≤ (x1)) → ((0 ≤ (x1) ∧ (x1) < 30) ∧ (xPT (xup (F) (o0 + 8) (x1).toNat (1)) → xE X d 60 47 [.ref (o0), vi (x1 + 1), w2, w3] [] (xup (F) (o0 + 8) (x1).toNat (1)) r F')))))) : xE X d 60 47 [.ref (o0), vi (x1), w2, w3] [] F r F' := by
  refine xr_iload_n (n := 48) (show xlook 60 47 = some (47, .iload_n 1, 1, 0, 0, 0, 0) from xlk (by decide +kernel)) rfl rfl ?_
  refine xr_aload_n (n := 49) (show xlook 60 48 = some (48, .aload_n 0, 1, 0, 0, 0, 0) from xlk (by decide +kernel)) rfl rfl ?_
  obtain ⟨t1, q1, ht1, t⟩ := t
  refine xr_getr (q := t1) (show xlook 60 49 = some (49, .getfield 40, 3, 6, 0, 0, 81) from xlk (by decide +kernel)) (by decide) (xobf h0 (by decide) (by decide)) rfl q1 (by have := ht1.1; omega) (n := 52) rfl ?_
  refine xr_geti (show xlook 60 52 = some (52, .getfield 75, 3, 9, 6, 0, 88) from xlk (by decide +kernel)) (by decide) (xobf ht1 (by decide) (by decide)) rfl (n := 55) rfl ?_
  obtain ⟨q0, q1, t⟩ := t
  refine xr_icmp_ge (n := 58) (m := 71) (show xlook 60 55 = some (55, .if_icmp .ge 16, 3, 71, 0, 0, 0) from xlk (by decide +kernel)) rfl rfl q0 q1 ⟨fun c => ?_, fun c => ?_⟩
  · replace t := t.1 c
    obtain ⟨e1, e2⟩ := t hPT
    subst e1
    subst e2
    exact xr_return (show xlook 60 71 = some (71, .return_, 1, 0, 0, 0, 0) from xlk (by decide +kernel)) rfl
  · replace t := t.2 c
    refine xr_aload_n (n := 59) (show xlook 60 58 = some (58, .aload_n 0, 1, 0, 0, 0, 0) from xlk (by decide +kernel)) rfl rfl ?_
    refine xr_getr (q := o0 + 8) (show xlook 60 59 = some (59, .getfield 22, 3, 6, 7, 0, 76) from xlk (by decide +kernel)) (by decide) (xobf h0 (by decide) (by decide)) rfl (xPT_get hPT h0 (by decide)) (by have := (xtg_6_7 _ h0.1 h0.2).1.1; omega) (n := 62) rfl ?_
    refine xr_iload_n (n := 63) (show xlook 60 62 = some (62, .iload_n 1, 1, 0, 0, 0, 0) from xlk (by decide +kernel)) rfl rfl ?_
    refine xr_iconst (n := 64) (show xlook 60 63 = some (63, .iconst 1, 1, 0, 0, 0, 0) from xlk (by decide +kernel)) rfl ?_
    obtain ⟨q1, t⟩ := t
    refine xr_iast (show xlook 60 64 = some (64, .iastore, 1, 0, 0, 0, 0) from xlk (by decide +kernel)) (xtg_6_7 _ h0.1 h0.2).1 (by rw [(xtg_6_7 _ h0.1 h0.2).2]; exact q1) (n := 65) rfl ?_
    refine xr_iinc (n := 68) (show xlook 60 65 = some (65, .iinc 1 1, 3, 0, 0, 0, 0) from xlk (by decide +kernel)) rfl (ls' := [.ref (o0), vi (x1 + 1), w2, w3]) rfl rfl ?_
    refine xr_goto (m := 47) (show xlook 60 68 = some (68, .goto (-21), 3, 47, 0, 0, 0) from xlk (by decide +kernel)) rfl ?_
    exact t (xPT_arr hPT (Or.inl (xtg_6_7 _ h0.1 h0.2).1.2))

theorem s60_94 {X : List Int32} {d : Nat} {F F' : XF} {r : Option Value} {o0 : Nat} {x1 : Int} {x2 : Int} {x3 : Int} (hPT : xPT F) (h0 : xob 6 o0) (t : ∃ t1 : Nat, (F) (o0) 0 = (t1 : Int) ∧ xob 9 t1 ∧ (inR (x3) ∧ inR ((F) (t1) 6) ∧ (((((F) (t1) 6) ≤ (x3)) → (xPT (F) → r = none ∧ F' = (F))) ∧ (¬ (((F) (t1) 6) ≤ (x3)) → (inR (xand (xshr (x1) (x3)) (1)) ∧ ((((xand (xshr (x1) (x3)) (1)) = (0)) → (∃ (j2 : Nat) (G2 : XF), j2 < d ∧ xM X j2 62 [.ref (o0), vi (x3), vi (x2)] (F) none G2 ∧ xPT G2 ∧ (xPT (G2) → xE X d 60 94 [.ref (o0), vi (x1), vi (x2), vi (x3 + 1)] [] (G2) r F'))) ∧ (¬ ((xand (xshr (x1) (x3)) (1)) = (0)) → ((0 ≤ (x3) ∧ (x3) < 30) ∧ (xPT (xup (F) (o0 + 8) (x3).toNat (2)) → xE X d 60 94 [.ref (o0), vi (x1), vi (x2), vi (x3 + 1)] [] (xup (F) (o0 + 8) (x3).toNat (2)) r F'))))))))) : xE X d 60 94 [.ref (o0), vi (x1), vi (x2), vi (x3)] [] F r F' := by
  refine xr_iload_n (n := 95) (show xlook 60 94 = some (94, .iload_n 3, 1, 0, 0, 0, 0) from xlk (by decide +kernel)) rfl rfl ?_
  refine xr_aload_n (n := 96) (show xlook 60 95 = some (95, .aload_n 0, 1, 0, 0, 0, 0) from xlk (by decide +kernel)) rfl rfl ?_
  obtain ⟨t1, q1, ht1, t⟩ := t
  refine xr_getr (q := t1) (show xlook 60 96 = some (96, .getfield 40, 3, 6, 0, 0, 81) from xlk (by decide +kernel)) (by decide) (xobf h0 (by decide) (by decide)) rfl q1 (by have := ht1.1; omega) (n := 99) rfl ?_
  refine xr_geti (show xlook 60 99 = some (99, .getfield 75, 3, 9, 6, 0, 88) from xlk (by decide +kernel)) (by decide) (xobf ht1 (by decide) (by decide)) rfl (n := 102) rfl ?_
  obtain ⟨q0, q1, t⟩ := t
  refine xr_icmp_ge (n := 105) (m := 135) (show xlook 60 102 = some (102, .if_icmp .ge 33, 3, 135, 0, 0, 0) from xlk (by decide +kernel)) rfl rfl q0 q1 ⟨fun c => ?_, fun c => ?_⟩
  · replace t := t.1 c
    obtain ⟨e1, e2⟩ := t hPT
    subst e1
    subst e2
    exact xr_return (show xlook 60 135 = some (135, .return_, 1, 0, 0, 0, 0) from xlk (by decide +kernel)) rfl
  · replace t := t.2 c
    refine xr_iload_n (n := 106) (show xlook 60 105 = some (105, .iload_n 1, 1, 0, 0, 0, 0) from xlk (by decide +kernel)) rfl rfl ?_
    refine xr_iload_n (n := 107) (show xlook 60 106 = some (106, .iload_n 3, 1, 0, 0, 0, 0) from xlk (by decide +kernel)) rfl rfl ?_
    refine xr_ishr (n := 108) (show xlook 60 107 = some (107, .ishr, 1, 0, 0, 0, 0) from xlk (by decide +kernel)) rfl ?_
    refine xr_iconst (n := 109) (show xlook 60 108 = some (108, .iconst 1, 1, 0, 0, 0, 0) from xlk (by decide +kernel)) rfl ?_
    refine xr_iand (n := 110) (show xlook 60 109 = some (109, .iand, 1, 0, 0, 0, 0) from xlk (by decide +kernel)) rfl ?_
    obtain ⟨q0, t⟩ := t
    refine xr_if_eq (n := 113) (m := 123) (show xlook 60 110 = some (110, .ifCond .eq 13, 3, 123, 0, 0, 0) from xlk (by decide +kernel)) rfl rfl q0 ⟨fun c => ?_, fun c => ?_⟩
    · replace t := t.1 c
      refine xr_aload_n (n := 124) (show xlook 60 123 = some (123, .aload_n 0, 1, 0, 0, 0, 0) from xlk (by decide +kernel)) rfl rfl ?_
      refine xr_iload_n (n := 125) (show xlook 60 124 = some (124, .iload_n 3, 1, 0, 0, 0, 0) from xlk (by decide +kernel)) rfl rfl ?_
      refine xr_iload_n (n := 126) (show xlook 60 125 = some (125, .iload_n 2, 1, 0, 0, 0, 0) from xlk (by decide +kernel)) rfl rfl ?_
      obtain ⟨j2, G2, hj2, hm2, hG2, t⟩ := t
      refine xr_callv (dk := j2) (o := o0) (as := [vi (x3), vi (x2)]) (show xlook 60 126 = some (126, .invokevirtual 185, 3, 62, 3, 0, 71) from xlk (by decide +kernel)) (by decide) hj2 ⟨Nat.le_of_ble_eq_true rfl, Nat.le_of_ble_eq_true rfl, Nat.le_of_ble_eq_true rfl⟩ ⟨h0.1, h0.2, by decide⟩ rfl hm2 (n := 129) rfl ?_
      show xE X d 60 129 [.ref (o0), vi (x1), vi (x2), vi (x3)] [] G2 r F'
      refine xr_iinc (n := 132) (show xlook 60 129 = some (129, .iinc 3 1, 3, 0, 0, 0, 0) from xlk (by decide +kernel)) rfl (ls' := [.ref (o0), vi (x1), vi (x2), vi (x3 + 1)]) rfl rfl ?_
      refine xr_goto (m := 94) (show xlook 60 132 = some (132, .goto (-38), 3, 94, 0, 0, 0) from xlk (by decide +kernel)) rfl ?_
      exact t hG2
    · replace t := t.2 c
      refine xr_aload_n (n := 114) (show xlook 60 113 = some (113, .aload_n 0, 1, 0, 0, 0, 0) from xlk (by decide +kernel)) rfl rfl ?_
      refine xr_getr (q := o0 + 8) (show xlook 60 114 = some (114, .getfield 22, 3, 6, 7, 0, 76) from xlk (by decide +kernel)) (by decide) (xobf h0 (by decide) (by decide)) rfl (xPT_get hPT h0 (by decide)) (by have := (xtg_6_7 _ h0.1 h0.2).1.1; omega) (n := 117) rfl ?_
      refine xr_iload_n (n := 118) (show xlook 60 117 = some (117, .iload_n 3, 1, 0, 0, 0, 0) from xlk (by decide +kernel)) rfl rfl ?_
      refine xr_iconst (n := 119) (show xlook 60 118 = some (118, .iconst 2, 1, 0, 0, 0, 0) from xlk (by decide +kernel)) rfl ?_
      obtain ⟨q1, t⟩ := t
      refine xr_iast (show xlook 60 119 = some (119, .iastore, 1, 0, 0, 0, 0) from xlk (by decide +kernel)) (xtg_6_7 _ h0.1 h0.2).1 (by rw [(xtg_6_7 _ h0.1 h0.2).2]; exact q1) (n := 120) rfl ?_
      refine xr_goto (m := 129) (show xlook 60 120 = some (120, .goto 9, 3, 129, 0, 0, 0) from xlk (by decide +kernel)) rfl ?_
      refine xr_iinc (n := 132) (show xlook 60 129 = some (129, .iinc 3 1, 3, 0, 0, 0, 0) from xlk (by decide +kernel)) rfl (ls' := [.ref (o0), vi (x1), vi (x2), vi (x3 + 1)]) rfl rfl ?_
      refine xr_goto (m := 94) (show xlook 60 132 = some (132, .goto (-38), 3, 94, 0, 0, 0) from xlk (by decide +kernel)) rfl ?_
      exact t (xPT_arr hPT (Or.inl (xtg_6_7 _ h0.1 h0.2).1.2))

theorem s61_0 {X : List Int32} {d : Nat} {F F' : XF} {r : Option Value} {o0 : Nat} {w1 : Value} (hPT : xPT F) (h0 : xob 6 o0) (t : ∃ t1 : Nat, (F) (o0) 0 = (t1 : Int) ∧ xob 9 t1 ∧ (inR ((F) (t1) 9) ∧ (((((F) (t1) 9) = (0)) → (xPT (F) → r = some (vi (1)) ∧ F' = (F))) ∧ (¬ (((F) (t1) 9) = (0)) → (inR ((F) (o0) 3) ∧ (((((F) (o0) 3) ≤ (0)) → (xPT (F) → xE X d 61 21 [.ref (o0), vi (1)] [] (F) r F')) ∧ (¬ (((F) (o0) 3) ≤ (0)) → (xPT (F) → r = some (vi (1)) ∧ F' = (F))))))))) : xE X d 61 0 [.ref (o0), w1] [] F r F' := by
  refine xr_aload_n (n := 1) (show xlook 61 0 = some (0, .aload_n 0, 1, 0, 0, 0, 0) from xlk (by decide +kernel)) rfl rfl ?_
  obtain ⟨t1, q1, ht1, t⟩ := t
  refine xr_getr (q := t1) (show xlook 61 1 = some (1, .getfield 40, 3, 6, 0, 0, 81) from xlk (by decide +kernel)) (by decide) (xobf h0 (by decide) (by decide)) rfl q1 (by have := ht1.1; omega) (n := 4) rfl ?_
  refine xr_geti (show xlook 61 4 = some (4, .getfield 189, 3, 9, 9, 0, 105) from xlk (by decide +kernel)) (by decide) (xobf ht1 (by decide) (by decide)) rfl (n := 7) rfl ?_
  obtain ⟨q0, t⟩ := t
  refine xr_if_eq (n := 10) (m := 17) (show xlook 61 7 = some (7, .ifCond .eq 10, 3, 17, 0, 0, 0) from xlk (by decide +kernel)) rfl rfl q0 ⟨fun c => ?_, fun c => ?_⟩
  · replace t := t.1 c
    refine xr_iconst (n := 18) (show xlook 61 17 = some (17, .iconst 1, 1, 0, 0, 0, 0) from xlk (by decide +kernel)) rfl ?_
    obtain ⟨e1, e2⟩ := t hPT
    subst e1
    subst e2
    exact xr_zreturn (show xlook 61 18 = some (18, .ireturn, 1, 0, 0, 0, 0) from xlk (by decide +kernel)) rfl (by decide)
  · replace t := t.2 c
    refine xr_aload_n (n := 11) (show xlook 61 10 = some (10, .aload_n 0, 1, 0, 0, 0, 0) from xlk (by decide +kernel)) rfl rfl ?_
    refine xr_geti (show xlook 61 11 = some (11, .getfield 62, 3, 6, 3, 0, 84) from xlk (by decide +kernel)) (by decide) (xobf h0 (by decide) (by decide)) rfl (n := 14) rfl ?_
    obtain ⟨q0, t⟩ := t
    refine xr_if_le (n := 17) (m := 19) (show xlook 61 14 = some (14, .ifCond .le 5, 3, 19, 0, 0, 0) from xlk (by decide +kernel)) rfl rfl q0 ⟨fun c => ?_, fun c => ?_⟩
    · replace t := t.1 c
      refine xr_iconst (n := 20) (show xlook 61 19 = some (19, .iconst 1, 1, 0, 0, 0, 0) from xlk (by decide +kernel)) rfl ?_
      refine xr_istore_n (n := 21) (show xlook 61 20 = some (20, .istore_n 1, 1, 0, 0, 0, 0) from xlk (by decide +kernel)) rfl (ls' := [.ref (o0), vi (1)]) (Nat.le_of_ble_eq_true rfl) rfl ?_
      exact t hPT
    · replace t := t.2 c
      refine xr_iconst (n := 18) (show xlook 61 17 = some (17, .iconst 1, 1, 0, 0, 0, 0) from xlk (by decide +kernel)) rfl ?_
      obtain ⟨e1, e2⟩ := t hPT
      subst e1
      subst e2
      exact xr_zreturn (show xlook 61 18 = some (18, .ireturn, 1, 0, 0, 0, 0) from xlk (by decide +kernel)) rfl (by decide)
theorem m61 {X : List Int32} {d : Nat} {F F' : XF} {r : Option Value} {o0 : Nat} (hPT : xPT F) (h0 : xob 6 o0) (t : ∃ t1 : Nat, (F) (o0) 0 = (t1 : Int) ∧ xob 9 t1 ∧ (inR ((F) (t1) 9) ∧ (((((F) (t1) 9) = (0)) → (xPT (F) → r = some (vi (1)) ∧ F' = (F))) ∧ (¬ (((F) (t1) 9) = (0)) → (inR ((F) (o0) 3) ∧ (((((F) (o0) 3) ≤ (0)) → (xPT (F) → xE X d 61 21 [.ref (o0), vi (1)] [] (F) r F')) ∧ (¬ (((F) (o0) 3) ≤ (0)) → (xPT (F) → r = some (vi (1)) ∧ F' = (F))))))))) : xM X d 61 [.ref (o0)] F r F' := by
  show xE X d 61 0 [.ref (o0), xU0] [] F r F'
  exact s61_0 hPT h0 t

theorem s61_21 {X : List Int32} {d : Nat} {F F' : XF} {r : Option Value} {o0 : Nat} {x1 : Int} (hPT : xPT F) (h0 : xob 6 o0) (t : ∃ t1 : Nat, (F) (o0) 0 = (t1 : Int) ∧ xob 9 t1 ∧ (inR (x1) ∧ inR ((F) (t1) 6) ∧ (((((F) (t1) 6) ≤ (x1)) → (xPT (F) → r = some (vi (1)) ∧ F' = (F))) ∧ (¬ (((F) (t1) 6) ≤ (x1)) → ((0 ≤ (x1) ∧ (x1) < 30) ∧ (∃ (j2 : Nat) (y2 : Int) (G2 : XF), j2 < d ∧ xM X j2 49 [.ref (o0), vi ((x1) - (1))] (F) (some (vi y2)) G2 ∧ xPT G2 ∧ (∃ t3 : Nat, (G2) (o0) 0 = (t3 : Int) ∧ xob 9 t3 ∧ (inR ((F) (o0 + 7) (x1).toNat) ∧ inR ((y2) - ((G2) (t3) 2)) ∧ (((((F) (o0 + 7) (x1).toNat) = ((y2) - ((G2) (t3) 2))) → (xPT (G2) → xE X d 61 21 [.ref (o0), vi (x1 + 1)] [] (G2) r F')) ∧ (¬ (((F) (o0 + 7) (x1).toNat) = ((y2) - ((G2) (t3) 2))) → (xPT (G2) → r = some (vi (0)) ∧ F' = (G2)))))))))))) : xE X d 61 21 [.ref (o0), vi (x1)] [] F r F' := by
  refine xr_iload_n (n := 22) (show xlook 61 21 = some (21, .iload_n 1, 1, 0, 0, 0, 0) from xlk (by decide +kernel)) rfl rfl ?_
  refine xr_aload_n (n := 23) (show xlook 61 22 = some (22, .aload_n 0, 1, 0, 0, 0, 0) from xlk (by decide +kernel)) rfl rfl ?_
  obtain ⟨t1, q1, ht1, t⟩ := t
  refine xr_getr (q := t1) (show xlook 61 23 = some (23, .getfield 40, 3, 6, 0, 0, 81) from xlk (by decide +kernel)) (by decide) (xobf h0 (by decide) (by decide)) rfl q1 (by have := ht1.1; omega) (n := 26) rfl ?_
  refine xr_geti (show xlook 61 26 = some (26, .getfield 75, 3, 9, 6, 0, 88) from xlk (by decide +kernel)) (by decide) (xobf ht1 (by decide) (by decide)) rfl (n := 29) rfl ?_
  obtain ⟨q0, q1, t⟩ := t
  refine xr_icmp_ge (n := 32) (m := 64) (show xlook 61 29 = some (29, .if_icmp .ge 35, 3, 64, 0, 0, 0) from xlk (by decide +kernel)) rfl rfl q0 q1 ⟨fun c => ?_, fun c => ?_⟩
  · replace t := t.1 c
    refine xr_iconst (n := 65) (show xlook 61 64 = some (64, .iconst 1, 1, 0, 0, 0, 0) from xlk (by decide +kernel)) rfl ?_
    obtain ⟨e1, e2⟩ := t hPT
    subst e1
    subst e2
    exact xr_zreturn (show xlook 61 65 = some (65, .ireturn, 1, 0, 0, 0, 0) from xlk (by decide +kernel)) rfl (by decide)
  · replace t := t.2 c
    refine xr_aload_n (n := 33) (show xlook 61 32 = some (32, .aload_n 0, 1, 0, 0, 0, 0) from xlk (by decide +kernel)) rfl rfl ?_
    refine xr_getr (q := o0 + 7) (show xlook 61 33 = some (33, .getfield 18, 3, 6, 6, 0, 75) from xlk (by decide +kernel)) (by decide) (xobf h0 (by decide) (by decide)) rfl (xPT_get hPT h0 (by decide)) (by have := (xtg_6_6 _ h0.1 h0.2).1.1; omega) (n := 36) rfl ?_
    refine xr_iload_n (n := 37) (show xlook 61 36 = some (36, .iload_n 1, 1, 0, 0, 0, 0) from xlk (by decide +kernel)) rfl rfl ?_
    obtain ⟨q1, t⟩ := t
    refine xr_iald (show xlook 61 37 = some (37, .iaload, 1, 0, 0, 0, 0) from xlk (by decide +kernel)) (xtg_6_6 _ h0.1 h0.2).1 (by rw [(xtg_6_6 _ h0.1 h0.2).2]; exact q1) (n := 38) rfl ?_
    refine xr_aload_n (n := 39) (show xlook 61 38 = some (38, .aload_n 0, 1, 0, 0, 0, 0) from xlk (by decide +kernel)) rfl rfl ?_
    refine xr_iload_n (n := 40) (show xlook 61 39 = some (39, .iload_n 1, 1, 0, 0, 0, 0) from xlk (by decide +kernel)) rfl rfl ?_
    refine xr_iconst (n := 41) (show xlook 61 40 = some (40, .iconst 1, 1, 0, 0, 0, 0) from xlk (by decide +kernel)) rfl ?_
    refine xr_isub (n := 42) (show xlook 61 41 = some (41, .isub, 1, 0, 0, 0, 0) from xlk (by decide +kernel)) rfl ?_
    obtain ⟨j2, y2, G2, hj2, hm2, hG2, t⟩ := t
    refine xr_callv (dk := j2) (o := o0) (as := [vi ((x1) - (1))]) (show xlook 61 42 = some (42, .invokevirtual 108, 3, 49, 2, 0, 56) from xlk (by decide +kernel)) (by decide) hj2 ⟨Nat.le_of_ble_eq_true rfl, Nat.le_of_ble_eq_true rfl, Nat.le_of_ble_eq_true rfl⟩ ⟨h0.1, h0.2, by decide⟩ rfl hm2 (n := 45) rfl ?_
    show xE X d 61 45 [.ref (o0), vi (x1)] [vi (y2), vi ((F) (o0 + 7) (x1).toNat)] G2 r F'
    refine xr_aload_n (n := 46) (show xlook 61 45 = some (45, .aload_n 0, 1, 0, 0, 0, 0) from xlk (by decide +kernel)) rfl rfl ?_
    obtain ⟨t3, q1, ht3, t⟩ := t
    refine xr_getr (q := t3) (show xlook 61 46 = some (46, .getfield 40, 3, 6, 0, 0, 81) from xlk (by decide +kernel)) (by decide) (xobf h0 (by decide) (by decide)) rfl q1 (by have := ht3.1; omega) (n := 49) rfl ?_
    refine xr_geti (show xlook 61 49 = some (49, .getfield 83, 3, 9, 2, 0, 90) from xlk (by decide +kernel)) (by decide) (xobf ht3 (by decide) (by decide)) rfl (n := 52) rfl ?_
    refine xr_isub (n := 53) (show xlook 61 52 = some (52, .isub, 1, 0, 0, 0, 0) from xlk (by decide +kernel)) rfl ?_
    obtain ⟨q0, q1, t⟩ := t
    refine xr_icmp_eq (n := 56) (m := 58) (show xlook 61 53 = some (53, .if_icmp .eq 5, 3, 58, 0, 0, 0) from xlk (by decide +kernel)) rfl rfl q0 q1 ⟨fun c => ?_, fun c => ?_⟩
    · replace t := t.1 c
      refine xr_iinc (n := 61) (show xlook 61 58 = some (58, .iinc 1 1, 3, 0, 0, 0, 0) from xlk (by decide +kernel)) rfl (ls' := [.ref (o0), vi (x1 + 1)]) rfl rfl ?_
      refine xr_goto (m := 21) (show xlook 61 61 = some (61, .goto (-40), 3, 21, 0, 0, 0) from xlk (by decide +kernel)) rfl ?_
      exact t hG2
    · replace t := t.2 c
      refine xr_iconst (n := 57) (show xlook 61 56 = some (56, .iconst 0, 1, 0, 0, 0, 0) from xlk (by decide +kernel)) rfl ?_
      obtain ⟨e1, e2⟩ := t hG2
      subst e1
      subst e2
      exact xr_zreturn (show xlook 61 57 = some (57, .ireturn, 1, 0, 0, 0, 0) from xlk (by decide +kernel)) rfl (by decide)

theorem s62_0 {X : List Int32} {d : Nat} {F F' : XF} {r : Option Value} {o0 : Nat} {x1 : Int} {x2 : Int} {w3 : Value} {w4 : Value} {w5 : Value} {w6 : Value} {w7 : Value} {w8 : Value} (hPT : xPT F) (h0 : xob 6 o0) (t : (0 ≤ (x1) ∧ (x1) < 30) ∧ (∃ t1 : Nat, (F) (o0) 0 = (t1 : Int) ∧ xob 9 t1 ∧ (inR (x1) ∧ (((¬ (x1) = (0)) → (xPT (F) → xE X d 62 82 [.ref (o0), vi (x1), vi (x2), vi ((F) (o0 + 7) (x1).toNat), vi (((F) (o0 + 7) (x1).toNat) + ((F) (t1) 1)), vi (3), w6, w7, w8] [] (F) r F')) ∧ (¬ (¬ (x1) = (0)) → (inR (x2) ∧ (((¬ (x2) = (0)) → (xPT (F) → xE X d 62 82 [.ref (o0), vi (x1), vi (x2), vi ((F) (o0 + 7) (x1).toNat), vi (((F) (o0 + 7) (x1).toNat) + ((F) (t1) 1)), vi (3), w6, w7, w8] [] (F) r F')) ∧ (¬ (¬ (x2) = (0)) → (xPT (F) → xE X d 62 32 [.ref (o0), vi (x1), vi (x2), vi ((F) (o0 + 7) (x1).toNat), vi (((F) (o0 + 7) (x1).toNat) + ((F) (t1) 1)), vi (3), vi (0), w7, w8] [] (F) r F'))))))))) : xE X d 62 0 [.ref (o0), vi (x1), vi (x2), w3, w4, w5, w6, w7, w8] [] F r F' := by
  refine xr_aload_n (n := 1) (show xlook 62 0 = some (0, .aload_n 0, 1, 0, 0, 0, 0) from xlk (by decide +kernel)) rfl rfl ?_
  refine xr_getr (q := o0 + 7) (show xlook 62 1 = some (1, .getfield 18, 3, 6, 6, 0, 75) from xlk (by decide +kernel)) (by decide) (xobf h0 (by decide) (by decide)) rfl (xPT_get hPT h0 (by decide)) (by have := (xtg_6_6 _ h0.1 h0.2).1.1; omega) (n := 4) rfl ?_
  refine xr_iload_n (n := 5) (show xlook 62 4 = some (4, .iload_n 1, 1, 0, 0, 0, 0) from xlk (by decide +kernel)) rfl rfl ?_
  obtain ⟨q1, t⟩ := t
  refine xr_iald (show xlook 62 5 = some (5, .iaload, 1, 0, 0, 0, 0) from xlk (by decide +kernel)) (xtg_6_6 _ h0.1 h0.2).1 (by rw [(xtg_6_6 _ h0.1 h0.2).2]; exact q1) (n := 6) rfl ?_
  refine xr_istore_n (n := 7) (show xlook 62 6 = some (6, .istore_n 3, 1, 0, 0, 0, 0) from xlk (by decide +kernel)) rfl (ls' := [.ref (o0), vi (x1), vi (x2), vi ((F) (o0 + 7) (x1).toNat), w4, w5, w6, w7, w8]) (Nat.le_of_ble_eq_true rfl) rfl ?_
  refine xr_iload_n (n := 8) (show xlook 62 7 = some (7, .iload_n 3, 1, 0, 0, 0, 0) from xlk (by decide +kernel)) rfl rfl ?_
  refine xr_aload_n (n := 9) (show xlook 62 8 = some (8, .aload_n 0, 1, 0, 0, 0, 0) from xlk (by decide +kernel)) rfl rfl ?_
  obtain ⟨t1, q1, ht1, t⟩ := t
  refine xr_getr (q := t1) (show xlook 62 9 = some (9, .getfield 40, 3, 6, 0, 0, 81) from xlk (by decide +kernel)) (by decide) (xobf h0 (by decide) (by decide)) rfl q1 (by have := ht1.1; omega) (n := 12) rfl ?_
  refine xr_geti (show xlook 62 12 = some (12, .getfield 170, 3, 9, 1, 0, 103) from xlk (by decide +kernel)) (by decide) (xobf ht1 (by decide) (by decide)) rfl (n := 15) rfl ?_
  refine xr_iadd (n := 16) (show xlook 62 15 = some (15, .iadd, 1, 0, 0, 0, 0) from xlk (by decide +kernel)) rfl ?_
  refine xr_istore (n := 18) (show xlook 62 16 = some (16, .istore 4, 2, 0, 0, 0, 0) from xlk (by decide +kernel)) rfl (ls' := [.ref (o0), vi (x1), vi (x2), vi ((F) (o0 + 7) (x1).toNat), vi (((F) (o0 + 7) (x1).toNat) + ((F) (t1) 1)), w5, w6, w7, w8]) (Nat.le_of_ble_eq_true rfl) rfl ?_
  refine xr_iconst (n := 19) (show xlook 62 18 = some (18, .iconst 3, 1, 0, 0, 0, 0) from xlk (by decide +kernel)) rfl ?_
  refine xr_istore (n := 21) (show xlook 62 19 = some (19, .istore 5, 2, 0, 0, 0, 0) from xlk (by decide +kernel)) rfl (ls' := [.ref (o0), vi (x1), vi (x2), vi ((F) (o0 + 7) (x1).toNat), vi (((F) (o0 + 7) (x1).toNat) + ((F) (t1) 1)), vi (3), w6, w7, w8]) (Nat.le_of_ble_eq_true rfl) rfl ?_
  refine xr_iload_n (n := 22) (show xlook 62 21 = some (21, .iload_n 1, 1, 0, 0, 0, 0) from xlk (by decide +kernel)) rfl rfl ?_
  obtain ⟨q0, t⟩ := t
  refine xr_if_ne (n := 25) (m := 82) (show xlook 62 22 = some (22, .ifCond .ne 60, 3, 82, 0, 0, 0) from xlk (by decide +kernel)) rfl rfl q0 ⟨fun c => ?_, fun c => ?_⟩
  · replace t := t.1 c
    exact t hPT
  · replace t := t.2 c
    refine xr_iload_n (n := 26) (show xlook 62 25 = some (25, .iload_n 2, 1, 0, 0, 0, 0) from xlk (by decide +kernel)) rfl rfl ?_
    obtain ⟨q0, t⟩ := t
    refine xr_if_ne (n := 29) (m := 82) (show xlook 62 26 = some (26, .ifCond .ne 56, 3, 82, 0, 0, 0) from xlk (by decide +kernel)) rfl rfl q0 ⟨fun c => ?_, fun c => ?_⟩
    · replace t := t.1 c
      exact t hPT
    · replace t := t.2 c
      refine xr_iconst (n := 30) (show xlook 62 29 = some (29, .iconst 0, 1, 0, 0, 0, 0) from xlk (by decide +kernel)) rfl ?_
      refine xr_istore (n := 32) (show xlook 62 30 = some (30, .istore 6, 2, 0, 0, 0, 0) from xlk (by decide +kernel)) rfl (ls' := [.ref (o0), vi (x1), vi (x2), vi ((F) (o0 + 7) (x1).toNat), vi (((F) (o0 + 7) (x1).toNat) + ((F) (t1) 1)), vi (3), vi (0), w7, w8]) (Nat.le_of_ble_eq_true rfl) rfl ?_
      exact t hPT
theorem m62 {X : List Int32} {d : Nat} {F F' : XF} {r : Option Value} {o0 : Nat} {x1 : Int} {x2 : Int} (hPT : xPT F) (h0 : xob 6 o0) (t : (0 ≤ (x1) ∧ (x1) < 30) ∧ (∃ t1 : Nat, (F) (o0) 0 = (t1 : Int) ∧ xob 9 t1 ∧ (inR (x1) ∧ (((¬ (x1) = (0)) → (xPT (F) → xE X d 62 82 [.ref (o0), vi (x1), vi (x2), vi ((F) (o0 + 7) (x1).toNat), vi (((F) (o0 + 7) (x1).toNat) + ((F) (t1) 1)), vi (3), xU0, xU0, xU0] [] (F) r F')) ∧ (¬ (¬ (x1) = (0)) → (inR (x2) ∧ (((¬ (x2) = (0)) → (xPT (F) → xE X d 62 82 [.ref (o0), vi (x1), vi (x2), vi ((F) (o0 + 7) (x1).toNat), vi (((F) (o0 + 7) (x1).toNat) + ((F) (t1) 1)), vi (3), xU0, xU0, xU0] [] (F) r F')) ∧ (¬ (¬ (x2) = (0)) → (xPT (F) → xE X d 62 32 [.ref (o0), vi (x1), vi (x2), vi ((F) (o0 + 7) (x1).toNat), vi (((F) (o0 + 7) (x1).toNat) + ((F) (t1) 1)), vi (3), vi (0), xU0, xU0] [] (F) r F'))))))))) : xM X d 62 [.ref (o0), vi (x1), vi (x2)] F r F' := by
  show xE X d 62 0 [.ref (o0), vi (x1), vi (x2), xU0, xU0, xU0, xU0, xU0, xU0] [] F r F'
  exact s62_0 hPT h0 t

theorem s62_32 {X : List Int32} {d : Nat} {F F' : XF} {r : Option Value} {o0 : Nat} {x1 : Int} {x2 : Int} {x3 : Int} {x4 : Int} {x5 : Int} {x6 : Int} {w7 : Value} {w8 : Value} (hPT : xPT F) (h0 : xob 6 o0) (t : ∃ t1 : Nat, (F) (o0) 0 = (t1 : Int) ∧ xob 9 t1 ∧ (inR (x6) ∧ inR ((F) (t1) 9) ∧ (((((F) (t1) 9) ≤ (x6)) → (xPT (F) → xE X d 62 82 [.ref (o0), vi (x1), vi (x2), vi (x3), vi (x4), vi (x5), vi (x6), w7, w8] [] (F) r F')) ∧ (¬ (((F) (t1) 9) ≤ (x6)) → (∃ t2 : Nat, (F) (o0) 0 = (t2 : Int) ∧ xob 9 t2 ∧ ((0 ≤ (x6) ∧ (x6) < 4) ∧ (inR ((F) (t2 + 3) (x6).toNat) ∧ inR (x3) ∧ (((((F) (t2 + 3) (x6).toNat) < (x3)) → (xPT (F) → xE X d 62 32 [.ref (o0), vi (x1), vi (x2), vi (x3), vi (x4), vi (x5), vi (x6 + 1), vi ((F) (t2 + 3) (x6).toNat), w8] [] (F) r F')) ∧ (¬ (((F) (t2 + 3) (x6).toNat) < (x3)) → (inR ((F) (t2 + 3) (x6).toNat) ∧ inR (x4) ∧ ((((x4) ≤ ((F) (t2 + 3) (x6).toNat)) → (xPT (F) → xE X d 62 32 [.ref (o0), vi (x1), vi (x2), vi (x3), vi (x4), vi (x5), vi (x6 + 1), vi ((F) (t2 + 3) (x6).toNat), w8] [] (F) r F')) ∧ (¬ ((x4) ≤ ((F) (t2 + 3) (x6).toNat)) → (xPT (F) → xE X d 62 32 [.ref (o0), vi (x1), vi (x2), vi (x3), vi ((F) (t2 + 3) (x6).toNat), vi (4), vi (x6 + 1), vi ((F) (t2 + 3) (x6).toNat), w8] [] (F) r F'))))))))))))) : xE X d 62 32 [.ref (o0), vi (x1), vi (x2), vi (x3), vi (x4), vi (x5), vi (x6), w7, w8] [] F r F' := by
  refine xr_iload (n := 34) (show xlook 62 32 = some (32, .iload 6, 2, 0, 0, 0, 0) from xlk (by decide +kernel)) rfl rfl ?_
  refine xr_aload_n (n := 35) (show xlook 62 34 = some (34, .aload_n 0, 1, 0, 0, 0, 0) from xlk (by decide +kernel)) rfl rfl ?_
  obtain ⟨t1, q1, ht1, t⟩ := t
  refine xr_getr (q := t1) (show xlook 62 35 = some (35, .getfield 40, 3, 6, 0, 0, 81) from xlk (by decide +kernel)) (by decide) (xobf h0 (by decide) (by decide)) rfl q1 (by have := ht1.1; omega) (n := 38) rfl ?_
  refine xr_geti (show xlook 62 38 = some (38, .getfield 189, 3, 9, 9, 0, 105) from xlk (by decide +kernel)) (by decide) (xobf ht1 (by decide) (by decide)) rfl (n := 41) rfl ?_
  obtain ⟨q0, q1, t⟩ := t
  refine xr_icmp_ge (n := 44) (m := 82) (show xlook 62 41 = some (41, .if_icmp .ge 41, 3, 82, 0, 0, 0) from xlk (by decide +kernel)) rfl rfl q0 q1 ⟨fun c => ?_, fun c => ?_⟩
  · replace t := t.1 c
    exact t hPT
  · replace t := t.2 c
    refine xr_aload_n (n := 45) (show xlook 62 44 = some (44, .aload_n 0, 1, 0, 0, 0, 0) from xlk (by decide +kernel)) rfl rfl ?_
    obtain ⟨t2, q1, ht2, t⟩ := t
    refine xr_getr (q := t2) (show xlook 62 45 = some (45, .getfield 40, 3, 6, 0, 0, 81) from xlk (by decide +kernel)) (by decide) (xobf h0 (by decide) (by decide)) rfl q1 (by have := ht2.1; omega) (n := 48) rfl ?_
    refine xr_getr (q := t2 + 3) (show xlook 62 48 = some (48, .getfield 192, 3, 9, 10, 0, 106) from xlk (by decide +kernel)) (by decide) (xobf ht2 (by decide) (by decide)) rfl (xPT_get hPT ht2 (by decide)) (by have := (xtg_9_10 _ ht2.1 ht2.2).1.1; omega) (n := 51) rfl ?_
    refine xr_iload (n := 53) (show xlook 62 51 = some (51, .iload 6, 2, 0, 0, 0, 0) from xlk (by decide +kernel)) rfl rfl ?_
    obtain ⟨q1, t⟩ := t
    refine xr_iald (show xlook 62 53 = some (53, .iaload, 1, 0, 0, 0, 0) from xlk (by decide +kernel)) (xtg_9_10 _ ht2.1 ht2.2).1 (by rw [(xtg_9_10 _ ht2.1 ht2.2).2]; exact q1) (n := 54) rfl ?_
    refine xr_istore (n := 56) (show xlook 62 54 = some (54, .istore 7, 2, 0, 0, 0, 0) from xlk (by decide +kernel)) rfl (ls' := [.ref (o0), vi (x1), vi (x2), vi (x3), vi (x4), vi (x5), vi (x6), vi ((F) (t2 + 3) (x6).toNat), w8]) (Nat.le_of_ble_eq_true rfl) rfl ?_
    refine xr_iload (n := 58) (show xlook 62 56 = some (56, .iload 7, 2, 0, 0, 0, 0) from xlk (by decide +kernel)) rfl rfl ?_
    refine xr_iload_n (n := 59) (show xlook 62 58 = some (58, .iload_n 3, 1, 0, 0, 0, 0) from xlk (by decide +kernel)) rfl rfl ?_
    obtain ⟨q0, q1, t⟩ := t
    refine xr_icmp_lt (n := 62) (m := 76) (show xlook 62 59 = some (59, .if_icmp .lt 17, 3, 76, 0, 0, 0) from xlk (by decide +kernel)) rfl rfl q0 q1 ⟨fun c => ?_, fun c => ?_⟩
    · replace t := t.1 c
      refine xr_iinc (n := 79) (show xlook 62 76 = some (76, .iinc 6 1, 3, 0, 0, 0, 0) from xlk (by decide +kernel)) rfl (ls' := [.ref (o0), vi (x1), vi (x2), vi (x3), vi (x4), vi (x5), vi (x6 + 1), vi ((F) (t2 + 3) (x6).toNat), w8]) rfl rfl ?_
      refine xr_goto (m := 32) (show xlook 62 79 = some (79, .goto (-47), 3, 32, 0, 0, 0) from xlk (by decide +kernel)) rfl ?_
      exact t hPT
    · replace t := t.2 c
      refine xr_iload (n := 64) (show xlook 62 62 = some (62, .iload 7, 2, 0, 0, 0, 0) from xlk (by decide +kernel)) rfl rfl ?_
      refine xr_iload (n := 66) (show xlook 62 64 = some (64, .iload 4, 2, 0, 0, 0, 0) from xlk (by decide +kernel)) rfl rfl ?_
      obtain ⟨q0, q1, t⟩ := t
      refine xr_icmp_ge (n := 69) (m := 76) (show xlook 62 66 = some (66, .if_icmp .ge 10, 3, 76, 0, 0, 0) from xlk (by decide +kernel)) rfl rfl q0 q1 ⟨fun c => ?_, fun c => ?_⟩
      · replace t := t.1 c
        refine xr_iinc (n := 79) (show xlook 62 76 = some (76, .iinc 6 1, 3, 0, 0, 0, 0) from xlk (by decide +kernel)) rfl (ls' := [.ref (o0), vi (x1), vi (x2), vi (x3), vi (x4), vi (x5), vi (x6 + 1), vi ((F) (t2 + 3) (x6).toNat), w8]) rfl rfl ?_
        refine xr_goto (m := 32) (show xlook 62 79 = some (79, .goto (-47), 3, 32, 0, 0, 0) from xlk (by decide +kernel)) rfl ?_
        exact t hPT
      · replace t := t.2 c
        refine xr_iload (n := 71) (show xlook 62 69 = some (69, .iload 7, 2, 0, 0, 0, 0) from xlk (by decide +kernel)) rfl rfl ?_
        refine xr_istore (n := 73) (show xlook 62 71 = some (71, .istore 4, 2, 0, 0, 0, 0) from xlk (by decide +kernel)) rfl (ls' := [.ref (o0), vi (x1), vi (x2), vi (x3), vi ((F) (t2 + 3) (x6).toNat), vi (x5), vi (x6), vi ((F) (t2 + 3) (x6).toNat), w8]) (Nat.le_of_ble_eq_true rfl) rfl ?_
        refine xr_iconst (n := 74) (show xlook 62 73 = some (73, .iconst 4, 1, 0, 0, 0, 0) from xlk (by decide +kernel)) rfl ?_
        refine xr_istore (n := 76) (show xlook 62 74 = some (74, .istore 5, 2, 0, 0, 0, 0) from xlk (by decide +kernel)) rfl (ls' := [.ref (o0), vi (x1), vi (x2), vi (x3), vi ((F) (t2 + 3) (x6).toNat), vi (4), vi (x6), vi ((F) (t2 + 3) (x6).toNat), w8]) (Nat.le_of_ble_eq_true rfl) rfl ?_
        refine xr_iinc (n := 79) (show xlook 62 76 = some (76, .iinc 6 1, 3, 0, 0, 0, 0) from xlk (by decide +kernel)) rfl (ls' := [.ref (o0), vi (x1), vi (x2), vi (x3), vi ((F) (t2 + 3) (x6).toNat), vi (4), vi (x6 + 1), vi ((F) (t2 + 3) (x6).toNat), w8]) rfl rfl ?_
        refine xr_goto (m := 32) (show xlook 62 79 = some (79, .goto (-47), 3, 32, 0, 0, 0) from xlk (by decide +kernel)) rfl ?_
        exact t hPT

theorem s62_82 {X : List Int32} {d : Nat} {F F' : XF} {r : Option Value} {o0 : Nat} {x1 : Int} {x2 : Int} {x3 : Int} {x4 : Int} {x5 : Int} {w6 : Value} {w7 : Value} {w8 : Value} (hPT : xPT F) (h0 : xob 6 o0) (t : (0 ≤ (x1) ∧ (x1) < 30) ∧ ((0 ≤ ((F) (o0 + 1 + 4) (x1).toNat) ∧ ((F) (o0 + 1 + 4) (x1).toNat) < 30) ∧ (inR ((F) (o0 + 1 + 1) ((F) (o0 + 1 + 4) (x1).toNat).toNat) ∧ inR (x1) ∧ (((¬ ((F) (o0 + 1 + 1) ((F) (o0 + 1 + 4) (x1).toNat).toNat) = (x1)) → (xPT (F) → xE X d 62 191 [.ref (o0), vi (x1), vi (x2), vi (x3), vi (x4), vi (x5), vi ((F) (o0 + 1 + 4) (x1).toNat), w7, w8] [] (F) r F')) ∧ (¬ (¬ ((F) (o0 + 1 + 1) ((F) (o0 + 1 + 4) (x1).toNat).toNat) = (x1)) → ((0 ≤ (x1) ∧ (x1) < 30) ∧ (xPT (F) → xE X d 62 115 [.ref (o0), vi (x1), vi (x2), vi (x3), vi (x4), vi (x5), vi ((F) (o0 + 1 + 4) (x1).toNat), vi ((F) (o0 + 9) (x1).toNat), w8] [] (F) r F'))))))) : xE X d 62 82 [.ref (o0), vi (x1), vi (x2), vi (x3), vi (x4), vi (x5), w6, w7, w8] [] F r F' := by
  refine xr_aload_n (n := 83) (show xlook 62 82 = some (82, .aload_n 0, 1, 0, 0, 0, 0) from xlk (by decide +kernel)) rfl rfl ?_
  refine xr_getr (q := o0 + 1) (show xlook 62 83 = some (83, .getfield 12, 3, 6, 1, 0, 74) from xlk (by decide +kernel)) (by decide) (xobf h0 (by decide) (by decide)) rfl (xPT_get hPT h0 (by decide)) (by have := (xtg_6_1 _ h0.1 h0.2).1; omega) (n := 86) rfl ?_
  refine xr_getr (q := o0 + 1 + 4) (show xlook 62 86 = some (86, .getfield 195, 3, 7, 4, 0, 107) from xlk (by decide +kernel)) (by decide) (xobf (xtg_6_1 _ h0.1 h0.2) (by decide) (by decide)) rfl (xPT_get hPT (xtg_6_1 _ h0.1 h0.2) (by decide)) (by have := (xtg_7_4 _ (xtg_6_1 _ h0.1 h0.2).1 (xtg_6_1 _ h0.1 h0.2).2).1.1; omega) (n := 89) rfl ?_
  refine xr_iload_n (n := 90) (show xlook 62 89 = some (89, .iload_n 1, 1, 0, 0, 0, 0) from xlk (by decide +kernel)) rfl rfl ?_
  obtain ⟨q1, t⟩ := t
  refine xr_iald (show xlook 62 90 = some (90, .iaload, 1, 0, 0, 0, 0) from xlk (by decide +kernel)) (xtg_7_4 _ (xtg_6_1 _ h0.1 h0.2).1 (xtg_6_1 _ h0.1 h0.2).2).1 (by rw [(xtg_7_4 _ (xtg_6_1 _ h0.1 h0.2).1 (xtg_6_1 _ h0.1 h0.2).2).2]; exact q1) (n := 91) rfl ?_
  refine xr_istore (n := 93) (show xlook 62 91 = some (91, .istore 6, 2, 0, 0, 0, 0) from xlk (by decide +kernel)) rfl (ls' := [.ref (o0), vi (x1), vi (x2), vi (x3), vi (x4), vi (x5), vi ((F) (o0 + 1 + 4) (x1).toNat), w7, w8]) (Nat.le_of_ble_eq_true rfl) rfl ?_
  refine xr_aload_n (n := 94) (show xlook 62 93 = some (93, .aload_n 0, 1, 0, 0, 0, 0) from xlk (by decide +kernel)) rfl rfl ?_
  refine xr_getr (q := o0 + 1) (show xlook 62 94 = some (94, .getfield 12, 3, 6, 1, 0, 74) from xlk (by decide +kernel)) (by decide) (xobf h0 (by decide) (by decide)) rfl (xPT_get hPT h0 (by decide)) (by have := (xtg_6_1 _ h0.1 h0.2).1; omega) (n := 97) rfl ?_
  refine xr_getr (q := o0 + 1 + 1) (show xlook 62 97 = some (97, .getfield 97, 3, 7, 1, 0, 94) from xlk (by decide +kernel)) (by decide) (xobf (xtg_6_1 _ h0.1 h0.2) (by decide) (by decide)) rfl (xPT_get hPT (xtg_6_1 _ h0.1 h0.2) (by decide)) (by have := (xtg_7_1 _ (xtg_6_1 _ h0.1 h0.2).1 (xtg_6_1 _ h0.1 h0.2).2).1.1; omega) (n := 100) rfl ?_
  refine xr_iload (n := 102) (show xlook 62 100 = some (100, .iload 6, 2, 0, 0, 0, 0) from xlk (by decide +kernel)) rfl rfl ?_
  obtain ⟨q1, t⟩ := t
  refine xr_iald (show xlook 62 102 = some (102, .iaload, 1, 0, 0, 0, 0) from xlk (by decide +kernel)) (xtg_7_1 _ (xtg_6_1 _ h0.1 h0.2).1 (xtg_6_1 _ h0.1 h0.2).2).1 (by rw [(xtg_7_1 _ (xtg_6_1 _ h0.1 h0.2).1 (xtg_6_1 _ h0.1 h0.2).2).2]; exact q1) (n := 103) rfl ?_
  refine xr_iload_n (n := 104) (show xlook 62 103 = some (103, .iload_n 1, 1, 0, 0, 0, 0) from xlk (by decide +kernel)) rfl rfl ?_
  obtain ⟨q0, q1, t⟩ := t
  refine xr_icmp_ne (n := 107) (m := 191) (show xlook 62 104 = some (104, .if_icmp .ne 87, 3, 191, 0, 0, 0) from xlk (by decide +kernel)) rfl rfl q0 q1 ⟨fun c => ?_, fun c => ?_⟩
  · replace t := t.1 c
    exact t hPT
  · replace t := t.2 c
    refine xr_aload_n (n := 108) (show xlook 62 107 = some (107, .aload_n 0, 1, 0, 0, 0, 0) from xlk (by decide +kernel)) rfl rfl ?_
    refine xr_getr (q := o0 + 9) (show xlook 62 108 = some (108, .getfield 25, 3, 6, 8, 0, 77) from xlk (by decide +kernel)) (by decide) (xobf h0 (by decide) (by decide)) rfl (xPT_get hPT h0 (by decide)) (by have := (xtg_6_8 _ h0.1 h0.2).1.1; omega) (n := 111) rfl ?_
    refine xr_iload_n (n := 112) (show xlook 62 111 = some (111, .iload_n 1, 1, 0, 0, 0, 0) from xlk (by decide +kernel)) rfl rfl ?_
    obtain ⟨q1, t⟩ := t
    refine xr_iald (show xlook 62 112 = some (112, .iaload, 1, 0, 0, 0, 0) from xlk (by decide +kernel)) (xtg_6_8 _ h0.1 h0.2).1 (by rw [(xtg_6_8 _ h0.1 h0.2).2]; exact q1) (n := 113) rfl ?_
    refine xr_istore (n := 115) (show xlook 62 113 = some (113, .istore 7, 2, 0, 0, 0, 0) from xlk (by decide +kernel)) rfl (ls' := [.ref (o0), vi (x1), vi (x2), vi (x3), vi (x4), vi (x5), vi ((F) (o0 + 1 + 4) (x1).toNat), vi ((F) (o0 + 9) (x1).toNat), w8]) (Nat.le_of_ble_eq_true rfl) rfl ?_
    exact t hPT

theorem s62_115 {X : List Int32} {d : Nat} {F F' : XF} {r : Option Value} {o0 : Nat} {x1 : Int} {x2 : Int} {x3 : Int} {x4 : Int} {x5 : Int} {x6 : Int} {x7 : Int} {w8 : Value} (hPT : xPT F) (h0 : xob 6 o0) (t : ∃ t1 : Nat, (F) (o0) 0 = (t1 : Int) ∧ xob 9 t1 ∧ (inR (x7) ∧ inR ((F) (t1) 4) ∧ (((((F) (t1) 4) ≤ (x7)) → (xPT (F) → xE X d 62 191 [.ref (o0), vi (x1), vi (x2), vi (x3), vi (x4), vi (x5), vi (x6), vi (x7), w8] [] (F) r F')) ∧ (¬ (((F) (t1) 4) ≤ (x7)) → (∃ t2 : Nat, (F) (o0) 0 = (t2 : Int) ∧ xob 9 t2 ∧ ((0 ≤ (x7) ∧ (x7) < 10) ∧ (inR ((F) (t2 + 1 + 6 + (x7).toNat) 0) ∧ inR (x4) ∧ (((((F) (t2 + 1 + 6 + (x7).toNat) 0) < (x4)) → (∃ (j4 : Nat) (y4 : Int) (G4 : XF), j4 < d ∧ xM X j4 66 [.ref (o0 + 1), vi (x6), vi (x7)] (F) (some (vi y4)) G4 ∧ xPT G4 ∧ (∃ (j5 : Nat) (y5 : Int) (G5 : XF), j5 < d ∧ xM X j5 11 [.ref (t2 + 1 + 6 + (x7).toNat), vi ((F) (o0) 2), vi (y4)] (G4) (some (vi y5)) G5 ∧ xPT G5 ∧ (inR (y5) ∧ (((¬ (y5) = (0)) → (xPT (G5) → xE X d 62 115 [.ref (o0), vi (x1), vi (x2), vi (x3), vi (x4), vi (x5), vi (x6), vi (x7 + 1), .ref (t2 + 1 + 6 + (x7).toNat)] [] (G5) r F')) ∧ (¬ (¬ (y5) = (0)) → (xPT (G5) → xE X d 62 115 [.ref (o0), vi (x1), vi (x2), vi (x3), vi ((G5) (t2 + 1 + 6 + (x7).toNat) 0), vi (5), vi (x6), vi (x7 + 1), .ref (t2 + 1 + 6 + (x7).toNat)] [] (G5) r F'))))))) ∧ (¬ (((F) (t2 + 1 + 6 + (x7).toNat) 0) < (x4)) → (xPT (F) → xE X d 62 191 [.ref (o0), vi (x1), vi (x2), vi (x3), vi (x4), vi (x5), vi (x6), vi (x7), .ref (t2 + 1 + 6 + (x7).toNat)] [] (F) r F')))))))))) : xE X d 62 115 [.ref (o0), vi (x1), vi (x2), vi (x3), vi (x4), vi (x5), vi (x6), vi (x7), w8] [] F r F' := by
  refine xr_iload (n := 117) (show xlook 62 115 = some (115, .iload 7, 2, 0, 0, 0, 0) from xlk (by decide +kernel)) rfl rfl ?_
  refine xr_aload_n (n := 118) (show xlook 62 117 = some (117, .aload_n 0, 1, 0, 0, 0, 0) from xlk (by decide +kernel)) rfl rfl ?_
  obtain ⟨t1, q1, ht1, t⟩ := t
  refine xr_getr (q := t1) (show xlook 62 118 = some (118, .getfield 40, 3, 6, 0, 0, 81) from xlk (by decide +kernel)) (by decide) (xobf h0 (by decide) (by decide)) rfl q1 (by have := ht1.1; omega) (n := 121) rfl ?_
  refine xr_geti (show xlook 62 121 = some (121, .getfield 86, 3, 9, 4, 0, 91) from xlk (by decide +kernel)) (by decide) (xobf ht1 (by decide) (by decide)) rfl (n := 124) rfl ?_
  obtain ⟨q0, q1, t⟩ := t
  refine xr_icmp_ge (n := 127) (m := 191) (show xlook 62 124 = some (124, .if_icmp .ge 67, 3, 191, 0, 0, 0) from xlk (by decide +kernel)) rfl rfl q0 q1 ⟨fun c => ?_, fun c => ?_⟩
  · replace t := t.1 c
    exact t hPT
  · replace t := t.2 c
    refine xr_aload_n (n := 128) (show xlook 62 127 = some (127, .aload_n 0, 1, 0, 0, 0, 0) from xlk (by decide +kernel)) rfl rfl ?_
    obtain ⟨t2, q1, ht2, t⟩ := t
    refine xr_getr (q := t2) (show xlook 62 128 = some (128, .getfield 40, 3, 6, 0, 0, 81) from xlk (by decide +kernel)) (by decide) (xobf h0 (by decide) (by decide)) rfl q1 (by have := ht2.1; omega) (n := 131) rfl ?_
    refine xr_getr (q := t2 + 1) (show xlook 62 131 = some (131, .getfield 92, 3, 9, 5, 0, 92) from xlk (by decide +kernel)) (by decide) (xobf ht2 (by decide) (by decide)) rfl (xPT_get hPT ht2 (by decide)) (by have := (xtg_9_5 _ ht2.1 ht2.2).1.1; omega) (n := 134) rfl ?_
    refine xr_iload (n := 136) (show xlook 62 134 = some (134, .iload 7, 2, 0, 0, 0, 0) from xlk (by decide +kernel)) rfl rfl ?_
    obtain ⟨q1, t⟩ := t
    have hb3 : xob 1 (t2 + 1 + 6 + (x7).toNat) := xel15 _ (xtg_9_5 _ ht2.1 ht2.2).1.1 (xtg_9_5 _ ht2.1 ht2.2).1.2 _ (by omega)
    refine xr_aald (q := t2 + 1 + 6 + (x7).toNat) (show xlook 62 136 = some (136, .aaload, 1, 0, 0, 0, 0) from xlk (by decide +kernel)) ⟨(xtg_9_5 _ ht2.1 ht2.2).1.1, (Or.inl (xtg_9_5 _ ht2.1 ht2.2).1.2)⟩ (by rw [xln15 _ (xtg_9_5 _ ht2.1 ht2.2).1.1 (Or.inl (xtg_9_5 _ ht2.1 ht2.2).1.2)]; exact q1) (xPT_el hPT (Or.inl (xtg_9_5 _ ht2.1 ht2.2).1) q1.1 q1.2) (by have := hb3.1; omega) (n := 137) rfl ?_
    refine xr_astore (n := 139) (show xlook 62 137 = some (137, .astore 8, 2, 0, 0, 0, 0) from xlk (by decide +kernel)) rfl (ls' := [.ref (o0), vi (x1), vi (x2), vi (x3), vi (x4), vi (x5), vi (x6), vi (x7), .ref (t2 + 1 + 6 + (x7).toNat)]) (Nat.le_of_ble_eq_true rfl) rfl ?_
    refine xr_aload (n := 141) (show xlook 62 139 = some (139, .aload 8, 2, 0, 0, 0, 0) from xlk (by decide +kernel)) rfl rfl ?_
    refine xr_geti (show xlook 62 141 = some (141, .getfield 100, 3, 1, 0, 0, 95) from xlk (by decide +kernel)) (by decide) (xobf hb3 (by decide) (by decide)) rfl (n := 144) rfl ?_
    refine xr_iload (n := 146) (show xlook 62 144 = some (144, .iload 4, 2, 0, 0, 0, 0) from xlk (by decide +kernel)) rfl rfl ?_
    obtain ⟨q0, q1, t⟩ := t
    refine xr_icmp_lt (n := 149) (m := 152) (show xlook 62 146 = some (146, .if_icmp .lt 6, 3, 152, 0, 0, 0) from xlk (by decide +kernel)) rfl rfl q0 q1 ⟨fun c => ?_, fun c => ?_⟩
    · replace t := t.1 c
      refine xr_aload (n := 154) (show xlook 62 152 = some (152, .aload 8, 2, 0, 0, 0, 0) from xlk (by decide +kernel)) rfl rfl ?_
      refine xr_aload_n (n := 155) (show xlook 62 154 = some (154, .aload_n 0, 1, 0, 0, 0, 0) from xlk (by decide +kernel)) rfl rfl ?_
      refine xr_geti (show xlook 62 155 = some (155, .getfield 58, 3, 6, 2, 0, 83) from xlk (by decide +kernel)) (by decide) (xobf h0 (by decide) (by decide)) rfl (n := 158) rfl ?_
      refine xr_aload_n (n := 159) (show xlook 62 158 = some (158, .aload_n 0, 1, 0, 0, 0, 0) from xlk (by decide +kernel)) rfl rfl ?_
      refine xr_getr (q := o0 + 1) (show xlook 62 159 = some (159, .getfield 12, 3, 6, 1, 0, 74) from xlk (by decide +kernel)) (by decide) (xobf h0 (by decide) (by decide)) rfl (xPT_get hPT h0 (by decide)) (by have := (xtg_6_1 _ h0.1 h0.2).1; omega) (n := 162) rfl ?_
      refine xr_iload (n := 164) (show xlook 62 162 = some (162, .iload 6, 2, 0, 0, 0, 0) from xlk (by decide +kernel)) rfl rfl ?_
      refine xr_iload (n := 166) (show xlook 62 164 = some (164, .iload 7, 2, 0, 0, 0, 0) from xlk (by decide +kernel)) rfl rfl ?_
      obtain ⟨j4, y4, G4, hj4, hm4, hG4, t⟩ := t
      refine xr_callv (dk := j4) (o := o0 + 1) (as := [vi (x6), vi (x7)]) (show xlook 62 166 = some (166, .invokevirtual 150, 3, 66, 3, 0, 62) from xlk (by decide +kernel)) (by decide) hj4 ⟨Nat.le_of_ble_eq_true rfl, Nat.le_of_ble_eq_true rfl, Nat.le_of_ble_eq_true rfl⟩ ⟨(xtg_6_1 _ h0.1 h0.2).1, (xtg_6_1 _ h0.1 h0.2).2, by decide⟩ rfl hm4 (n := 169) rfl ?_
      show xE X d 62 169 [.ref (o0), vi (x1), vi (x2), vi (x3), vi (x4), vi (x5), vi (x6), vi (x7), .ref (t2 + 1 + 6 + (x7).toNat)] [vi (y4), vi ((F) (o0) 2), .ref (t2 + 1 + 6 + (x7).toNat)] G4 r F'
      obtain ⟨j5, y5, G5, hj5, hm5, hG5, t⟩ := t
      refine xr_callv (dk := j5) (o := t2 + 1 + 6 + (x7).toNat) (as := [vi ((F) (o0) 2), vi (y4)]) (show xlook 62 169 = some (169, .invokevirtual 198, 3, 11, 3, 0, 72) from xlk (by decide +kernel)) (by decide) hj5 ⟨Nat.le_of_ble_eq_true rfl, Nat.le_of_ble_eq_true rfl, Nat.le_of_ble_eq_true rfl⟩ ⟨hb3.1, hb3.2, by decide⟩ rfl hm5 (n := 172) rfl ?_
      show xE X d 62 172 [.ref (o0), vi (x1), vi (x2), vi (x3), vi (x4), vi (x5), vi (x6), vi (x7), .ref (t2 + 1 + 6 + (x7).toNat)] [vi (y5)] G5 r F'
      obtain ⟨q0, t⟩ := t
      refine xr_if_ne (n := 175) (m := 185) (show xlook 62 172 = some (172, .ifCond .ne 13, 3, 185, 0, 0, 0) from xlk (by decide +kernel)) rfl rfl q0 ⟨fun c => ?_, fun c => ?_⟩
      · replace t := t.1 c
        refine xr_iinc (n := 188) (show xlook 62 185 = some (185, .iinc 7 1, 3, 0, 0, 0, 0) from xlk (by decide +kernel)) rfl (ls' := [.ref (o0), vi (x1), vi (x2), vi (x3), vi (x4), vi (x5), vi (x6), vi (x7 + 1), .ref (t2 + 1 + 6 + (x7).toNat)]) rfl rfl ?_
        refine xr_goto (m := 115) (show xlook 62 188 = some (188, .goto (-73), 3, 115, 0, 0, 0) from xlk (by decide +kernel)) rfl ?_
        exact t hG5
      · replace t := t.2 c
        refine xr_aload (n := 177) (show xlook 62 175 = some (175, .aload 8, 2, 0, 0, 0, 0) from xlk (by decide +kernel)) rfl rfl ?_
        refine xr_geti (show xlook 62 177 = some (177, .getfield 100, 3, 1, 0, 0, 95) from xlk (by decide +kernel)) (by decide) (xobf hb3 (by decide) (by decide)) rfl (n := 180) rfl ?_
        refine xr_istore (n := 182) (show xlook 62 180 = some (180, .istore 4, 2, 0, 0, 0, 0) from xlk (by decide +kernel)) rfl (ls' := [.ref (o0), vi (x1), vi (x2), vi (x3), vi ((G5) (t2 + 1 + 6 + (x7).toNat) 0), vi (x5), vi (x6), vi (x7), .ref (t2 + 1 + 6 + (x7).toNat)]) (Nat.le_of_ble_eq_true rfl) rfl ?_
        refine xr_iconst (n := 183) (show xlook 62 182 = some (182, .iconst 5, 1, 0, 0, 0, 0) from xlk (by decide +kernel)) rfl ?_
        refine xr_istore (n := 185) (show xlook 62 183 = some (183, .istore 5, 2, 0, 0, 0, 0) from xlk (by decide +kernel)) rfl (ls' := [.ref (o0), vi (x1), vi (x2), vi (x3), vi ((G5) (t2 + 1 + 6 + (x7).toNat) 0), vi (5), vi (x6), vi (x7), .ref (t2 + 1 + 6 + (x7).toNat)]) (Nat.le_of_ble_eq_true rfl) rfl ?_
        refine xr_iinc (n := 188) (show xlook 62 185 = some (185, .iinc 7 1, 3, 0, 0, 0, 0) from xlk (by decide +kernel)) rfl (ls' := [.ref (o0), vi (x1), vi (x2), vi (x3), vi ((G5) (t2 + 1 + 6 + (x7).toNat) 0), vi (5), vi (x6), vi (x7 + 1), .ref (t2 + 1 + 6 + (x7).toNat)]) rfl rfl ?_
        refine xr_goto (m := 115) (show xlook 62 188 = some (188, .goto (-73), 3, 115, 0, 0, 0) from xlk (by decide +kernel)) rfl ?_
        exact t hG5
    · replace t := t.2 c
      refine xr_goto (m := 191) (show xlook 62 149 = some (149, .goto 42, 3, 191, 0, 0, 0) from xlk (by decide +kernel)) rfl ?_
      exact t hPT

theorem s62_191 {X : List Int32} {d : Nat} {F F' : XF} {r : Option Value} {o0 : Nat} {x1 : Int} {x2 : Int} {x3 : Int} {x4 : Int} {x5 : Int} {x6 : Int} {w7 : Value} {w8 : Value} (hPT : xPT F) (h0 : xob 6 o0) (t : inR (x1) ∧ inR ((F) (o0) 3) ∧ ((((x1) ≤ ((F) (o0) 3)) → (xPT (F) → xE X d 62 231 [.ref (o0), vi (x1), vi (x2), vi (x3), vi (x4), vi (x5), vi (x6), w7, w8] [] (F) r F')) ∧ (¬ ((x1) ≤ ((F) (o0) 3)) → (∃ (j1 : Nat) (y1 : Int) (G1 : XF), j1 < d ∧ xM X j1 49 [.ref (o0), vi ((x1) - (1))] (F) (some (vi y1)) G1 ∧ xPT G1 ∧ (∃ t2 : Nat, (G1) (o0) 0 = (t2 : Int) ∧ xob 9 t2 ∧ (inR ((y1) - ((G1) (t2) 2)) ∧ inR (x4) ∧ ((((x4) ≤ ((y1) - ((G1) (t2) 2))) → (xPT (G1) → xE X d 62 231 [.ref (o0), vi (x1), vi (x2), vi (x3), vi (x4), vi (x5), vi (x6), vi ((y1) - ((G1) (t2) 2)), w8] [] (G1) r F')) ∧ (¬ ((x4) ≤ ((y1) - ((G1) (t2) 2))) → (xPT (G1) → xE X d 62 231 [.ref (o0), vi (x1), vi (x2), vi (x3), vi ((y1) - ((G1) (t2) 2)), vi (6), vi (x6), vi ((y1) - ((G1) (t2) 2)), w8] [] (G1) r F'))))))))) : xE X d 62 191 [.ref (o0), vi (x1), vi (x2), vi (x3), vi (x4), vi (x5), vi (x6), w7, w8] [] F r F' := by
  refine xr_iload_n (n := 192) (show xlook 62 191 = some (191, .iload_n 1, 1, 0, 0, 0, 0) from xlk (by decide +kernel)) rfl rfl ?_
  refine xr_aload_n (n := 193) (show xlook 62 192 = some (192, .aload_n 0, 1, 0, 0, 0, 0) from xlk (by decide +kernel)) rfl rfl ?_
  refine xr_geti (show xlook 62 193 = some (193, .getfield 62, 3, 6, 3, 0, 84) from xlk (by decide +kernel)) (by decide) (xobf h0 (by decide) (by decide)) rfl (n := 196) rfl ?_
  obtain ⟨q0, q1, t⟩ := t
  refine xr_icmp_le (n := 199) (m := 231) (show xlook 62 196 = some (196, .if_icmp .le 35, 3, 231, 0, 0, 0) from xlk (by decide +kernel)) rfl rfl q0 q1 ⟨fun c => ?_, fun c => ?_⟩
  · replace t := t.1 c
    exact t hPT
  · replace t := t.2 c
    refine xr_aload_n (n := 200) (show xlook 62 199 = some (199, .aload_n 0, 1, 0, 0, 0, 0) from xlk (by decide +kernel)) rfl rfl ?_
    refine xr_iload_n (n := 201) (show xlook 62 200 = some (200, .iload_n 1, 1, 0, 0, 0, 0) from xlk (by decide +kernel)) rfl rfl ?_
    refine xr_iconst (n := 202) (show xlook 62 201 = some (201, .iconst 1, 1, 0, 0, 0, 0) from xlk (by decide +kernel)) rfl ?_
    refine xr_isub (n := 203) (show xlook 62 202 = some (202, .isub, 1, 0, 0, 0, 0) from xlk (by decide +kernel)) rfl ?_
    obtain ⟨j1, y1, G1, hj1, hm1, hG1, t⟩ := t
    refine xr_callv (dk := j1) (o := o0) (as := [vi ((x1) - (1))]) (show xlook 62 203 = some (203, .invokevirtual 108, 3, 49, 2, 0, 56) from xlk (by decide +kernel)) (by decide) hj1 ⟨Nat.le_of_ble_eq_true rfl, Nat.le_of_ble_eq_true rfl, Nat.le_of_ble_eq_true rfl⟩ ⟨h0.1, h0.2, by decide⟩ rfl hm1 (n := 206) rfl ?_
    show xE X d 62 206 [.ref (o0), vi (x1), vi (x2), vi (x3), vi (x4), vi (x5), vi (x6), w7, w8] [vi (y1)] G1 r F'
    refine xr_aload_n (n := 207) (show xlook 62 206 = some (206, .aload_n 0, 1, 0, 0, 0, 0) from xlk (by decide +kernel)) rfl rfl ?_
    obtain ⟨t2, q1, ht2, t⟩ := t
    refine xr_getr (q := t2) (show xlook 62 207 = some (207, .getfield 40, 3, 6, 0, 0, 81) from xlk (by decide +kernel)) (by decide) (xobf h0 (by decide) (by decide)) rfl q1 (by have := ht2.1; omega) (n := 210) rfl ?_
    refine xr_geti (show xlook 62 210 = some (210, .getfield 83, 3, 9, 2, 0, 90) from xlk (by decide +kernel)) (by decide) (xobf ht2 (by decide) (by decide)) rfl (n := 213) rfl ?_
    refine xr_isub (n := 214) (show xlook 62 213 = some (213, .isub, 1, 0, 0, 0, 0) from xlk (by decide +kernel)) rfl ?_
    refine xr_istore (n := 216) (show xlook 62 214 = some (214, .istore 7, 2, 0, 0, 0, 0) from xlk (by decide +kernel)) rfl (ls' := [.ref (o0), vi (x1), vi (x2), vi (x3), vi (x4), vi (x5), vi (x6), vi ((y1) - ((G1) (t2) 2)), w8]) (Nat.le_of_ble_eq_true rfl) rfl ?_
    refine xr_iload (n := 218) (show xlook 62 216 = some (216, .iload 7, 2, 0, 0, 0, 0) from xlk (by decide +kernel)) rfl rfl ?_
    refine xr_iload (n := 220) (show xlook 62 218 = some (218, .iload 4, 2, 0, 0, 0, 0) from xlk (by decide +kernel)) rfl rfl ?_
    obtain ⟨q0, q1, t⟩ := t
    refine xr_icmp_ge (n := 223) (m := 231) (show xlook 62 220 = some (220, .if_icmp .ge 11, 3, 231, 0, 0, 0) from xlk (by decide +kernel)) rfl rfl q0 q1 ⟨fun c => ?_, fun c => ?_⟩
    · replace t := t.1 c
      exact t hG1
    · replace t := t.2 c
      refine xr_iload (n := 225) (show xlook 62 223 = some (223, .iload 7, 2, 0, 0, 0, 0) from xlk (by decide +kernel)) rfl rfl ?_
      refine xr_istore (n := 227) (show xlook 62 225 = some (225, .istore 4, 2, 0, 0, 0, 0) from xlk (by decide +kernel)) rfl (ls' := [.ref (o0), vi (x1), vi (x2), vi (x3), vi ((y1) - ((G1) (t2) 2)), vi (x5), vi (x6), vi ((y1) - ((G1) (t2) 2)), w8]) (Nat.le_of_ble_eq_true rfl) rfl ?_
      refine xr_bipush (n := 229) (show xlook 62 227 = some (227, .bipush 6, 2, 0, 0, 0, 0) from xlk (by decide +kernel)) rfl (by decide) ?_
      refine xr_istore (n := 231) (show xlook 62 229 = some (229, .istore 5, 2, 0, 0, 0, 0) from xlk (by decide +kernel)) rfl (ls' := [.ref (o0), vi (x1), vi (x2), vi (x3), vi ((y1) - ((G1) (t2) 2)), vi (6), vi (x6), vi ((y1) - ((G1) (t2) 2)), w8]) (Nat.le_of_ble_eq_true rfl) rfl ?_
      exact t hG1

theorem s62_231 {X : List Int32} {d : Nat} {F F' : XF} {r : Option Value} {o0 : Nat} {x1 : Int} {x2 : Int} {x3 : Int} {x4 : Int} {x5 : Int} {x6 : Int} {w7 : Value} {w8 : Value} (hPT : xPT F) (h0 : xob 6 o0) (t : (0 ≤ (x1) ∧ (x1) < 30) ∧ (inR (x5) ∧ (((¬ (x5) = (5)) → (((xior ((xup (F) (o0 + 8) (x1).toNat (x5)) (o0) 5) (0)) = 0 ∨ (xior ((xup (F) (o0 + 8) (x1).toNat (x5)) (o0) 5) (0)) = 1) ∧ (inR (x4) ∧ inR (x3) ∧ ((((x4) ≤ (x3)) → (xPT (xup (xup (F) (o0 + 8) (x1).toNat (x5)) (o0) 5 (xior ((xup (F) (o0 + 8) (x1).toNat (x5)) (o0) 5) (0))) → r = none ∧ F' = (xup (xup (F) (o0 + 8) (x1).toNat (x5)) (o0) 5 (xior ((xup (F) (o0 + 8) (x1).toNat (x5)) (o0) 5) (0))))) ∧ (¬ ((x4) ≤ (x3)) → (∃ (j1 : Nat) (G1 : XF), j1 < d ∧ xM X j1 63 [.ref (o0), vi (x1), vi (x6), vi (x4)] (xup (xup (xup (F) (o0 + 8) (x1).toNat (x5)) (o0) 5 (xior ((xup (F) (o0 + 8) (x1).toNat (x5)) (o0) 5) (0))) (o0) 4 (1)) none G1 ∧ xPT G1 ∧ (xPT (G1) → r = none ∧ F' = (G1)))))))) ∧ (¬ (¬ (x5) = (5)) → (((xior ((xup (F) (o0 + 8) (x1).toNat (x5)) (o0) 5) (1)) = 0 ∨ (xior ((xup (F) (o0 + 8) (x1).toNat (x5)) (o0) 5) (1)) = 1) ∧ (inR (x4) ∧ inR (x3) ∧ ((((x4) ≤ (x3)) → (xPT (xup (xup (F) (o0 + 8) (x1).toNat (x5)) (o0) 5 (xior ((xup (F) (o0 + 8) (x1).toNat (x5)) (o0) 5) (1))) → r = none ∧ F' = (xup (xup (F) (o0 + 8) (x1).toNat (x5)) (o0) 5 (xior ((xup (F) (o0 + 8) (x1).toNat (x5)) (o0) 5) (1))))) ∧ (¬ ((x4) ≤ (x3)) → (∃ (j2 : Nat) (G2 : XF), j2 < d ∧ xM X j2 63 [.ref (o0), vi (x1), vi (x6), vi (x4)] (xup (xup (xup (F) (o0 + 8) (x1).toNat (x5)) (o0) 5 (xior ((xup (F) (o0 + 8) (x1).toNat (x5)) (o0) 5) (1))) (o0) 4 (1)) none G2 ∧ xPT G2 ∧ (xPT (G2) → r = none ∧ F' = (G2))))))))))) : xE X d 62 231 [.ref (o0), vi (x1), vi (x2), vi (x3), vi (x4), vi (x5), vi (x6), w7, w8] [] F r F' := by
  refine xr_aload_n (n := 232) (show xlook 62 231 = some (231, .aload_n 0, 1, 0, 0, 0, 0) from xlk (by decide +kernel)) rfl rfl ?_
  refine xr_getr (q := o0 + 8) (show xlook 62 232 = some (232, .getfield 22, 3, 6, 7, 0, 76) from xlk (by decide +kernel)) (by decide) (xobf h0 (by decide) (by decide)) rfl (xPT_get hPT h0 (by decide)) (by have := (xtg_6_7 _ h0.1 h0.2).1.1; omega) (n := 235) rfl ?_
  refine xr_iload_n (n := 236) (show xlook 62 235 = some (235, .iload_n 1, 1, 0, 0, 0, 0) from xlk (by decide +kernel)) rfl rfl ?_
  refine xr_iload (n := 238) (show xlook 62 236 = some (236, .iload 5, 2, 0, 0, 0, 0) from xlk (by decide +kernel)) rfl rfl ?_
  obtain ⟨q1, t⟩ := t
  refine xr_iast (show xlook 62 238 = some (238, .iastore, 1, 0, 0, 0, 0) from xlk (by decide +kernel)) (xtg_6_7 _ h0.1 h0.2).1 (by rw [(xtg_6_7 _ h0.1 h0.2).2]; exact q1) (n := 239) rfl ?_
  refine xr_aload_n (n := 240) (show xlook 62 239 = some (239, .aload_n 0, 1, 0, 0, 0, 0) from xlk (by decide +kernel)) rfl rfl ?_
  refine xr_dupr (n := 241) (show xlook 62 240 = some (240, .dup, 1, 0, 0, 0, 0) from xlk (by decide +kernel)) rfl ?_
  refine xr_geti (show xlook 62 241 = some (241, .getfield 69, 3, 6, 5, 0, 86) from xlk (by decide +kernel)) (by decide) (xobf h0 (by decide) (by decide)) rfl (n := 244) rfl ?_
  refine xr_iload (n := 246) (show xlook 62 244 = some (244, .iload 5, 2, 0, 0, 0, 0) from xlk (by decide +kernel)) rfl rfl ?_
  refine xr_iconst (n := 247) (show xlook 62 246 = some (246, .iconst 5, 1, 0, 0, 0, 0) from xlk (by decide +kernel)) rfl ?_
  obtain ⟨q0, t⟩ := t
  refine xr_icmp_ne (n := 250) (m := 254) (show xlook 62 247 = some (247, .if_icmp .ne 7, 3, 254, 0, 0, 0) from xlk (by decide +kernel)) rfl rfl q0 ⟨by decide, by decide⟩ ⟨fun c => ?_, fun c => ?_⟩
  · replace t := t.1 c
    refine xr_iconst (n := 255) (show xlook 62 254 = some (254, .iconst 0, 1, 0, 0, 0, 0) from xlk (by decide +kernel)) rfl ?_
    refine xr_ior (n := 256) (show xlook 62 255 = some (255, .ior, 1, 0, 0, 0, 0) from xlk (by decide +kernel)) rfl ?_
    obtain ⟨q1, t⟩ := t
    refine xr_putz (show xlook 62 256 = some (256, .putfield 69, 3, 6, 5, 0, 86) from xlk (by decide +kernel)) (xobf h0 (by decide) (by decide)) rfl q1 (n := 259) rfl ?_
    refine xr_iload (n := 261) (show xlook 62 259 = some (259, .iload 4, 2, 0, 0, 0, 0) from xlk (by decide +kernel)) rfl rfl ?_
    refine xr_iload_n (n := 262) (show xlook 62 261 = some (261, .iload_n 3, 1, 0, 0, 0, 0) from xlk (by decide +kernel)) rfl rfl ?_
    obtain ⟨q0, q1, t⟩ := t
    refine xr_icmp_le (n := 265) (m := 279) (show xlook 62 262 = some (262, .if_icmp .le 17, 3, 279, 0, 0, 0) from xlk (by decide +kernel)) rfl rfl q0 q1 ⟨fun c => ?_, fun c => ?_⟩
    · replace t := t.1 c
      obtain ⟨e1, e2⟩ := t (xPT_fld (xPT_arr hPT (Or.inl (xtg_6_7 _ h0.1 h0.2).1.2)) h0 (by decide) (by decide))
      subst e1
      subst e2
      exact xr_return (show xlook 62 279 = some (279, .return_, 1, 0, 0, 0, 0) from xlk (by decide +kernel)) rfl
    · replace t := t.2 c
      refine xr_aload_n (n := 266) (show xlook 62 265 = some (265, .aload_n 0, 1, 0, 0, 0, 0) from xlk (by decide +kernel)) rfl rfl ?_
      refine xr_iconst (n := 267) (show xlook 62 266 = some (266, .iconst 1, 1, 0, 0, 0, 0) from xlk (by decide +kernel)) rfl ?_
      refine xr_putz (show xlook 62 267 = some (267, .putfield 65, 3, 6, 4, 0, 85) from xlk (by decide +kernel)) (xobf h0 (by decide) (by decide)) rfl (by decide) (n := 270) rfl ?_
      refine xr_aload_n (n := 271) (show xlook 62 270 = some (270, .aload_n 0, 1, 0, 0, 0, 0) from xlk (by decide +kernel)) rfl rfl ?_
      refine xr_iload_n (n := 272) (show xlook 62 271 = some (271, .iload_n 1, 1, 0, 0, 0, 0) from xlk (by decide +kernel)) rfl rfl ?_
      refine xr_iload (n := 274) (show xlook 62 272 = some (272, .iload 6, 2, 0, 0, 0, 0) from xlk (by decide +kernel)) rfl rfl ?_
      refine xr_iload (n := 276) (show xlook 62 274 = some (274, .iload 4, 2, 0, 0, 0, 0) from xlk (by decide +kernel)) rfl rfl ?_
      obtain ⟨j1, G1, hj1, hm1, hG1, t⟩ := t
      refine xr_callv (dk := j1) (o := o0) (as := [vi (x1), vi (x6), vi (x4)]) (show xlook 62 276 = some (276, .invokevirtual 202, 3, 63, 4, 0, 73) from xlk (by decide +kernel)) (by decide) hj1 ⟨Nat.le_of_ble_eq_true rfl, Nat.le_of_ble_eq_true rfl, Nat.le_of_ble_eq_true rfl⟩ ⟨h0.1, h0.2, by decide⟩ rfl hm1 (n := 279) rfl ?_
      show xE X d 62 279 [.ref (o0), vi (x1), vi (x2), vi (x3), vi (x4), vi (x5), vi (x6), w7, w8] [] G1 r F'
      obtain ⟨e1, e2⟩ := t hG1
      subst e1
      subst e2
      exact xr_return (show xlook 62 279 = some (279, .return_, 1, 0, 0, 0, 0) from xlk (by decide +kernel)) rfl
  · replace t := t.2 c
    refine xr_iconst (n := 251) (show xlook 62 250 = some (250, .iconst 1, 1, 0, 0, 0, 0) from xlk (by decide +kernel)) rfl ?_
    refine xr_goto (m := 255) (show xlook 62 251 = some (251, .goto 4, 3, 255, 0, 0, 0) from xlk (by decide +kernel)) rfl ?_
    refine xr_ior (n := 256) (show xlook 62 255 = some (255, .ior, 1, 0, 0, 0, 0) from xlk (by decide +kernel)) rfl ?_
    obtain ⟨q1, t⟩ := t
    refine xr_putz (show xlook 62 256 = some (256, .putfield 69, 3, 6, 5, 0, 86) from xlk (by decide +kernel)) (xobf h0 (by decide) (by decide)) rfl q1 (n := 259) rfl ?_
    refine xr_iload (n := 261) (show xlook 62 259 = some (259, .iload 4, 2, 0, 0, 0, 0) from xlk (by decide +kernel)) rfl rfl ?_
    refine xr_iload_n (n := 262) (show xlook 62 261 = some (261, .iload_n 3, 1, 0, 0, 0, 0) from xlk (by decide +kernel)) rfl rfl ?_
    obtain ⟨q0, q1, t⟩ := t
    refine xr_icmp_le (n := 265) (m := 279) (show xlook 62 262 = some (262, .if_icmp .le 17, 3, 279, 0, 0, 0) from xlk (by decide +kernel)) rfl rfl q0 q1 ⟨fun c => ?_, fun c => ?_⟩
    · replace t := t.1 c
      obtain ⟨e1, e2⟩ := t (xPT_fld (xPT_arr hPT (Or.inl (xtg_6_7 _ h0.1 h0.2).1.2)) h0 (by decide) (by decide))
      subst e1
      subst e2
      exact xr_return (show xlook 62 279 = some (279, .return_, 1, 0, 0, 0, 0) from xlk (by decide +kernel)) rfl
    · replace t := t.2 c
      refine xr_aload_n (n := 266) (show xlook 62 265 = some (265, .aload_n 0, 1, 0, 0, 0, 0) from xlk (by decide +kernel)) rfl rfl ?_
      refine xr_iconst (n := 267) (show xlook 62 266 = some (266, .iconst 1, 1, 0, 0, 0, 0) from xlk (by decide +kernel)) rfl ?_
      refine xr_putz (show xlook 62 267 = some (267, .putfield 65, 3, 6, 4, 0, 85) from xlk (by decide +kernel)) (xobf h0 (by decide) (by decide)) rfl (by decide) (n := 270) rfl ?_
      refine xr_aload_n (n := 271) (show xlook 62 270 = some (270, .aload_n 0, 1, 0, 0, 0, 0) from xlk (by decide +kernel)) rfl rfl ?_
      refine xr_iload_n (n := 272) (show xlook 62 271 = some (271, .iload_n 1, 1, 0, 0, 0, 0) from xlk (by decide +kernel)) rfl rfl ?_
      refine xr_iload (n := 274) (show xlook 62 272 = some (272, .iload 6, 2, 0, 0, 0, 0) from xlk (by decide +kernel)) rfl rfl ?_
      refine xr_iload (n := 276) (show xlook 62 274 = some (274, .iload 4, 2, 0, 0, 0, 0) from xlk (by decide +kernel)) rfl rfl ?_
      obtain ⟨j2, G2, hj2, hm2, hG2, t⟩ := t
      refine xr_callv (dk := j2) (o := o0) (as := [vi (x1), vi (x6), vi (x4)]) (show xlook 62 276 = some (276, .invokevirtual 202, 3, 63, 4, 0, 73) from xlk (by decide +kernel)) (by decide) hj2 ⟨Nat.le_of_ble_eq_true rfl, Nat.le_of_ble_eq_true rfl, Nat.le_of_ble_eq_true rfl⟩ ⟨h0.1, h0.2, by decide⟩ rfl hm2 (n := 279) rfl ?_
      show xE X d 62 279 [.ref (o0), vi (x1), vi (x2), vi (x3), vi (x4), vi (x5), vi (x6), w7, w8] [] G2 r F'
      obtain ⟨e1, e2⟩ := t hG2
      subst e1
      subst e2
      exact xr_return (show xlook 62 279 = some (279, .return_, 1, 0, 0, 0, 0) from xlk (by decide +kernel)) rfl

theorem s63_0 {X : List Int32} {d : Nat} {F F' : XF} {r : Option Value} {o0 : Nat} {x1 : Int} {x2 : Int} {x3 : Int} {w4 : Value} {w5 : Value} {w6 : Value} {w7 : Value} {w8 : Value} (hPT : xPT F) (h0 : xob 6 o0) (t : (0 ≤ (x1) ∧ (x1) < 30) ∧ (∃ t1 : Nat, (xup (F) (o0 + 7) (x1).toNat (x3)) (o0) 0 = (t1 : Int) ∧ xob 9 t1 ∧ ((0 ≤ (x1) ∧ (x1) < 30) ∧ ((0 ≤ (x2) ∧ (x2) < 30) ∧ (inR ((xup (F) (o0 + 7) (x1).toNat (x3)) (o0 + 1 + 1) (x2).toNat) ∧ inR (x1) ∧ (((¬ ((xup (F) (o0 + 7) (x1).toNat (x3)) (o0 + 1 + 1) (x2).toNat) = (x1)) → ((0 ≤ (x2) ∧ (x2) < 30) ∧ (inR ((xup (F) (o0 + 7) (x1).toNat (x3)) (o0 + 1 + 2) (x2).toNat) ∧ inR (x1) ∧ (((¬ ((xup (F) (o0 + 7) (x1).toNat (x3)) (o0 + 1 + 2) (x2).toNat) = (x1)) → (((¬ (0) = (0)) → (xPT (xup (F) (o0 + 7) (x1).toNat (x3)) → xE X d 63 70 [.ref (o0), vi (x1), vi (x2), vi (x3), vi ((x3) - ((xup (F) (o0 + 7) (x1).toNat (x3)) (t1 + 2) (x1).toNat)), vi (0), vi (0), w7, w8] [] (xup (F) (o0 + 7) (x1).toNat (x3)) r F')) ∧ (¬ (¬ (0) = (0)) → ((((0) = (0)) → (xPT (xup (F) (o0 + 7) (x1).toNat (x3)) → xE X d 63 256 [.ref (o0), vi (x1), vi (x2), vi (x3), vi ((x3) - ((xup (F) (o0 + 7) (x1).toNat (x3)) (t1 + 2) (x1).toNat)), vi (0), vi (0), w7, w8] [] (xup (F) (o0 + 7) (x1).toNat (x3)) r F')) ∧ (¬ ((0) = (0)) → (xPT (xup (F) (o0 + 7) (x1).toNat (x3)) → xE X d 63 70 [.ref (o0), vi (x1), vi (x2), vi (x3), vi ((x3) - ((xup (F) (o0 + 7) (x1).toNat (x3)) (t1 + 2) (x1).toNat)), vi (0), vi (0), w7, w8] [] (xup (F) (o0 + 7) (x1).toNat (x3)) r F')))))) ∧ (¬ (¬ ((xup (F) (o0 + 7) (x1).toNat (x3)) (o0 + 1 + 2) (x2).toNat) = (x1)) → (((¬ (0) = (0)) → (xPT (xup (F) (o0 + 7) (x1).toNat (x3)) → xE X d 63 70 [.ref (o0), vi (x1), vi (x2), vi (x3), vi ((x3) - ((xup (F) (o0 + 7) (x1).toNat (x3)) (t1 + 2) (x1).toNat)), vi (0), vi (1), w7, w8] [] (xup (F) (o0 + 7) (x1).toNat (x3)) r F')) ∧ (¬ (¬ (0) = (0)) → ((((1) = (0)) → (xPT (xup (F) (o0 + 7) (x1).toNat (x3)) → xE X d 63 256 [.ref (o0), vi (x1), vi (x2), vi (x3), vi ((x3) - ((xup (F) (o0 + 7) (x1).toNat (x3)) (t1 + 2) (x1).toNat)), vi (0), vi (1), w7, w8] [] (xup (F) (o0 + 7) (x1).toNat (x3)) r F')) ∧ (¬ ((1) = (0)) → (xPT (xup (F) (o0 + 7) (x1).toNat (x3)) → xE X d 63 70 [.ref (o0), vi (x1), vi (x2), vi (x3), vi ((x3) - ((xup (F) (o0 + 7) (x1).toNat (x3)) (t1 + 2) (x1).toNat)), vi (0), vi (1), w7, w8] [] (xup (F) (o0 + 7) (x1).toNat (x3)) r F')))))))))) ∧ (¬ (¬ ((xup (F) (o0 + 7) (x1).toNat (x3)) (o0 + 1 + 1) (x2).toNat) = (x1)) → ((0 ≤ (x2) ∧ (x2) < 30) ∧ (inR ((xup (F) (o0 + 7) (x1).toNat (x3)) (o0 + 1 + 2) (x2).toNat) ∧ inR (x1) ∧ (((¬ ((xup (F) (o0 + 7) (x1).toNat (x3)) (o0 + 1 + 2) (x2).toNat) = (x1)) → (((¬ (1) = (0)) → (xPT (xup (F) (o0 + 7) (x1).toNat (x3)) → xE X d 63 70 [.ref (o0), vi (x1), vi (x2), vi (x3), vi ((x3) - ((xup (F) (o0 + 7) (x1).toNat (x3)) (t1 + 2) (x1).toNat)), vi (1), vi (0), w7, w8] [] (xup (F) (o0 + 7) (x1).toNat (x3)) r F')) ∧ (¬ (¬ (1) = (0)) → ((((0) = (0)) → (xPT (xup (F) (o0 + 7) (x1).toNat (x3)) → xE X d 63 256 [.ref (o0), vi (x1), vi (x2), vi (x3), vi ((x3) - ((xup (F) (o0 + 7) (x1).toNat (x3)) (t1 + 2) (x1).toNat)), vi (1), vi (0), w7, w8] [] (xup (F) (o0 + 7) (x1).toNat (x3)) r F')) ∧ (¬ ((0) = (0)) → (xPT (xup (F) (o0 + 7) (x1).toNat (x3)) → xE X d 63 70 [.ref (o0), vi (x1), vi (x2), vi (x3), vi ((x3) - ((xup (F) (o0 + 7) (x1).toNat (x3)) (t1 + 2) (x1).toNat)), vi (1), vi (0), w7, w8] [] (xup (F) (o0 + 7) (x1).toNat (x3)) r F')))))) ∧ (¬ (¬ ((xup (F) (o0 + 7) (x1).toNat (x3)) (o0 + 1 + 2) (x2).toNat) = (x1)) → (((¬ (1) = (0)) → (xPT (xup (F) (o0 + 7) (x1).toNat (x3)) → xE X d 63 70 [.ref (o0), vi (x1), vi (x2), vi (x3), vi ((x3) - ((xup (F) (o0 + 7) (x1).toNat (x3)) (t1 + 2) (x1).toNat)), vi (1), vi (1), w7, w8] [] (xup (F) (o0 + 7) (x1).toNat (x3)) r F')) ∧ (¬ (¬ (1) = (0)) → ((((1) = (0)) → (xPT (xup (F) (o0 + 7) (x1).toNat (x3)) → xE X d 63 256 [.ref (o0), vi (x1), vi (x2), vi (x3), vi ((x3) - ((xup (F) (o0 + 7) (x1).toNat (x3)) (t1 + 2) (x1).toNat)), vi (1), vi (1), w7, w8] [] (xup (F) (o0 + 7) (x1).toNat (x3)) r F')) ∧ (¬ ((1) = (0)) → (xPT (xup (F) (o0 + 7) (x1).toNat (x3)) → xE X d 63 70 [.ref (o0), vi (x1), vi (x2), vi (x3), vi ((x3) - ((xup (F) (o0 + 7) (x1).toNat (x3)) (t1 + 2) (x1).toNat)), vi (1), vi (1), w7, w8] [] (xup (F) (o0 + 7) (x1).toNat (x3)) r F')))))))))))))))) : xE X d 63 0 [.ref (o0), vi (x1), vi (x2), vi (x3), w4, w5, w6, w7, w8] [] F r F' := by
  refine xr_aload_n (n := 1) (show xlook 63 0 = some (0, .aload_n 0, 1, 0, 0, 0, 0) from xlk (by decide +kernel)) rfl rfl ?_
  refine xr_getr (q := o0 + 7) (show xlook 63 1 = some (1, .getfield 18, 3, 6, 6, 0, 75) from xlk (by decide +kernel)) (by decide) (xobf h0 (by decide) (by decide)) rfl (xPT_get hPT h0 (by decide)) (by have := (xtg_6_6 _ h0.1 h0.2).1.1; omega) (n := 4) rfl ?_
  refine xr_iload_n (n := 5) (show xlook 63 4 = some (4, .iload_n 1, 1, 0, 0, 0, 0) from xlk (by decide +kernel)) rfl rfl ?_
  refine xr_iload_n (n := 6) (show xlook 63 5 = some (5, .iload_n 3, 1, 0, 0, 0, 0) from xlk (by decide +kernel)) rfl rfl ?_
  obtain ⟨q1, t⟩ := t
  refine xr_iast (show xlook 63 6 = some (6, .iastore, 1, 0, 0, 0, 0) from xlk (by decide +kernel)) (xtg_6_6 _ h0.1 h0.2).1 (by rw [(xtg_6_6 _ h0.1 h0.2).2]; exact q1) (n := 7) rfl ?_
  refine xr_iload_n (n := 8) (show xlook 63 7 = some (7, .iload_n 3, 1, 0, 0, 0, 0) from xlk (by decide +kernel)) rfl rfl ?_
  refine xr_aload_n (n := 9) (show xlook 63 8 = some (8, .aload_n 0, 1, 0, 0, 0, 0) from xlk (by decide +kernel)) rfl rfl ?_
  obtain ⟨t1, q1, ht1, t⟩ := t
  refine xr_getr (q := t1) (show xlook 63 9 = some (9, .getfield 40, 3, 6, 0, 0, 81) from xlk (by decide +kernel)) (by decide) (xobf h0 (by decide) (by decide)) rfl q1 (by have := ht1.1; omega) (n := 12) rfl ?_
  refine xr_getr (q := t1 + 2) (show xlook 63 12 = some (12, .getfield 80, 3, 9, 7, 0, 89) from xlk (by decide +kernel)) (by decide) (xobf ht1 (by decide) (by decide)) rfl (xPT_get (xPT_arr hPT (Or.inl (xtg_6_6 _ h0.1 h0.2).1.2)) ht1 (by decide)) (by have := (xtg_9_7 _ ht1.1 ht1.2).1.1; omega) (n := 15) rfl ?_
  refine xr_iload_n (n := 16) (show xlook 63 15 = some (15, .iload_n 1, 1, 0, 0, 0, 0) from xlk (by decide +kernel)) rfl rfl ?_
  obtain ⟨q1, t⟩ := t
  refine xr_iald (show xlook 63 16 = some (16, .iaload, 1, 0, 0, 0, 0) from xlk (by decide +kernel)) (xtg_9_7 _ ht1.1 ht1.2).1 (by rw [(xtg_9_7 _ ht1.1 ht1.2).2]; exact q1) (n := 17) rfl ?_
  refine xr_isub (n := 18) (show xlook 63 17 = some (17, .isub, 1, 0, 0, 0, 0) from xlk (by decide +kernel)) rfl ?_
  refine xr_istore (n := 20) (show xlook 63 18 = some (18, .istore 4, 2, 0, 0, 0, 0) from xlk (by decide +kernel)) rfl (ls' := [.ref (o0), vi (x1), vi (x2), vi (x3), vi ((x3) - ((xup (F) (o0 + 7) (x1).toNat (x3)) (t1 + 2) (x1).toNat)), w5, w6, w7, w8]) (Nat.le_of_ble_eq_true rfl) rfl ?_
  refine xr_aload_n (n := 21) (show xlook 63 20 = some (20, .aload_n 0, 1, 0, 0, 0, 0) from xlk (by decide +kernel)) rfl rfl ?_
  refine xr_getr (q := o0 + 1) (show xlook 63 21 = some (21, .getfield 12, 3, 6, 1, 0, 74) from xlk (by decide +kernel)) (by decide) (xobf h0 (by decide) (by decide)) rfl (xPT_get (xPT_arr hPT (Or.inl (xtg_6_6 _ h0.1 h0.2).1.2)) h0 (by decide)) (by have := (xtg_6_1 _ h0.1 h0.2).1; omega) (n := 24) rfl ?_
  refine xr_getr (q := o0 + 1 + 1) (show xlook 63 24 = some (24, .getfield 97, 3, 7, 1, 0, 94) from xlk (by decide +kernel)) (by decide) (xobf (xtg_6_1 _ h0.1 h0.2) (by decide) (by decide)) rfl (xPT_get (xPT_arr hPT (Or.inl (xtg_6_6 _ h0.1 h0.2).1.2)) (xtg_6_1 _ h0.1 h0.2) (by decide)) (by have := (xtg_7_1 _ (xtg_6_1 _ h0.1 h0.2).1 (xtg_6_1 _ h0.1 h0.2).2).1.1; omega) (n := 27) rfl ?_
  refine xr_iload_n (n := 28) (show xlook 63 27 = some (27, .iload_n 2, 1, 0, 0, 0, 0) from xlk (by decide +kernel)) rfl rfl ?_
  obtain ⟨q1, t⟩ := t
  refine xr_iald (show xlook 63 28 = some (28, .iaload, 1, 0, 0, 0, 0) from xlk (by decide +kernel)) (xtg_7_1 _ (xtg_6_1 _ h0.1 h0.2).1 (xtg_6_1 _ h0.1 h0.2).2).1 (by rw [(xtg_7_1 _ (xtg_6_1 _ h0.1 h0.2).1 (xtg_6_1 _ h0.1 h0.2).2).2]; exact q1) (n := 29) rfl ?_
  refine xr_iload_n (n := 30) (show xlook 63 29 = some (29, .iload_n 1, 1, 0, 0, 0, 0) from xlk (by decide +kernel)) rfl rfl ?_
  obtain ⟨q0, q1, t⟩ := t
  refine xr_icmp_ne (n := 33) (m := 37) (show xlook 63 30 = some (30, .if_icmp .ne 7, 3, 37, 0, 0, 0) from xlk (by decide +kernel)) rfl rfl q0 q1 ⟨fun c => ?_, fun c => ?_⟩
  · replace t := t.1 c
    refine xr_iconst (n := 38) (show xlook 63 37 = some (37, .iconst 0, 1, 0, 0, 0, 0) from xlk (by decide +kernel)) rfl ?_
    refine xr_istore (n := 40) (show xlook 63 38 = some (38, .istore 5, 2, 0, 0, 0, 0) from xlk (by decide +kernel)) rfl (ls' := [.ref (o0), vi (x1), vi (x2), vi (x3), vi ((x3) - ((xup (F) (o0 + 7) (x1).toNat (x3)) (t1 + 2) (x1).toNat)), vi (0), w6, w7, w8]) (Nat.le_of_ble_eq_true rfl) rfl ?_
    refine xr_aload_n (n := 41) (show xlook 63 40 = some (40, .aload_n 0, 1, 0, 0, 0, 0) from xlk (by decide +kernel)) rfl rfl ?_
    refine xr_getr (q := o0 + 1) (show xlook 63 41 = some (41, .getfield 12, 3, 6, 1, 0, 74) from xlk (by decide +kernel)) (by decide) (xobf h0 (by decide) (by decide)) rfl (xPT_get (xPT_arr hPT (Or.inl (xtg_6_6 _ h0.1 h0.2).1.2)) h0 (by decide)) (by have := (xtg_6_1 _ h0.1 h0.2).1; omega) (n := 44) rfl ?_
    refine xr_getr (q := o0 + 1 + 2) (show xlook 63 44 = some (44, .getfield 105, 3, 7, 2, 0, 96) from xlk (by decide +kernel)) (by decide) (xobf (xtg_6_1 _ h0.1 h0.2) (by decide) (by decide)) rfl (xPT_get (xPT_arr hPT (Or.inl (xtg_6_6 _ h0.1 h0.2).1.2)) (xtg_6_1 _ h0.1 h0.2) (by decide)) (by have := (xtg_7_2 _ (xtg_6_1 _ h0.1 h0.2).1 (xtg_6_1 _ h0.1 h0.2).2).1.1; omega) (n := 47) rfl ?_
    refine xr_iload_n (n := 48) (show xlook 63 47 = some (47, .iload_n 2, 1, 0, 0, 0, 0) from xlk (by decide +kernel)) rfl rfl ?_
    obtain ⟨q1, t⟩ := t
    refine xr_iald (show xlook 63 48 = some (48, .iaload, 1, 0, 0, 0, 0) from xlk (by decide +kernel)) (xtg_7_2 _ (xtg_6_1 _ h0.1 h0.2).1 (xtg_6_1 _ h0.1 h0.2).2).1 (by rw [(xtg_7_2 _ (xtg_6_1 _ h0.1 h0.2).1 (xtg_6_1 _ h0.1 h0.2).2).2]; exact q1) (n := 49) rfl ?_
    refine xr_iload_n (n := 50) (show xlook 63 49 = some (49, .iload_n 1, 1, 0, 0, 0, 0) from xlk (by decide +kernel)) rfl rfl ?_
    obtain ⟨q0, q1, t⟩ := t
    refine xr_icmp_ne (n := 53) (m := 57) (show xlook 63 50 = some (50, .if_icmp .ne 7, 3, 57, 0, 0, 0) from xlk (by decide +kernel)) rfl rfl q0 q1 ⟨fun c => ?_, fun c => ?_⟩
    · replace t := t.1 c
      refine xr_iconst (n := 58) (show xlook 63 57 = some (57, .iconst 0, 1, 0, 0, 0, 0) from xlk (by decide +kernel)) rfl ?_
      refine xr_istore (n := 60) (show xlook 63 58 = some (58, .istore 6, 2, 0, 0, 0, 0) from xlk (by decide +kernel)) rfl (ls' := [.ref (o0), vi (x1), vi (x2), vi (x3), vi ((x3) - ((xup (F) (o0 + 7) (x1).toNat (x3)) (t1 + 2) (x1).toNat)), vi (0), vi (0), w7, w8]) (Nat.le_of_ble_eq_true rfl) rfl ?_
      refine xr_iload (n := 62) (show xlook 63 60 = some (60, .iload 5, 2, 0, 0, 0, 0) from xlk (by decide +kernel)) rfl rfl ?_
      refine xr_if_ne (n := 65) (m := 70) (show xlook 63 62 = some (62, .ifCond .ne 8, 3, 70, 0, 0, 0) from xlk (by decide +kernel)) rfl rfl ⟨by decide, by decide⟩ ⟨fun c => ?_, fun c => ?_⟩
      · replace t := t.1 c
        exact t (xPT_arr hPT (Or.inl (xtg_6_6 _ h0.1 h0.2).1.2))
      · replace t := t.2 c
        refine xr_iload (n := 67) (show xlook 63 65 = some (65, .iload 6, 2, 0, 0, 0, 0) from xlk (by decide +kernel)) rfl rfl ?_
        refine xr_if_eq (n := 70) (m := 256) (show xlook 63 67 = some (67, .ifCond .eq 189, 3, 256, 0, 0, 0) from xlk (by decide +kernel)) rfl rfl ⟨by decide, by decide⟩ ⟨fun c => ?_, fun c => ?_⟩
        · replace t := t.1 c
          exact t (xPT_arr hPT (Or.inl (xtg_6_6 _ h0.1 h0.2).1.2))
        · replace t := t.2 c
          exact t (xPT_arr hPT (Or.inl (xtg_6_6 _ h0.1 h0.2).1.2))
    · replace t := t.2 c
      refine xr_iconst (n := 54) (show xlook 63 53 = some (53, .iconst 1, 1, 0, 0, 0, 0) from xlk (by decide +kernel)) rfl ?_
      refine xr_goto (m := 58) (show xlook 63 54 = some (54, .goto 4, 3, 58, 0, 0, 0) from xlk (by decide +kernel)) rfl ?_
      refine xr_istore (n := 60) (show xlook 63 58 = some (58, .istore 6, 2, 0, 0, 0, 0) from xlk (by decide +kernel)) rfl (ls' := [.ref (o0), vi (x1), vi (x2), vi (x3), vi ((x3) - ((xup (F) (o0 + 7) (x1).toNat (x3)) (t1 + 2) (x1).toNat)), vi (0), vi (1), w7, w8]) (Nat.le_of_ble_eq_true rfl) rfl ?_
      refine xr_iload (n := 62) (show xlook 63 60 = some (60, .iload 5, 2, 0, 0, 0, 0) from xlk (by decide +kernel)) rfl rfl ?_
      refine xr_if_ne (n := 65) (m := 70) (show xlook 63 62 = some (62, .ifCond .ne 8, 3, 70, 0, 0, 0) from xlk (by decide +kernel)) rfl rfl ⟨by decide, by decide⟩ ⟨fun c => ?_, fun c => ?_⟩
      · replace t := t.1 c
        exact t (xPT_arr hPT (Or.inl (xtg_6_6 _ h0.1 h0.2).1.2))
      · replace t := t.2 c
        refine xr_iload (n := 67) (show xlook 63 65 = some (65, .iload 6, 2, 0, 0, 0, 0) from xlk (by decide +kernel)) rfl rfl ?_
        refine xr_if_eq (n := 70) (m := 256) (show xlook 63 67 = some (67, .ifCond .eq 189, 3, 256, 0, 0, 0) from xlk (by decide +kernel)) rfl rfl ⟨by decide, by decide⟩ ⟨fun c => ?_, fun c => ?_⟩
        · replace t := t.1 c
          exact t (xPT_arr hPT (Or.inl (xtg_6_6 _ h0.1 h0.2).1.2))
        · replace t := t.2 c
          exact t (xPT_arr hPT (Or.inl (xtg_6_6 _ h0.1 h0.2).1.2))
  · replace t := t.2 c
    refine xr_iconst (n := 34) (show xlook 63 33 = some (33, .iconst 1, 1, 0, 0, 0, 0) from xlk (by decide +kernel)) rfl ?_
    refine xr_goto (m := 38) (show xlook 63 34 = some (34, .goto 4, 3, 38, 0, 0, 0) from xlk (by decide +kernel)) rfl ?_
    refine xr_istore (n := 40) (show xlook 63 38 = some (38, .istore 5, 2, 0, 0, 0, 0) from xlk (by decide +kernel)) rfl (ls' := [.ref (o0), vi (x1), vi (x2), vi (x3), vi ((x3) - ((xup (F) (o0 + 7) (x1).toNat (x3)) (t1 + 2) (x1).toNat)), vi (1), w6, w7, w8]) (Nat.le_of_ble_eq_true rfl) rfl ?_
    refine xr_aload_n (n := 41) (show xlook 63 40 = some (40, .aload_n 0, 1, 0, 0, 0, 0) from xlk (by decide +kernel)) rfl rfl ?_
    refine xr_getr (q := o0 + 1) (show xlook 63 41 = some (41, .getfield 12, 3, 6, 1, 0, 74) from xlk (by decide +kernel)) (by decide) (xobf h0 (by decide) (by decide)) rfl (xPT_get (xPT_arr hPT (Or.inl (xtg_6_6 _ h0.1 h0.2).1.2)) h0 (by decide)) (by have := (xtg_6_1 _ h0.1 h0.2).1; omega) (n := 44) rfl ?_
    refine xr_getr (q := o0 + 1 + 2) (show xlook 63 44 = some (44, .getfield 105, 3, 7, 2, 0, 96) from xlk (by decide +kernel)) (by decide) (xobf (xtg_6_1 _ h0.1 h0.2) (by decide) (by decide)) rfl (xPT_get (xPT_arr hPT (Or.inl (xtg_6_6 _ h0.1 h0.2).1.2)) (xtg_6_1 _ h0.1 h0.2) (by decide)) (by have := (xtg_7_2 _ (xtg_6_1 _ h0.1 h0.2).1 (xtg_6_1 _ h0.1 h0.2).2).1.1; omega) (n := 47) rfl ?_
    refine xr_iload_n (n := 48) (show xlook 63 47 = some (47, .iload_n 2, 1, 0, 0, 0, 0) from xlk (by decide +kernel)) rfl rfl ?_
    obtain ⟨q1, t⟩ := t
    refine xr_iald (show xlook 63 48 = some (48, .iaload, 1, 0, 0, 0, 0) from xlk (by decide +kernel)) (xtg_7_2 _ (xtg_6_1 _ h0.1 h0.2).1 (xtg_6_1 _ h0.1 h0.2).2).1 (by rw [(xtg_7_2 _ (xtg_6_1 _ h0.1 h0.2).1 (xtg_6_1 _ h0.1 h0.2).2).2]; exact q1) (n := 49) rfl ?_
    refine xr_iload_n (n := 50) (show xlook 63 49 = some (49, .iload_n 1, 1, 0, 0, 0, 0) from xlk (by decide +kernel)) rfl rfl ?_
    obtain ⟨q0, q1, t⟩ := t
    refine xr_icmp_ne (n := 53) (m := 57) (show xlook 63 50 = some (50, .if_icmp .ne 7, 3, 57, 0, 0, 0) from xlk (by decide +kernel)) rfl rfl q0 q1 ⟨fun c => ?_, fun c => ?_⟩
    · replace t := t.1 c
      refine xr_iconst (n := 58) (show xlook 63 57 = some (57, .iconst 0, 1, 0, 0, 0, 0) from xlk (by decide +kernel)) rfl ?_
      refine xr_istore (n := 60) (show xlook 63 58 = some (58, .istore 6, 2, 0, 0, 0, 0) from xlk (by decide +kernel)) rfl (ls' := [.ref (o0), vi (x1), vi (x2), vi (x3), vi ((x3) - ((xup (F) (o0 + 7) (x1).toNat (x3)) (t1 + 2) (x1).toNat)), vi (1), vi (0), w7, w8]) (Nat.le_of_ble_eq_true rfl) rfl ?_
      refine xr_iload (n := 62) (show xlook 63 60 = some (60, .iload 5, 2, 0, 0, 0, 0) from xlk (by decide +kernel)) rfl rfl ?_
      refine xr_if_ne (n := 65) (m := 70) (show xlook 63 62 = some (62, .ifCond .ne 8, 3, 70, 0, 0, 0) from xlk (by decide +kernel)) rfl rfl ⟨by decide, by decide⟩ ⟨fun c => ?_, fun c => ?_⟩
      · replace t := t.1 c
        exact t (xPT_arr hPT (Or.inl (xtg_6_6 _ h0.1 h0.2).1.2))
      · replace t := t.2 c
        refine xr_iload (n := 67) (show xlook 63 65 = some (65, .iload 6, 2, 0, 0, 0, 0) from xlk (by decide +kernel)) rfl rfl ?_
        refine xr_if_eq (n := 70) (m := 256) (show xlook 63 67 = some (67, .ifCond .eq 189, 3, 256, 0, 0, 0) from xlk (by decide +kernel)) rfl rfl ⟨by decide, by decide⟩ ⟨fun c => ?_, fun c => ?_⟩
        · replace t := t.1 c
          exact t (xPT_arr hPT (Or.inl (xtg_6_6 _ h0.1 h0.2).1.2))
        · replace t := t.2 c
          exact t (xPT_arr hPT (Or.inl (xtg_6_6 _ h0.1 h0.2).1.2))
    · replace t := t.2 c
      refine xr_iconst (n := 54) (show xlook 63 53 = some (53, .iconst 1, 1, 0, 0, 0, 0) from xlk (by decide +kernel)) rfl ?_
      refine xr_goto (m := 58) (show xlook 63 54 = some (54, .goto 4, 3, 58, 0, 0, 0) from xlk (by decide +kernel)) rfl ?_
      refine xr_istore (n := 60) (show xlook 63 58 = some (58, .istore 6, 2, 0, 0, 0, 0) from xlk (by decide +kernel)) rfl (ls' := [.ref (o0), vi (x1), vi (x2), vi (x3), vi ((x3) - ((xup (F) (o0 + 7) (x1).toNat (x3)) (t1 + 2) (x1).toNat)), vi (1), vi (1), w7, w8]) (Nat.le_of_ble_eq_true rfl) rfl ?_
      refine xr_iload (n := 62) (show xlook 63 60 = some (60, .iload 5, 2, 0, 0, 0, 0) from xlk (by decide +kernel)) rfl rfl ?_
      refine xr_if_ne (n := 65) (m := 70) (show xlook 63 62 = some (62, .ifCond .ne 8, 3, 70, 0, 0, 0) from xlk (by decide +kernel)) rfl rfl ⟨by decide, by decide⟩ ⟨fun c => ?_, fun c => ?_⟩
      · replace t := t.1 c
        exact t (xPT_arr hPT (Or.inl (xtg_6_6 _ h0.1 h0.2).1.2))
      · replace t := t.2 c
        refine xr_iload (n := 67) (show xlook 63 65 = some (65, .iload 6, 2, 0, 0, 0, 0) from xlk (by decide +kernel)) rfl rfl ?_
        refine xr_if_eq (n := 70) (m := 256) (show xlook 63 67 = some (67, .ifCond .eq 189, 3, 256, 0, 0, 0) from xlk (by decide +kernel)) rfl rfl ⟨by decide, by decide⟩ ⟨fun c => ?_, fun c => ?_⟩
        · replace t := t.1 c
          exact t (xPT_arr hPT (Or.inl (xtg_6_6 _ h0.1 h0.2).1.2))
        · replace t := t.2 c
          exact t (xPT_arr hPT (Or.inl (xtg_6_6 _ h0.1 h0.2).1.2))
theorem m63 {X : List Int32} {d : Nat} {F F' : XF} {r : Option Value} {o0 : Nat} {x1 : Int} {x2 : Int} {x3 : Int} (hPT : xPT F) (h0 : xob 6 o0) (t : (0 ≤ (x1) ∧ (x1) < 30) ∧ (∃ t1 : Nat, (xup (F) (o0 + 7) (x1).toNat (x3)) (o0) 0 = (t1 : Int) ∧ xob 9 t1 ∧ ((0 ≤ (x1) ∧ (x1) < 30) ∧ ((0 ≤ (x2) ∧ (x2) < 30) ∧ (inR ((xup (F) (o0 + 7) (x1).toNat (x3)) (o0 + 1 + 1) (x2).toNat) ∧ inR (x1) ∧ (((¬ ((xup (F) (o0 + 7) (x1).toNat (x3)) (o0 + 1 + 1) (x2).toNat) = (x1)) → ((0 ≤ (x2) ∧ (x2) < 30) ∧ (inR ((xup (F) (o0 + 7) (x1).toNat (x3)) (o0 + 1 + 2) (x2).toNat) ∧ inR (x1) ∧ (((¬ ((xup (F) (o0 + 7) (x1).toNat (x3)) (o0 + 1 + 2) (x2).toNat) = (x1)) → (((¬ (0) = (0)) → (xPT (xup (F) (o0 + 7) (x1).toNat (x3)) → xE X d 63 70 [.ref (o0), vi (x1), vi (x2), vi (x3), vi ((x3) - ((xup (F) (o0 + 7) (x1).toNat (x3)) (t1 + 2) (x1).toNat)), vi (0), vi (0), xU0, xU0] [] (xup (F) (o0 + 7) (x1).toNat (x3)) r F')) ∧ (¬ (¬ (0) = (0)) → ((((0) = (0)) → (xPT (xup (F) (o0 + 7) (x1).toNat (x3)) → xE X d 63 256 [.ref (o0), vi (x1), vi (x2), vi (x3), vi ((x3) - ((xup (F) (o0 + 7) (x1).toNat (x3)) (t1 + 2) (x1).toNat)), vi (0), vi (0), xU0, xU0] [] (xup (F) (o0 + 7) (x1).toNat (x3)) r F')) ∧ (¬ ((0) = (0)) → (xPT (xup (F) (o0 + 7) (x1).toNat (x3)) → xE X d 63 70 [.ref (o0), vi (x1), vi (x2), vi (x3), vi ((x3) - ((xup (F) (o0 + 7) (x1).toNat (x3)) (t1 + 2) (x1).toNat)), vi (0), vi (0), xU0, xU0] [] (xup (F) (o0 + 7) (x1).toNat (x3)) r F')))))) ∧ (¬ (¬ ((xup (F) (o0 + 7) (x1).toNat (x3)) (o0 + 1 + 2) (x2).toNat) = (x1)) → (((¬ (0) = (0)) → (xPT (xup (F) (o0 + 7) (x1).toNat (x3)) → xE X d 63 70 [.ref (o0), vi (x1), vi (x2), vi (x3), vi ((x3) - ((xup (F) (o0 + 7) (x1).toNat (x3)) (t1 + 2) (x1).toNat)), vi (0), vi (1), xU0, xU0] [] (xup (F) (o0 + 7) (x1).toNat (x3)) r F')) ∧ (¬ (¬ (0) = (0)) → ((((1) = (0)) → (xPT (xup (F) (o0 + 7) (x1).toNat (x3)) → xE X d 63 256 [.ref (o0), vi (x1), vi (x2), vi (x3), vi ((x3) - ((xup (F) (o0 + 7) (x1).toNat (x3)) (t1 + 2) (x1).toNat)), vi (0), vi (1), xU0, xU0] [] (xup (F) (o0 + 7) (x1).toNat (x3)) r F')) ∧ (¬ ((1) = (0)) → (xPT (xup (F) (o0 + 7) (x1).toNat (x3)) → xE X d 63 70 [.ref (o0), vi (x1), vi (x2), vi (x3), vi ((x3) - ((xup (F) (o0 + 7) (x1).toNat (x3)) (t1 + 2) (x1).toNat)), vi (0), vi (1), xU0, xU0] [] (xup (F) (o0 + 7) (x1).toNat (x3)) r F')))))))))) ∧ (¬ (¬ ((xup (F) (o0 + 7) (x1).toNat (x3)) (o0 + 1 + 1) (x2).toNat) = (x1)) → ((0 ≤ (x2) ∧ (x2) < 30) ∧ (inR ((xup (F) (o0 + 7) (x1).toNat (x3)) (o0 + 1 + 2) (x2).toNat) ∧ inR (x1) ∧ (((¬ ((xup (F) (o0 + 7) (x1).toNat (x3)) (o0 + 1 + 2) (x2).toNat) = (x1)) → (((¬ (1) = (0)) → (xPT (xup (F) (o0 + 7) (x1).toNat (x3)) → xE X d 63 70 [.ref (o0), vi (x1), vi (x2), vi (x3), vi ((x3) - ((xup (F) (o0 + 7) (x1).toNat (x3)) (t1 + 2) (x1).toNat)), vi (1), vi (0), xU0, xU0] [] (xup (F) (o0 + 7) (x1).toNat (x3)) r F')) ∧ (¬ (¬ (1) = (0)) → ((((0) = (0)) → (xPT (xup (F) (o0 + 7) (x1).toNat (x3)) → xE X d 63 256 [.ref (o0), vi (x1), vi (x2), vi (x3), vi ((x3) - ((xup (F) (o0 + 7) (x1).toNat (x3)) (t1 + 2) (x1).toNat)), vi (1), vi (0), xU0, xU0] [] (xup (F) (o0 + 7) (x1).toNat (x3)) r F')) ∧ (¬ ((0) = (0)) → (xPT (xup (F) (o0 + 7) (x1).toNat (x3)) → xE X d 63 70 [.ref (o0), vi (x1), vi (x2), vi (x3), vi ((x3) - ((xup (F) (o0 + 7) (x1).toNat (x3)) (t1 + 2) (x1).toNat)), vi (1), vi (0), xU0, xU0] [] (xup (F) (o0 + 7) (x1).toNat (x3)) r F')))))) ∧ (¬ (¬ ((xup (F) (o0 + 7) (x1).toNat (x3)) (o0 + 1 + 2) (x2).toNat) = (x1)) → (((¬ (1) = (0)) → (xPT (xup (F) (o0 + 7) (x1).toNat (x3)) → xE X d 63 70 [.ref (o0), vi (x1), vi (x2), vi (x3), vi ((x3) - ((xup (F) (o0 + 7) (x1).toNat (x3)) (t1 + 2) (x1).toNat)), vi (1), vi (1), xU0, xU0] [] (xup (F) (o0 + 7) (x1).toNat (x3)) r F')) ∧ (¬ (¬ (1) = (0)) → ((((1) = (0)) → (xPT (xup (F) (o0 + 7) (x1).toNat (x3)) → xE X d 63 256 [.ref (o0), vi (x1), vi (x2), vi (x3), vi ((x3) - ((xup (F) (o0 + 7) (x1).toNat (x3)) (t1 + 2) (x1).toNat)), vi (1), vi (1), xU0, xU0] [] (xup (F) (o0 + 7) (x1).toNat (x3)) r F')) ∧ (¬ ((1) = (0)) → (xPT (xup (F) (o0 + 7) (x1).toNat (x3)) → xE X d 63 70 [.ref (o0), vi (x1), vi (x2), vi (x3), vi ((x3) - ((xup (F) (o0 + 7) (x1).toNat (x3)) (t1 + 2) (x1).toNat)), vi (1), vi (1), xU0, xU0] [] (xup (F) (o0 + 7) (x1).toNat (x3)) r F')))))))))))))))) : xM X d 63 [.ref (o0), vi (x1), vi (x2), vi (x3)] F r F' := by
  show xE X d 63 0 [.ref (o0), vi (x1), vi (x2), vi (x3), xU0, xU0, xU0, xU0, xU0] [] F r F'
  exact s63_0 hPT h0 t

theorem s63_70 {X : List Int32} {d : Nat} {F F' : XF} {r : Option Value} {o0 : Nat} {x1 : Int} {x2 : Int} {x3 : Int} {x4 : Int} {x5 : Int} {x6 : Int} {w7 : Value} {w8 : Value} (hPT : xPT F) (h0 : xob 6 o0) (t : inR (x6) ∧ ((((x6) = (0)) → ((0 ≤ (x1) ∧ (x1) < 30) ∧ (xPT (F) → xE X d 63 96 [.ref (o0), vi (x1), vi (x2), vi (x3), vi (x4), vi (x5), vi (x6), vi ((F) (o0 + 9) (x1).toNat), vi ((F) (o0 + 9) (x1).toNat)] [] (F) r F'))) ∧ (¬ ((x6) = (0)) → ((0 ≤ (x1) ∧ (x1) < 30) ∧ (xPT (F) → xE X d 63 96 [.ref (o0), vi (x1), vi (x2), vi (x3), vi (x4), vi (x5), vi (x6), vi ((F) (o0 + 10) (x1).toNat), vi ((F) (o0 + 10) (x1).toNat)] [] (F) r F'))))) : xE X d 63 70 [.ref (o0), vi (x1), vi (x2), vi (x3), vi (x4), vi (x5), vi (x6), w7, w8] [] F r F' := by
  refine xr_iload (n := 72) (show xlook 63 70 = some (70, .iload 6, 2, 0, 0, 0, 0) from xlk (by decide +kernel)) rfl rfl ?_
  obtain ⟨q0, t⟩ := t
  refine xr_if_eq (n := 75) (m := 84) (show xlook 63 72 = some (72, .ifCond .eq 12, 3, 84, 0, 0, 0) from xlk (by decide +kernel)) rfl rfl q0 ⟨fun c => ?_, fun c => ?_⟩
  · replace t := t.1 c
    refine xr_aload_n (n := 85) (show xlook 63 84 = some (84, .aload_n 0, 1, 0, 0, 0, 0) from xlk (by decide +kernel)) rfl rfl ?_
    refine xr_getr (q := o0 + 9) (show xlook 63 85 = some (85, .getfield 25, 3, 6, 8, 0, 77) from xlk (by decide +kernel)) (by decide) (xobf h0 (by decide) (by decide)) rfl (xPT_get hPT h0 (by decide)) (by have := (xtg_6_8 _ h0.1 h0.2).1.1; omega) (n := 88) rfl ?_
    refine xr_iload_n (n := 89) (show xlook 63 88 = some (88, .iload_n 1, 1, 0, 0, 0, 0) from xlk (by decide +kernel)) rfl rfl ?_
    obtain ⟨q1, t⟩ := t
    refine xr_iald (show xlook 63 89 = some (89, .iaload, 1, 0, 0, 0, 0) from xlk (by decide +kernel)) (xtg_6_8 _ h0.1 h0.2).1 (by rw [(xtg_6_8 _ h0.1 h0.2).2]; exact q1) (n := 90) rfl ?_
    refine xr_istore (n := 92) (show xlook 63 90 = some (90, .istore 7, 2, 0, 0, 0, 0) from xlk (by decide +kernel)) rfl (ls' := [.ref (o0), vi (x1), vi (x2), vi (x3), vi (x4), vi (x5), vi (x6), vi ((F) (o0 + 9) (x1).toNat), w8]) (Nat.le_of_ble_eq_true rfl) rfl ?_
    refine xr_iload (n := 94) (show xlook 63 92 = some (92, .iload 7, 2, 0, 0, 0, 0) from xlk (by decide +kernel)) rfl rfl ?_
    refine xr_istore (n := 96) (show xlook 63 94 = some (94, .istore 8, 2, 0, 0, 0, 0) from xlk (by decide +kernel)) rfl (ls' := [.ref (o0), vi (x1), vi (x2), vi (x3), vi (x4), vi (x5), vi (x6), vi ((F) (o0 + 9) (x1).toNat), vi ((F) (o0 + 9) (x1).toNat)]) (Nat.le_of_ble_eq_true rfl) rfl ?_
    exact t hPT
  · replace t := t.2 c
    refine xr_aload_n (n := 76) (show xlook 63 75 = some (75, .aload_n 0, 1, 0, 0, 0, 0) from xlk (by decide +kernel)) rfl rfl ?_
    refine xr_getr (q := o0 + 10) (show xlook 63 76 = some (76, .getfield 28, 3, 6, 9, 0, 78) from xlk (by decide +kernel)) (by decide) (xobf h0 (by decide) (by decide)) rfl (xPT_get hPT h0 (by decide)) (by have := (xtg_6_9 _ h0.1 h0.2).1.1; omega) (n := 79) rfl ?_
    refine xr_iload_n (n := 80) (show xlook 63 79 = some (79, .iload_n 1, 1, 0, 0, 0, 0) from xlk (by decide +kernel)) rfl rfl ?_
    obtain ⟨q1, t⟩ := t
    refine xr_iald (show xlook 63 80 = some (80, .iaload, 1, 0, 0, 0, 0) from xlk (by decide +kernel)) (xtg_6_9 _ h0.1 h0.2).1 (by rw [(xtg_6_9 _ h0.1 h0.2).2]; exact q1) (n := 81) rfl ?_
    refine xr_goto (m := 90) (show xlook 63 81 = some (81, .goto 9, 3, 90, 0, 0, 0) from xlk (by decide +kernel)) rfl ?_
    refine xr_istore (n := 92) (show xlook 63 90 = some (90, .istore 7, 2, 0, 0, 0, 0) from xlk (by decide +kernel)) rfl (ls' := [.ref (o0), vi (x1), vi (x2), vi (x3), vi (x4), vi (x5), vi (x6), vi ((F) (o0 + 10) (x1).toNat), w8]) (Nat.le_of_ble_eq_true rfl) rfl ?_
    refine xr_iload (n := 94) (show xlook 63 92 = some (92, .iload 7, 2, 0, 0, 0, 0) from xlk (by decide +kernel)) rfl rfl ?_
    refine xr_istore (n := 96) (show xlook 63 94 = some (94, .istore 8, 2, 0, 0, 0, 0) from xlk (by decide +kernel)) rfl (ls' := [.ref (o0), vi (x1), vi (x2), vi (x3), vi (x4), vi (x5), vi (x6), vi ((F) (o0 + 10) (x1).toNat), vi ((F) (o0 + 10) (x1).toNat)]) (Nat.le_of_ble_eq_true rfl) rfl ?_
    exact t hPT

theorem s63_96 {X : List Int32} {d : Nat} {F F' : XF} {r : Option Value} {o0 : Nat} {x1 : Int} {x2 : Int} {x3 : Int} {x4 : Int} {x5 : Int} {x6 : Int} {x7 : Int} {x8 : Int} (hPT : xPT F) (h0 : xob 6 o0) (t : ∃ t1 : Nat, (F) (o0) 0 = (t1 : Int) ∧ xob 9 t1 ∧ (inR (x8) ∧ inR ((F) (t1) 4) ∧ (((((F) (t1) 4) ≤ (x8)) → (xPT (F) → xE X d 63 256 [.ref (o0), vi (x1), vi (x2), vi (x3), vi (x4), vi (x5), vi (x6), vi (x7), vi (x8)] [] (F) r F')) ∧ (¬ (((F) (t1) 4) ≤ (x8)) → (∃ t2 : Nat, (F) (o0) 0 = (t2 : Int) ∧ xob 9 t2 ∧ ((0 ≤ (x8) ∧ (x8) < 10) ∧ (inR ((F) (t2 + 1 + 6 + (x8).toNat) 0) ∧ inR (x3) ∧ (((((F) (t2 + 1 + 6 + (x8).toNat) 0) < (x3)) → (inR (x5) ∧ ((((x5) = (0)) → (xPT (F) → xE X d 63 180 [.ref (o0), vi (x1), vi (x2), vi (x3), vi (x4), vi (x5), vi (x6), vi (x7), vi (x8)] [] (F) r F')) ∧ (¬ ((x5) = (0)) → ((0 ≤ (x1) ∧ (x1) < 30) ∧ (inR (x8) ∧ inR ((F) (o0 + 9) (x1).toNat) ∧ (((¬ (x8) = ((F) (o0 + 9) (x1).toNat)) → (xPT (F) → xE X d 63 180 [.ref (o0), vi (x1), vi (x2), vi (x3), vi (x4), vi (x5), vi (x6), vi (x7), vi (x8)] [] (F) r F')) ∧ (¬ (¬ (x8) = ((F) (o0 + 9) (x1).toNat)) → ((0 ≤ (x1) ∧ (x1) < 30) ∧ ((0 ≤ (x1) ∧ (x1) < 30) ∧ ((0 ≤ (x8) ∧ (x8) < 10) ∧ ((0 ≤ (x8) ∧ (x8) < 10) ∧ (∃ (j4 : Nat) (G4 : XF), j4 < d ∧ xM X j4 17 [.ref (o0 + 13), vi (0), vi ((xup (xup (F) (o0 + 9) (x1).toNat (((F) (o0 + 9) (x1).toNat) + (1))) (o0 + 11) (x8).toNat (((xup (F) (o0 + 9) (x1).toNat (((F) (o0 + 9) (x1).toNat) + (1))) (o0 + 11) (x8).toNat) + (1))) (o0) 2), vi (x8), vi (x2)] (xup (xup (F) (o0 + 9) (x1).toNat (((F) (o0 + 9) (x1).toNat) + (1))) (o0 + 11) (x8).toNat (((xup (F) (o0 + 9) (x1).toNat (((F) (o0 + 9) (x1).toNat) + (1))) (o0 + 11) (x8).toNat) + (1))) none G4 ∧ xPT G4 ∧ (xPT (G4) → xE X d 63 180 [.ref (o0), vi (x1), vi (x2), vi (x3), vi (x4), vi (x5), vi (x6), vi (x7), vi (x8)] [] (G4) r F')))))))))))))) ∧ (¬ (((F) (t2 + 1 + 6 + (x8).toNat) 0) < (x3)) → (xPT (F) → xE X d 63 256 [.ref (o0), vi (x1), vi (x2), vi (x3), vi (x4), vi (x5), vi (x6), vi (x7), vi (x8)] [] (F) r F')))))))))) : xE X d 63 96 [.ref (o0), vi (x1), vi (x2), vi (x3), vi (x4), vi (x5), vi (x6), vi (x7), vi (x8)] [] F r F' := by
  refine xr_iload (n := 98) (show xlook 63 96 = some (96, .iload 8, 2, 0, 0, 0, 0) from xlk (by decide +kernel)) rfl rfl ?_
  refine xr_aload_n (n := 99) (show xlook 63 98 = some (98, .aload_n 0, 1, 0, 0, 0, 0) from xlk (by decide +kernel)) rfl rfl ?_
  obtain ⟨t1, q1, ht1, t⟩ := t
  refine xr_getr (q := t1) (show xlook 63 99 = some (99, .getfield 40, 3, 6, 0, 0, 81) from xlk (by decide +kernel)) (by decide) (xobf h0 (by decide) (by decide)) rfl q1 (by have := ht1.1; omega) (n := 102) rfl ?_
  refine xr_geti (show xlook 63 102 = some (102, .getfield 86, 3, 9, 4, 0, 91) from xlk (by decide +kernel)) (by decide) (xobf ht1 (by decide) (by decide)) rfl (n := 105) rfl ?_
  obtain ⟨q0, q1, t⟩ := t
  refine xr_icmp_ge (n := 108) (m := 256) (show xlook 63 105 = some (105, .if_icmp .ge 151, 3, 256, 0, 0, 0) from xlk (by decide +kernel)) rfl rfl q0 q1 ⟨fun c => ?_, fun c => ?_⟩
  · replace t := t.1 c
    exact t hPT
  · replace t := t.2 c
    refine xr_aload_n (n := 109) (show xlook 63 108 = some (108, .aload_n 0, 1, 0, 0, 0, 0) from xlk (by decide +kernel)) rfl rfl ?_
    obtain ⟨t2, q1, ht2, t⟩ := t
    refine xr_getr (q := t2) (show xlook 63 109 = some (109, .getfield 40, 3, 6, 0, 0, 81) from xlk (by decide +kernel)) (by decide) (xobf h0 (by decide) (by decide)) rfl q1 (by have := ht2.1; omega) (n := 112) rfl ?_
    refine xr_getr (q := t2 + 1) (show xlook 63 112 = some (112, .getfield 92, 3, 9, 5, 0, 92) from xlk (by decide +kernel)) (by decide) (xobf ht2 (by decide) (by decide)) rfl (xPT_get hPT ht2 (by decide)) (by have := (xtg_9_5 _ ht2.1 ht2.2).1.1; omega) (n := 115) rfl ?_
    refine xr_iload (n := 117) (show xlook 63 115 = some (115, .iload 8, 2, 0, 0, 0, 0) from xlk (by decide +kernel)) rfl rfl ?_
    obtain ⟨q1, t⟩ := t
    have hb3 : xob 1 (t2 + 1 + 6 + (x8).toNat) := xel15 _ (xtg_9_5 _ ht2.1 ht2.2).1.1 (xtg_9_5 _ ht2.1 ht2.2).1.2 _ (by omega)
    refine xr_aald (q := t2 + 1 + 6 + (x8).toNat) (show xlook 63 117 = some (117, .aaload, 1, 0, 0, 0, 0) from xlk (by decide +kernel)) ⟨(xtg_9_5 _ ht2.1 ht2.2).1.1, (Or.inl (xtg_9_5 _ ht2.1 ht2.2).1.2)⟩ (by rw [xln15 _ (xtg_9_5 _ ht2.1 ht2.2).1.1 (Or.inl (xtg_9_5 _ ht2.1 ht2.2).1.2)]; exact q1) (xPT_el hPT (Or.inl (xtg_9_5 _ ht2.1 ht2.2).1) q1.1 q1.2) (by have := hb3.1; omega) (n := 118) rfl ?_
    refine xr_geti (show xlook 63 118 = some (118, .getfield 100, 3, 1, 0, 0, 95) from xlk (by decide +kernel)) (by decide) (xobf hb3 (by decide) (by decide)) rfl (n := 121) rfl ?_
    refine xr_iload_n (n := 122) (show xlook 63 121 = some (121, .iload_n 3, 1, 0, 0, 0, 0) from xlk (by decide +kernel)) rfl rfl ?_
    obtain ⟨q0, q1, t⟩ := t
    refine xr_icmp_lt (n := 125) (m := 128) (show xlook 63 122 = some (122, .if_icmp .lt 6, 3, 128, 0, 0, 0) from xlk (by decide +kernel)) rfl rfl q0 q1 ⟨fun c => ?_, fun c => ?_⟩
    · replace t := t.1 c
      refine xr_iload (n := 130) (show xlook 63 128 = some (128, .iload 5, 2, 0, 0, 0, 0) from xlk (by decide +kernel)) rfl rfl ?_
      obtain ⟨q0, t⟩ := t
      refine xr_if_eq (n := 133) (m := 180) (show xlook 63 130 = some (130, .ifCond .eq 50, 3, 180, 0, 0, 0) from xlk (by decide +kernel)) rfl rfl q0 ⟨fun c => ?_, fun c => ?_⟩
      · replace t := t.1 c
        exact t hPT
      · replace t := t.2 c
        refine xr_iload (n := 135) (show xlook 63 133 = some (133, .iload 8, 2, 0, 0, 0, 0) from xlk (by decide +kernel)) rfl rfl ?_
        refine xr_aload_n (n := 136) (show xlook 63 135 = some (135, .aload_n 0, 1, 0, 0, 0, 0) from xlk (by decide +kernel)) rfl rfl ?_
        refine xr_getr (q := o0 + 9) (show xlook 63 136 = some (136, .getfield 25, 3, 6, 8, 0, 77) from xlk (by decide +kernel)) (by decide) (xobf h0 (by decide) (by decide)) rfl (xPT_get hPT h0 (by decide)) (by have := (xtg_6_8 _ h0.1 h0.2).1.1; omega) (n := 139) rfl ?_
        refine xr_iload_n (n := 140) (show xlook 63 139 = some (139, .iload_n 1, 1, 0, 0, 0, 0) from xlk (by decide +kernel)) rfl rfl ?_
        obtain ⟨q1, t⟩ := t
        refine xr_iald (show xlook 63 140 = some (140, .iaload, 1, 0, 0, 0, 0) from xlk (by decide +kernel)) (xtg_6_8 _ h0.1 h0.2).1 (by rw [(xtg_6_8 _ h0.1 h0.2).2]; exact q1) (n := 141) rfl ?_
        obtain ⟨q0, q1, t⟩ := t
        refine xr_icmp_ne (n := 144) (m := 180) (show xlook 63 141 = some (141, .if_icmp .ne 39, 3, 180, 0, 0, 0) from xlk (by decide +kernel)) rfl rfl q0 q1 ⟨fun c => ?_, fun c => ?_⟩
        · replace t := t.1 c
          exact t hPT
        · replace t := t.2 c
          refine xr_aload_n (n := 145) (show xlook 63 144 = some (144, .aload_n 0, 1, 0, 0, 0, 0) from xlk (by decide +kernel)) rfl rfl ?_
          refine xr_getr (q := o0 + 9) (show xlook 63 145 = some (145, .getfield 25, 3, 6, 8, 0, 77) from xlk (by decide +kernel)) (by decide) (xobf h0 (by decide) (by decide)) rfl (xPT_get hPT h0 (by decide)) (by have := (xtg_6_8 _ h0.1 h0.2).1.1; omega) (n := 148) rfl ?_
          refine xr_iload_n (n := 149) (show xlook 63 148 = some (148, .iload_n 1, 1, 0, 0, 0, 0) from xlk (by decide +kernel)) rfl rfl ?_
          refine xr_dup2 (n := 150) (show xlook 63 149 = some (149, .dup2, 1, 0, 0, 0, 0) from xlk (by decide +kernel)) rfl ?_
          obtain ⟨q1, t⟩ := t
          refine xr_iald (show xlook 63 150 = some (150, .iaload, 1, 0, 0, 0, 0) from xlk (by decide +kernel)) (xtg_6_8 _ h0.1 h0.2).1 (by rw [(xtg_6_8 _ h0.1 h0.2).2]; exact q1) (n := 151) rfl ?_
          refine xr_iconst (n := 152) (show xlook 63 151 = some (151, .iconst 1, 1, 0, 0, 0, 0) from xlk (by decide +kernel)) rfl ?_
          refine xr_iadd (n := 153) (show xlook 63 152 = some (152, .iadd, 1, 0, 0, 0, 0) from xlk (by decide +kernel)) rfl ?_
          obtain ⟨q1, t⟩ := t
          refine xr_iast (show xlook 63 153 = some (153, .iastore, 1, 0, 0, 0, 0) from xlk (by decide +kernel)) (xtg_6_8 _ h0.1 h0.2).1 (by rw [(xtg_6_8 _ h0.1 h0.2).2]; exact q1) (n := 154) rfl ?_
          refine xr_aload_n (n := 155) (show xlook 63 154 = some (154, .aload_n 0, 1, 0, 0, 0, 0) from xlk (by decide +kernel)) rfl rfl ?_
          refine xr_getr (q := o0 + 11) (show xlook 63 155 = some (155, .getfield 31, 3, 6, 10, 0, 79) from xlk (by decide +kernel)) (by decide) (xobf h0 (by decide) (by decide)) rfl (xPT_get (xPT_arr hPT (Or.inl (xtg_6_8 _ h0.1 h0.2).1.2)) h0 (by decide)) (by have := (xtg_6_10 _ h0.1 h0.2).1.1; omega) (n := 158) rfl ?_
          refine xr_iload (n := 160) (show xlook 63 158 = some (158, .iload 8, 2, 0, 0, 0, 0) from xlk (by decide +kernel)) rfl rfl ?_
          refine xr_dup2 (n := 161) (show xlook 63 160 = some (160, .dup2, 1, 0, 0, 0, 0) from xlk (by decide +kernel)) rfl ?_
          obtain ⟨q1, t⟩ := t
          refine xr_iald (show xlook 63 161 = some (161, .iaload, 1, 0, 0, 0, 0) from xlk (by decide +kernel)) (xtg_6_10 _ h0.1 h0.2).1 (by rw [(xtg_6_10 _ h0.1 h0.2).2]; exact q1) (n := 162) rfl ?_
          refine xr_iconst (n := 163) (show xlook 63 162 = some (162, .iconst 1, 1, 0, 0, 0, 0) from xlk (by decide +kernel)) rfl ?_
          refine xr_iadd (n := 164) (show xlook 63 163 = some (163, .iadd, 1, 0, 0, 0, 0) from xlk (by decide +kernel)) rfl ?_
          obtain ⟨q1, t⟩ := t
          refine xr_iast (show xlook 63 164 = some (164, .iastore, 1, 0, 0, 0, 0) from xlk (by decide +kernel)) (xtg_6_10 _ h0.1 h0.2).1 (by rw [(xtg_6_10 _ h0.1 h0.2).2]; exact q1) (n := 165) rfl ?_
          refine xr_aload_n (n := 166) (show xlook 63 165 = some (165, .aload_n 0, 1, 0, 0, 0, 0) from xlk (by decide +kernel)) rfl rfl ?_
          refine xr_getr (q := o0 + 13) (show xlook 63 166 = some (166, .getfield 49, 3, 6, 12, 0, 82) from xlk (by decide +kernel)) (by decide) (xobf h0 (by decide) (by decide)) rfl (xPT_get (xPT_arr (xPT_arr hPT (Or.inl (xtg_6_8 _ h0.1 h0.2).1.2)) (Or.inl (xtg_6_10 _ h0.1 h0.2).1.2)) h0 (by decide)) (by have := (xtg_6_12 _ h0.1 h0.2).1; omega) (n := 169) rfl ?_
          refine xr_iconst (n := 170) (show xlook 63 169 = some (169, .iconst 0, 1, 0, 0, 0, 0) from xlk (by decide +kernel)) rfl ?_
          refine xr_aload_n (n := 171) (show xlook 63 170 = some (170, .aload_n 0, 1, 0, 0, 0, 0) from xlk (by decide +kernel)) rfl rfl ?_
          refine xr_geti (show xlook 63 171 = some (171, .getfield 58, 3, 6, 2, 0, 83) from xlk (by decide +kernel)) (by decide) (xobf h0 (by decide) (by decide)) rfl (n := 174) rfl ?_
          refine xr_iload (n := 176) (show xlook 63 174 = some (174, .iload 8, 2, 0, 0, 0, 0) from xlk (by decide +kernel)) rfl rfl ?_
          refine xr_iload_n (n := 177) (show xlook 63 176 = some (176, .iload_n 2, 1, 0, 0, 0, 0) from xlk (by decide +kernel)) rfl rfl ?_
          obtain ⟨j4, G4, hj4, hm4, hG4, t⟩ := t
          refine xr_callv (dk := j4) (o := o0 + 13) (as := [vi (0), vi ((xup (xup (F) (o0 + 9) (x1).toNat (((F) (o0 + 9) (x1).toNat) + (1))) (o0 + 11) (x8).toNat (((xup (F) (o0 + 9) (x1).toNat (((F) (o0 + 9) (x1).toNat) + (1))) (o0 + 11) (x8).toNat) + (1))) (o0) 2), vi (x8), vi (x2)]) (show xlook 63 177 = some (177, .invokevirtual 206, 3, 17, 5, 0, 74) from xlk (by decide +kernel)) (by decide) hj4 ⟨Nat.le_of_ble_eq_true rfl, Nat.le_of_ble_eq_true rfl, Nat.le_of_ble_eq_true rfl⟩ ⟨(xtg_6_12 _ h0.1 h0.2).1, (xtg_6_12 _ h0.1 h0.2).2, by decide⟩ rfl hm4 (n := 180) rfl ?_
          show xE X d 63 180 [.ref (o0), vi (x1), vi (x2), vi (x3), vi (x4), vi (x5), vi (x6), vi (x7), vi (x8)] [] G4 r F'
          exact t hG4
    · replace t := t.2 c
      refine xr_goto (m := 256) (show xlook 63 125 = some (125, .goto 131, 3, 256, 0, 0, 0) from xlk (by decide +kernel)) rfl ?_
      exact t hPT

theorem s63_180 {X : List Int32} {d : Nat} {F F' : XF} {r : Option Value} {o0 : Nat} {x1 : Int} {x2 : Int} {x3 : Int} {x4 : Int} {x5 : Int} {x6 : Int} {x7 : Int} {x8 : Int} (hPT : xPT F) (h0 : xob 6 o0) (t : inR (x6) ∧ ((((x6) = (0)) → (xPT (F) → xE X d 63 96 [.ref (o0), vi (x1), vi (x2), vi (x3), vi (x4), vi (x5), vi (x6), vi (x7), vi (x8 + 1)] [] (F) r F')) ∧ (¬ ((x6) = (0)) → ((0 ≤ (x1) ∧ (x1) < 30) ∧ (inR (x8) ∧ inR ((F) (o0 + 10) (x1).toNat) ∧ (((¬ (x8) = ((F) (o0 + 10) (x1).toNat)) → (xPT (F) → xE X d 63 96 [.ref (o0), vi (x1), vi (x2), vi (x3), vi (x4), vi (x5), vi (x6), vi (x7), vi (x8 + 1)] [] (F) r F')) ∧ (¬ (¬ (x8) = ((F) (o0 + 10) (x1).toNat)) → (∃ t1 : Nat, (F) (o0) 0 = (t1 : Int) ∧ xob 9 t1 ∧ ((0 ≤ (x8) ∧ (x8) < 10) ∧ (inR ((F) (t1 + 1 + 6 + (x8).toNat) 1) ∧ inR (x4) ∧ ((((x4) < ((F) (t1 + 1 + 6 + (x8).toNat) 1)) → (xPT (F) → xE X d 63 96 [.ref (o0), vi (x1), vi (x2), vi (x3), vi (x4), vi (x5), vi (x6), vi (x7), vi (x8 + 1)] [] (F) r F')) ∧ (¬ ((x4) < ((F) (t1 + 1 + 6 + (x8).toNat) 1)) → ((0 ≤ (x1) ∧ (x1) < 30) ∧ ((0 ≤ (x1) ∧ (x1) < 30) ∧ ((0 ≤ (x8) ∧ (x8) < 10) ∧ ((0 ≤ (x8) ∧ (x8) < 10) ∧ (∃ (j3 : Nat) (G3 : XF), j3 < d ∧ xM X j3 17 [.ref (o0 + 13), vi (1), vi ((xup (xup (F) (o0 + 10) (x1).toNat (((F) (o0 + 10) (x1).toNat) + (1))) (o0 + 11) (x8).toNat (((xup (F) (o0 + 10) (x1).toNat (((F) (o0 + 10) (x1).toNat) + (1))) (o0 + 11) (x8).toNat) - (1))) (o0) 2), vi (x8), vi (x2)] (xup (xup (F) (o0 + 10) (x1).toNat (((F) (o0 + 10) (x1).toNat) + (1))) (o0 + 11) (x8).toNat (((xup (F) (o0 + 10) (x1).toNat (((F) (o0 + 10) (x1).toNat) + (1))) (o0 + 11) (x8).toNat) - (1))) none G3 ∧ xPT G3 ∧ (xPT (G3) → xE X d 63 96 [.ref (o0), vi (x1), vi (x2), vi (x3), vi (x4), vi (x5), vi (x6), vi (x7), vi (x8 + 1)] [] (G3) r F')))))))))))))))))) : xE X d 63 180 [.ref (o0), vi (x1), vi (x2), vi (x3), vi (x4), vi (x5), vi (x6), vi (x7), vi (x8)] [] F r F' := by
  refine xr_iload (n := 182) (show xlook 63 180 = some (180, .iload 6, 2, 0, 0, 0, 0) from xlk (by decide +kernel)) rfl rfl ?_
  obtain ⟨q0, t⟩ := t
  refine xr_if_eq (n := 185) (m := 250) (show xlook 63 182 = some (182, .ifCond .eq 68, 3, 250, 0, 0, 0) from xlk (by decide +kernel)) rfl rfl q0 ⟨fun c => ?_, fun c => ?_⟩
  · replace t := t.1 c
    refine xr_iinc (n := 253) (show xlook 63 250 = some (250, .iinc 8 1, 3, 0, 0, 0, 0) from xlk (by decide +kernel)) rfl (ls' := [.ref (o0), vi (x1), vi (x2), vi (x3), vi (x4), vi (x5), vi (x6), vi (x7), vi (x8 + 1)]) rfl rfl ?_
    refine xr_goto (m := 96) (show xlook 63 253 = some (253, .goto (-157), 3, 96, 0, 0, 0) from xlk (by decide +kernel)) rfl ?_
    exact t hPT
  · replace t := t.2 c
    refine xr_iload (n := 187) (show xlook 63 185 = some (185, .iload 8, 2, 0, 0, 0, 0) from xlk (by decide +kernel)) rfl rfl ?_
    refine xr_aload_n (n := 188) (show xlook 63 187 = some (187, .aload_n 0, 1, 0, 0, 0, 0) from xlk (by decide +kernel)) rfl rfl ?_
    refine xr_getr (q := o0 + 10) (show xlook 63 188 = some (188, .getfield 28, 3, 6, 9, 0, 78) from xlk (by decide +kernel)) (by decide) (xobf h0 (by decide) (by decide)) rfl (xPT_get hPT h0 (by decide)) (by have := (xtg_6_9 _ h0.1 h0.2).1.1; omega) (n := 191) rfl ?_
    refine xr_iload_n (n := 192) (show xlook 63 191 = some (191, .iload_n 1, 1, 0, 0, 0, 0) from xlk (by decide +kernel)) rfl rfl ?_
    obtain ⟨q1, t⟩ := t
    refine xr_iald (show xlook 63 192 = some (192, .iaload, 1, 0, 0, 0, 0) from xlk (by decide +kernel)) (xtg_6_9 _ h0.1 h0.2).1 (by rw [(xtg_6_9 _ h0.1 h0.2).2]; exact q1) (n := 193) rfl ?_
    obtain ⟨q0, q1, t⟩ := t
    refine xr_icmp_ne (n := 196) (m := 250) (show xlook 63 193 = some (193, .if_icmp .ne 57, 3, 250, 0, 0, 0) from xlk (by decide +kernel)) rfl rfl q0 q1 ⟨fun c => ?_, fun c => ?_⟩
    · replace t := t.1 c
      refine xr_iinc (n := 253) (show xlook 63 250 = some (250, .iinc 8 1, 3, 0, 0, 0, 0) from xlk (by decide +kernel)) rfl (ls' := [.ref (o0), vi (x1), vi (x2), vi (x3), vi (x4), vi (x5), vi (x6), vi (x7), vi (x8 + 1)]) rfl rfl ?_
      refine xr_goto (m := 96) (show xlook 63 253 = some (253, .goto (-157), 3, 96, 0, 0, 0) from xlk (by decide +kernel)) rfl ?_
      exact t hPT
    · replace t := t.2 c
      refine xr_aload_n (n := 197) (show xlook 63 196 = some (196, .aload_n 0, 1, 0, 0, 0, 0) from xlk (by decide +kernel)) rfl rfl ?_
      obtain ⟨t1, q1, ht1, t⟩ := t
      refine xr_getr (q := t1) (show xlook 63 197 = some (197, .getfield 40, 3, 6, 0, 0, 81) from xlk (by decide +kernel)) (by decide) (xobf h0 (by decide) (by decide)) rfl q1 (by have := ht1.1; omega) (n := 200) rfl ?_
      refine xr_getr (q := t1 + 1) (show xlook 63 200 = some (200, .getfield 92, 3, 9, 5, 0, 92) from xlk (by decide +kernel)) (by decide) (xobf ht1 (by decide) (by decide)) rfl (xPT_get hPT ht1 (by decide)) (by have := (xtg_9_5 _ ht1.1 ht1.2).1.1; omega) (n := 203) rfl ?_
      refine xr_iload (n := 205) (show xlook 63 203 = some (203, .iload 8, 2, 0, 0, 0, 0) from xlk (by decide +kernel)) rfl rfl ?_
      obtain ⟨q1, t⟩ := t
      have hb2 : xob 1 (t1 + 1 + 6 + (x8).toNat) := xel15 _ (xtg_9_5 _ ht1.1 ht1.2).1.1 (xtg_9_5 _ ht1.1 ht1.2).1.2 _ (by omega)
      refine xr_aald (q := t1 + 1 + 6 + (x8).toNat) (show xlook 63 205 = some (205, .aaload, 1, 0, 0, 0, 0) from xlk (by decide +kernel)) ⟨(xtg_9_5 _ ht1.1 ht1.2).1.1, (Or.inl (xtg_9_5 _ ht1.1 ht1.2).1.2)⟩ (by rw [xln15 _ (xtg_9_5 _ ht1.1 ht1.2).1.1 (Or.inl (xtg_9_5 _ ht1.1 ht1.2).1.2)]; exact q1) (xPT_el hPT (Or.inl (xtg_9_5 _ ht1.1 ht1.2).1) q1.1 q1.2) (by have := hb2.1; omega) (n := 206) rfl ?_
      refine xr_geti (show xlook 63 206 = some (206, .getfield 112, 3, 1, 1, 0, 97) from xlk (by decide +kernel)) (by decide) (xobf hb2 (by decide) (by decide)) rfl (n := 209) rfl ?_
      refine xr_iload (n := 211) (show xlook 63 209 = some (209, .iload 4, 2, 0, 0, 0, 0) from xlk (by decide +kernel)) rfl rfl ?_
      obtain ⟨q0, q1, t⟩ := t
      refine xr_icmp_gt (n := 214) (m := 250) (show xlook 63 211 = some (211, .if_icmp .gt 39, 3, 250, 0, 0, 0) from xlk (by decide +kernel)) rfl rfl q0 q1 ⟨fun c => ?_, fun c => ?_⟩
      · replace t := t.1 c
        refine xr_iinc (n := 253) (show xlook 63 250 = some (250, .iinc 8 1, 3, 0, 0, 0, 0) from xlk (by decide +kernel)) rfl (ls' := [.ref (o0), vi (x1), vi (x2), vi (x3), vi (x4), vi (x5), vi (x6), vi (x7), vi (x8 + 1)]) rfl rfl ?_
        refine xr_goto (m := 96) (show xlook 63 253 = some (253, .goto (-157), 3, 96, 0, 0, 0) from xlk (by decide +kernel)) rfl ?_
        exact t hPT
      · replace t := t.2 c
        refine xr_aload_n (n := 215) (show xlook 63 214 = some (214, .aload_n 0, 1, 0, 0, 0, 0) from xlk (by decide +kernel)) rfl rfl ?_
        refine xr_getr (q := o0 + 10) (show xlook 63 215 = some (215, .getfield 28, 3, 6, 9, 0, 78) from xlk (by decide +kernel)) (by decide) (xobf h0 (by decide) (by decide)) rfl (xPT_get hPT h0 (by decide)) (by have := (xtg_6_9 _ h0.1 h0.2).1.1; omega) (n := 218) rfl ?_
        refine xr_iload_n (n := 219) (show xlook 63 218 = some (218, .iload_n 1, 1, 0, 0, 0, 0) from xlk (by decide +kernel)) rfl rfl ?_
        refine xr_dup2 (n := 220) (show xlook 63 219 = some (219, .dup2, 1, 0, 0, 0, 0) from xlk (by decide +kernel)) rfl ?_
        obtain ⟨q1, t⟩ := t
        refine xr_iald (show xlook 63 220 = some (220, .iaload, 1, 0, 0, 0, 0) from xlk (by decide +kernel)) (xtg_6_9 _ h0.1 h0.2).1 (by rw [(xtg_6_9 _ h0.1 h0.2).2]; exact q1) (n := 221) rfl ?_
        refine xr_iconst (n := 222) (show xlook 63 221 = some (221, .iconst 1, 1, 0, 0, 0, 0) from xlk (by decide +kernel)) rfl ?_
        refine xr_iadd (n := 223) (show xlook 63 222 = some (222, .iadd, 1, 0, 0, 0, 0) from xlk (by decide +kernel)) rfl ?_
        obtain ⟨q1, t⟩ := t
        refine xr_iast (show xlook 63 223 = some (223, .iastore, 1, 0, 0, 0, 0) from xlk (by decide +kernel)) (xtg_6_9 _ h0.1 h0.2).1 (by rw [(xtg_6_9 _ h0.1 h0.2).2]; exact q1) (n := 224) rfl ?_
        refine xr_aload_n (n := 225) (show xlook 63 224 = some (224, .aload_n 0, 1, 0, 0, 0, 0) from xlk (by decide +kernel)) rfl rfl ?_
        refine xr_getr (q := o0 + 11) (show xlook 63 225 = some (225, .getfield 31, 3, 6, 10, 0, 79) from xlk (by decide +kernel)) (by decide) (xobf h0 (by decide) (by decide)) rfl (xPT_get (xPT_arr hPT (Or.inl (xtg_6_9 _ h0.1 h0.2).1.2)) h0 (by decide)) (by have := (xtg_6_10 _ h0.1 h0.2).1.1; omega) (n := 228) rfl ?_
        refine xr_iload (n := 230) (show xlook 63 228 = some (228, .iload 8, 2, 0, 0, 0, 0) from xlk (by decide +kernel)) rfl rfl ?_
        refine xr_dup2 (n := 231) (show xlook 63 230 = some (230, .dup2, 1, 0, 0, 0, 0) from xlk (by decide +kernel)) rfl ?_
        obtain ⟨q1, t⟩ := t
        refine xr_iald (show xlook 63 231 = some (231, .iaload, 1, 0, 0, 0, 0) from xlk (by decide +kernel)) (xtg_6_10 _ h0.1 h0.2).1 (by rw [(xtg_6_10 _ h0.1 h0.2).2]; exact q1) (n := 232) rfl ?_
        refine xr_iconst (n := 233) (show xlook 63 232 = some (232, .iconst 1, 1, 0, 0, 0, 0) from xlk (by decide +kernel)) rfl ?_
        refine xr_isub (n := 234) (show xlook 63 233 = some (233, .isub, 1, 0, 0, 0, 0) from xlk (by decide +kernel)) rfl ?_
        obtain ⟨q1, t⟩ := t
        refine xr_iast (show xlook 63 234 = some (234, .iastore, 1, 0, 0, 0, 0) from xlk (by decide +kernel)) (xtg_6_10 _ h0.1 h0.2).1 (by rw [(xtg_6_10 _ h0.1 h0.2).2]; exact q1) (n := 235) rfl ?_
        refine xr_aload_n (n := 236) (show xlook 63 235 = some (235, .aload_n 0, 1, 0, 0, 0, 0) from xlk (by decide +kernel)) rfl rfl ?_
        refine xr_getr (q := o0 + 13) (show xlook 63 236 = some (236, .getfield 49, 3, 6, 12, 0, 82) from xlk (by decide +kernel)) (by decide) (xobf h0 (by decide) (by decide)) rfl (xPT_get (xPT_arr (xPT_arr hPT (Or.inl (xtg_6_9 _ h0.1 h0.2).1.2)) (Or.inl (xtg_6_10 _ h0.1 h0.2).1.2)) h0 (by decide)) (by have := (xtg_6_12 _ h0.1 h0.2).1; omega) (n := 239) rfl ?_
        refine xr_iconst (n := 240) (show xlook 63 239 = some (239, .iconst 1, 1, 0, 0, 0, 0) from xlk (by decide +kernel)) rfl ?_
        refine xr_aload_n (n := 241) (show xlook 63 240 = some (240, .aload_n 0, 1, 0, 0, 0, 0) from xlk (by decide +kernel)) rfl rfl ?_
        refine xr_geti (show xlook 63 241 = some (241, .getfield 58, 3, 6, 2, 0, 83) from xlk (by decide +kernel)) (by decide) (xobf h0 (by decide) (by decide)) rfl (n := 244) rfl ?_
        refine xr_iload (n := 246) (show xlook 63 244 = some (244, .iload 8, 2, 0, 0, 0, 0) from xlk (by decide +kernel)) rfl rfl ?_
        refine xr_iload_n (n := 247) (show xlook 63 246 = some (246, .iload_n 2, 1, 0, 0, 0, 0) from xlk (by decide +kernel)) rfl rfl ?_
        obtain ⟨j3, G3, hj3, hm3, hG3, t⟩ := t
        refine xr_callv (dk := j3) (o := o0 + 13) (as := [vi (1), vi ((xup (xup (F) (o0 + 10) (x1).toNat (((F) (o0 + 10) (x1).toNat) + (1))) (o0 + 11) (x8).toNat (((xup (F) (o0 + 10) (x1).toNat (((F) (o0 + 10) (x1).toNat) + (1))) (o0 + 11) (x8).toNat) - (1))) (o0) 2), vi (x8), vi (x2)]) (show xlook 63 247 = some (247, .invokevirtual 206, 3, 17, 5, 0, 74) from xlk (by decide +kernel)) (by decide) hj3 ⟨Nat.le_of_ble_eq_true rfl, Nat.le_of_ble_eq_true rfl, Nat.le_of_ble_eq_true rfl⟩ ⟨(xtg_6_12 _ h0.1 h0.2).1, (xtg_6_12 _ h0.1 h0.2).2, by decide⟩ rfl hm3 (n := 250) rfl ?_
        show xE X d 63 250 [.ref (o0), vi (x1), vi (x2), vi (x3), vi (x4), vi (x5), vi (x6), vi (x7), vi (x8)] [] G3 r F'
        refine xr_iinc (n := 253) (show xlook 63 250 = some (250, .iinc 8 1, 3, 0, 0, 0, 0) from xlk (by decide +kernel)) rfl (ls' := [.ref (o0), vi (x1), vi (x2), vi (x3), vi (x4), vi (x5), vi (x6), vi (x7), vi (x8 + 1)]) rfl rfl ?_
        refine xr_goto (m := 96) (show xlook 63 253 = some (253, .goto (-157), 3, 96, 0, 0, 0) from xlk (by decide +kernel)) rfl ?_
        exact t hG3

theorem s63_256 {X : List Int32} {d : Nat} {F F' : XF} {r : Option Value} {o0 : Nat} {x1 : Int} {x2 : Int} {x3 : Int} {x4 : Int} {x5 : Int} {x6 : Int} {w7 : Value} {w8 : Value} (hPT : xPT F) (h0 : xob 6 o0) (t : ∃ t1 : Nat, (F) (o0) 0 = (t1 : Int) ∧ xob 9 t1 ∧ (inR (x4) ∧ inR ((F) (t1) 0) ∧ ((((x4) < ((F) (t1) 0)) → (xPT (F) → r = none ∧ F' = (F))) ∧ (¬ ((x4) < ((F) (t1) 0)) → (∃ (j2 : Nat) (G2 : XF), j2 < d ∧ xM X j2 17 [.ref (o0 + 13), vi (2), vi ((xup (F) (o0) 3 ((x1) + (1))) (o0) 2), vi ((-1)), vi (x1)] (xup (F) (o0) 3 ((x1) + (1))) none G2 ∧ xPT G2 ∧ (xPT (G2) → r = none ∧ F' = (G2))))))) : xE X d 63 256 [.ref (o0), vi (x1), vi (x2), vi (x3), vi (x4), vi (x5), vi (x6), w7, w8] [] F r F' := by
  refine xr_iload (n := 258) (show xlook 63 256 = some (256, .iload 4, 2, 0, 0, 0, 0) from xlk (by decide +kernel)) rfl rfl ?_
  refine xr_aload_n (n := 259) (show xlook 63 258 = some (258, .aload_n 0, 1, 0, 0, 0, 0) from xlk (by decide +kernel)) rfl rfl ?_
  obtain ⟨t1, q1, ht1, t⟩ := t
  refine xr_getr (q := t1) (show xlook 63 259 = some (259, .getfield 40, 3, 6, 0, 0, 81) from xlk (by decide +kernel)) (by decide) (xobf h0 (by decide) (by decide)) rfl q1 (by have := ht1.1; omega) (n := 262) rfl ?_
  refine xr_geti (show xlook 63 262 = some (262, .getfield 173, 3, 9, 0, 0, 104) from xlk (by decide +kernel)) (by decide) (xobf ht1 (by decide) (by decide)) rfl (n := 265) rfl ?_
  obtain ⟨q0, q1, t⟩ := t
  refine xr_icmp_lt (n := 268) (m := 289) (show xlook 63 265 = some (265, .if_icmp .lt 24, 3, 289, 0, 0, 0) from xlk (by decide +kernel)) rfl rfl q0 q1 ⟨fun c => ?_, fun c => ?_⟩
  · replace t := t.1 c
    obtain ⟨e1, e2⟩ := t hPT
    subst e1
    subst e2
    exact xr_return (show xlook 63 289 = some (289, .return_, 1, 0, 0, 0, 0) from xlk (by decide +kernel)) rfl
  · replace t := t.2 c
    refine xr_aload_n (n := 269) (show xlook 63 268 = some (268, .aload_n 0, 1, 0, 0, 0, 0) from xlk (by decide +kernel)) rfl rfl ?_
    refine xr_iload_n (n := 270) (show xlook 63 269 = some (269, .iload_n 1, 1, 0, 0, 0, 0) from xlk (by decide +kernel)) rfl rfl ?_
    refine xr_iconst (n := 271) (show xlook 63 270 = some (270, .iconst 1, 1, 0, 0, 0, 0) from xlk (by decide +kernel)) rfl ?_
    refine xr_iadd (n := 272) (show xlook 63 271 = some (271, .iadd, 1, 0, 0, 0, 0) from xlk (by decide +kernel)) rfl ?_
    refine xr_puti (show xlook 63 272 = some (272, .putfield 62, 3, 6, 3, 0, 84) from xlk (by decide +kernel)) (xobf h0 (by decide) (by decide)) rfl (n := 275) rfl ?_
    refine xr_aload_n (n := 276) (show xlook 63 275 = some (275, .aload_n 0, 1, 0, 0, 0, 0) from xlk (by decide +kernel)) rfl rfl ?_
    refine xr_getr (q := o0 + 13) (show xlook 63 276 = some (276, .getfield 49, 3, 6, 12, 0, 82) from xlk (by decide +kernel)) (by decide) (xobf h0 (by decide) (by decide)) rfl (xPT_get (xPT_fld hPT h0 (by decide) (by decide)) h0 (by decide)) (by have := (xtg_6_12 _ h0.1 h0.2).1; omega) (n := 279) rfl ?_
    refine xr_iconst (n := 280) (show xlook 63 279 = some (279, .iconst 2, 1, 0, 0, 0, 0) from xlk (by decide +kernel)) rfl ?_
    refine xr_aload_n (n := 281) (show xlook 63 280 = some (280, .aload_n 0, 1, 0, 0, 0, 0) from xlk (by decide +kernel)) rfl rfl ?_
    refine xr_geti (show xlook 63 281 = some (281, .getfield 58, 3, 6, 2, 0, 83) from xlk (by decide +kernel)) (by decide) (xobf h0 (by decide) (by decide)) rfl (n := 284) rfl ?_
    refine xr_iconst (n := 285) (show xlook 63 284 = some (284, .iconst (-1), 1, 0, 0, 0, 0) from xlk (by decide +kernel)) rfl ?_
    refine xr_iload_n (n := 286) (show xlook 63 285 = some (285, .iload_n 1, 1, 0, 0, 0, 0) from xlk (by decide +kernel)) rfl rfl ?_
    obtain ⟨j2, G2, hj2, hm2, hG2, t⟩ := t
    refine xr_callv (dk := j2) (o := o0 + 13) (as := [vi (2), vi ((xup (F) (o0) 3 ((x1) + (1))) (o0) 2), vi ((-1)), vi (x1)]) (show xlook 63 286 = some (286, .invokevirtual 206, 3, 17, 5, 0, 74) from xlk (by decide +kernel)) (by decide) hj2 ⟨Nat.le_of_ble_eq_true rfl, Nat.le_of_ble_eq_true rfl, Nat.le_of_ble_eq_true rfl⟩ ⟨(xtg_6_12 _ h0.1 h0.2).1, (xtg_6_12 _ h0.1 h0.2).2, by decide⟩ rfl hm2 (n := 289) rfl ?_
    show xE X d 63 289 [.ref (o0), vi (x1), vi (x2), vi (x3), vi (x4), vi (x5), vi (x6), w7, w8] [] G2 r F'
    obtain ⟨e1, e2⟩ := t hG2
    subst e1
    subst e2
    exact xr_return (show xlook 63 289 = some (289, .return_, 1, 0, 0, 0, 0) from xlk (by decide +kernel)) rfl
