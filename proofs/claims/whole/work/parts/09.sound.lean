theorem xstr_ev {o : Nat} (h : xSB ≤ o ∧ o < xSB + 38 ∧ o % 2 = 0) : ∃ j, j < 19 ∧ o = xSB + 2 * j := by
  unfold xSB at *
  exact ⟨(o - 1000000) / 2, by omega, by omega⟩
theorem xstr_od {o : Nat} (h1 : xSB ≤ o) (h2 : o < xSB + 38) (h3 : o % 2 = 1) : ∃ j, j < 19 ∧ o = xSB + 2 * j + 1 ∧ (o - xSB) / 2 = j := by
  unfold xSB at *
  exact ⟨(o - 1000000) / 2, by omega, by omega, rfl⟩
section XS
variable {X : List Int32} {p : Program} {l : Launch} {e : Env} {R : Room} {s : State} {m : MethodId} {args : Array Value} {below : List Frame} {meth : Method} {c : Code} {H : Heap} {locs : List Loc} {cells slots : Nat} {Q : State → Prop} {D : va_G} {tc : XTc} {ad : Nat → Nat} {fv : Value} {base : Nat} {A : Nat → Prop} {d z n0 : Nat}
theorem xq_new {h : XHp} {q : Nat} {el : va_E} {H1 : Heap} (hC : xC X p R s m args meth c D tc ad fv base A d z n0) (hcl : cells + n0 = h.length) (hP : va_P D vwCl (xwd tc ad h ++ [(q, el)]) H1) (hD : va_D A (xwd tc ad h ++ [(q, el)])) (hz : H1.size ≤ s.heap.size + (cells + 1)) (hb : h.length < 900000) : q = ad h.length := by
  obtain ⟨hx, hb', hml, hown, hts, hfr, hlo, hK, hA, hSTR, hnm, hsz, had, hAb⟩ := hC
  have hg : (xwd tc ad h ++ [(q, el)])[h.length]? = some (q, el) := by
    rw [List.getElem?_append_right (by rw [xwd_len]; exact Nat.le_refl _), xwd_len]
    simp
  have h1 : q < H1.size := (hP _ _ hg).lt
  have h2 : base ≤ q := hAb q (hD.2 _ _ hg)
  have h3 : ¬ q < base + h.length := by
    intro hlt
    have hk : q - base < h.length := by omega
    have hg2 : (xwd tc ad h ++ [(q, el)])[q - base]? = some (ad (q - base), xel tc ad (xkd h (q - base), xda h (q - base))) := by
      rw [List.getElem?_append_left (by rw [xwd_len]; exact hk)]
      exact xwd_at hk
    have := hD.1 _ _ _ _ hg2 hg (by show ad (q - base) = q; rw [had _ (by unfold xSB; omega)]; omega)
    omega
  rw [had _ (by unfold xSB; omega)]
  omega
set_option maxHeartbeats 4000000 in
theorem xsnd_step {k : XRow} {pc pc' : Nat} {ls ls' st st' : List Value} {h h' : XHp} {sl : Array Slot} (hC : xC X p R s m args meth c D tc ad fv base A d z n0) (hk : xlook z pc = some k) (hs : xstep X k ls st h = some (pc', ls', st', h')) (hI : xI s D tc ad fv A h ls sl H locs) (hLen : ls.length = xmx z) (hcl : cells + n0 = h.length) (hcap : cells + h'.length ≤ R.cells + h.length ∧ slots + xsz h' ≤ R.slots + xsz h)
    (kk : ∀ (H' : Heap) (locs' : List Loc) (sl' : Array Slot) (cells' slots' : Nat), cells' + h.length = cells + h'.length → slots' + xsz h = slots + xsz h' → xI s D tc ad fv A h' ls' sl' H' locs' → W p l e R s m args below meth c H' locs' cells' slots' Q (F0 m pc' sl' (st'.map (xmv ad fv)))) :
    W p l e R s m args below meth c H locs cells slots Q (F0 m pc sl (st.map (xmv ad fv))) := by
  obtain ⟨hx, hb, hml, hown, hts, hfr, hlo, hK, hA, hSTR, hnm, hsz, had, hAb⟩ := id hC
  obtain ⟨hP, hD, hS, hL⟩ := id hI
  have hf := hSTR.2.2.2.2.1
  obtain ⟨hpc, hz, hdg, hlen, hw⟩ := xlook_ok hk
  obtain ⟨pc0, ins, len, a, b, v, w⟩ := k
  dsimp only at hpc hdg hlen
  subst hpc
  cases ins
  case iconst n => 
    simp only [xstep, Option.some.injEq, Prod.mk.injEq] at hs
    obtain ⟨rfl, rfl, rfl, rfl⟩ := hs
    simp only [xlen, beq_iff_eq] at hlen
    subst hlen
    exact lv_iconst hx hb hdg rfl (kk H locs sl cells slots rfl rfl hI)
  case bipush n => 
    simp only [xstep, Option.some.injEq, Prod.mk.injEq] at hs
    obtain ⟨rfl, rfl, rfl, rfl⟩ := hs
    simp only [xlen, beq_iff_eq] at hlen
    subst hlen
    exact lv_bipush hx hb hdg rfl (kk H locs sl cells slots rfl rfl hI)
  case sipush n => 
    simp only [xstep, Option.some.injEq, Prod.mk.injEq] at hs
    obtain ⟨rfl, rfl, rfl, rfl⟩ := hs
    simp only [xlen, beq_iff_eq] at hlen
    subst hlen
    exact lv_sipush hx hb hdg rfl (kk H locs sl cells slots rfl rfl hI)
  case lconst n => 
    simp only [xstep, Option.some.injEq, Prod.mk.injEq] at hs
    obtain ⟨rfl, rfl, rfl, rfl⟩ := hs
    simp only [xlen, beq_iff_eq] at hlen
    subst hlen
    exact lv_lconst hx hb hdg rfl (kk H locs sl cells slots rfl rfl hI)
  case ldc i => 
    simp only [xlen, beq_iff_eq] at hlen
    subst hlen
    simp only [xokW] at hw
    simp only [xstep] at hs
    by_cases hb0 : b = 0
    · rw [if_pos hb0] at hs hw
      simp only [Option.some.injEq, Prod.mk.injEq] at hs
      obtain ⟨rfl, rfl, rfl, rfl⟩ := hs
      have hlk := xLK_ok _ (List.mem_of_getElem? (of_decide_eq_true hw))
      simp only [xwK, xoc_ok hz] at hlk
      exact lv_ldc hx hb hown (hts _ (xg hlk rfl)) hdg (kk H locs sl cells slots rfl rfl hI)
    · rw [if_neg hb0] at hs hw
      by_cases hb1 : b = 1 ∧ a < 19
      · rw [if_pos hb1] at hs
        rw [if_pos hb1.1] at hw
        simp only [Option.some.injEq, Prod.mk.injEq] at hs
        obtain ⟨rfl, rfl, rfl, rfl⟩ := hs
        obtain ⟨tx, hg⟩ := xstr_at (of_decide_eq_true hw)
        rw [xoc_ok hz] at hg
        have hR := hSTR.2.1 a _ hg
        exact va_ldcS hx hb hown hR hdg (kk H locs sl cells slots rfl rfl hI)
      · rw [if_neg hb1] at hs
        cases hs
  case ldc_w i => 
    simp only [xlen, beq_iff_eq] at hlen
    subst hlen
    simp only [xokW] at hw
    simp only [xstep] at hs
    by_cases hb0 : b = 0
    · rw [if_pos hb0] at hs
      simp only [Option.some.injEq, Prod.mk.injEq] at hs
      obtain ⟨rfl, rfl, rfl, rfl⟩ := hs
      have hlk := xLK_ok _ (List.mem_of_getElem? (of_decide_eq_true hw))
      simp only [xwK, xoc_ok hz] at hlk
      exact lv_ldcw hx hb hown (hts _ (xg hlk rfl)) hdg (kk H locs sl cells slots rfl rfl hI)
    · rw [if_neg hb0] at hs
      cases hs
  case ldc2_w i => 
    simp only [xlen, beq_iff_eq] at hlen
    subst hlen
    simp only [xokW] at hw
    simp only [xstep, Option.some.injEq, Prod.mk.injEq] at hs
    obtain ⟨rfl, rfl, rfl, rfl⟩ := hs
    have hlk := xLL_ok _ (List.mem_of_getElem? (of_decide_eq_true hw))
    simp only [xwL, xoc_ok hz] at hlk
    exact lv_ldc2 hx hb hown (hts _ (xg hlk rfl)) hdg (kk H locs sl cells slots rfl rfl hI)
  case iload i => 
    simp only [xlen, beq_iff_eq] at hlen
    subst hlen
    obtain ⟨x, h1, h2⟩ := xload_0 (show xload i _ ls st h 0 = _ from hs)
    simp only [Prod.mk.injEq] at h2
    obtain ⟨rfl, rfl, rfl, rfl⟩ := h2
    exact lv_iload hx hb hdg (hL.2.2 i _ h1 (by simp [xU0])) (kk H locs sl cells slots rfl rfl hI)
  case iload_n i => 
    simp only [xlen, beq_iff_eq] at hlen
    subst hlen
    obtain ⟨x, h1, h2⟩ := xload_0 (show xload i _ ls st h 0 = _ from hs)
    simp only [Prod.mk.injEq] at h2
    obtain ⟨rfl, rfl, rfl, rfl⟩ := h2
    exact lv_iload_n hx hb hdg rfl (hL.2.2 i _ h1 (by simp [xU0])) (kk H locs sl cells slots rfl rfl hI)
  case lload i => 
    simp only [xlen, beq_iff_eq] at hlen
    subst hlen
    obtain ⟨x, h1, h2⟩ := xload_1 (show xload i _ ls st h 1 = _ from hs)
    simp only [Prod.mk.injEq] at h2
    obtain ⟨rfl, rfl, rfl, rfl⟩ := h2
    exact lv_lload hx hb hdg (hL.2.2 i _ h1 (by simp [xU0])) (kk H locs sl cells slots rfl rfl hI)
  case lload_n i => 
    simp only [xlen, beq_iff_eq] at hlen
    subst hlen
    obtain ⟨x, h1, h2⟩ := xload_1 (show xload i _ ls st h 1 = _ from hs)
    simp only [Prod.mk.injEq] at h2
    obtain ⟨rfl, rfl, rfl, rfl⟩ := h2
    exact lv_lload_n hx hb hdg rfl (hL.2.2 i _ h1 (by simp [xU0])) (kk H locs sl cells slots rfl rfl hI)
  case aload i => 
    simp only [xlen, beq_iff_eq] at hlen
    subst hlen
    obtain ⟨x, h1, h2⟩ := xload_2 (show xload i _ ls st h 2 = _ from hs)
    simp only [Prod.mk.injEq] at h2
    obtain ⟨rfl, rfl, rfl, rfl⟩ := h2
    exact lv_aload hx hb hdg (hL.2.2 i _ h1 (by simp [xU0])) (kk H locs sl cells slots rfl rfl hI)
  case aload_n i => 
    simp only [xlen, beq_iff_eq] at hlen
    subst hlen
    obtain ⟨x, h1, h2⟩ := xload_2 (show xload i _ ls st h 2 = _ from hs)
    simp only [Prod.mk.injEq] at h2
    obtain ⟨rfl, rfl, rfl, rfl⟩ := h2
    exact lv_aload_n hx hb hdg rfl (hL.2.2 i _ h1 (by simp [xU0])) (kk H locs sl cells slots rfl rfl hI)
  case istore i => 
    simp only [xlen, beq_iff_eq] at hlen
    subst hlen
    obtain ⟨x, t, rfl, h1, h2⟩ := xstore_0 (show xstore i _ ls st h 0 = _ from hs)
    simp only [Prod.mk.injEq] at h2
    obtain ⟨rfl, rfl, rfl, rfl⟩ := h2
    exact lv_istore hx hb hdg hL.has h1 rfl (fun sl' hl' => kk H locs sl' cells slots rfl rfl ⟨hP, hD, hS, xL_st1 hf hl'⟩)
  case istore_n i => 
    simp only [xlen, beq_iff_eq] at hlen
    subst hlen
    obtain ⟨x, t, rfl, h1, h2⟩ := xstore_0 (show xstore i _ ls st h 0 = _ from hs)
    simp only [Prod.mk.injEq] at h2
    obtain ⟨rfl, rfl, rfl, rfl⟩ := h2
    exact lv_istore_n hx hb hdg rfl hL.has h1 rfl (fun sl' hl' => kk H locs sl' cells slots rfl rfl ⟨hP, hD, hS, xL_st1 hf hl'⟩)
  case lstore i => 
    simp only [xlen, beq_iff_eq] at hlen
    subst hlen
    obtain ⟨x, t, rfl, h1, h2⟩ := xstore_1 (show xstore i _ ls st h 1 = _ from hs)
    simp only [Prod.mk.injEq] at h2
    obtain ⟨rfl, rfl, rfl, rfl⟩ := h2
    exact lv_lstore hx hb hdg hL.has h1 rfl (fun sl' hl' => kk H locs sl' cells slots rfl rfl ⟨hP, hD, hS, xL_st2 hf hl'⟩)
  case astore i => 
    simp only [xlen, beq_iff_eq] at hlen
    subst hlen
    obtain ⟨x, t, rfl, h1, h2⟩ := xstore_2 (show xstore i _ ls st h 2 = _ from hs)
    simp only [Prod.mk.injEq] at h2
    obtain ⟨rfl, rfl, rfl, rfl⟩ := h2
    exact lv_astore hx hb hdg hL.has h1 rfl (fun sl' hl' => kk H locs sl' cells slots rfl rfl ⟨hP, hD, hS, xL_st1 hf hl'⟩)
  case astore_n i => 
    simp only [xlen, beq_iff_eq] at hlen
    subst hlen
    obtain ⟨x, t, rfl, h1, h2⟩ := xstore_2 (show xstore i _ ls st h 2 = _ from hs)
    simp only [Prod.mk.injEq] at h2
    obtain ⟨rfl, rfl, rfl, rfl⟩ := h2
    exact lv_astore_n hx hb hdg rfl hL.has h1 rfl (fun sl' hl' => kk H locs sl' cells slots rfl rfl ⟨hP, hD, hS, xL_st1 hf hl'⟩)
  case iinc i n => 
    simp only [xlen, beq_iff_eq] at hlen
    subst hlen
    simp only [xstep] at hs
    split at hs
    next x hx1 =>
      simp only [Option.some.injEq, Prod.mk.injEq] at hs
      obtain ⟨rfl, rfl, rfl, rfl⟩ := hs
      obtain ⟨kx, hkx⟩ := List.getElem?_of_mem (xent_mem (ad := ad) (fv := fv) (q := (i, .int x)) |>.mpr ⟨.int x, hx1, by simp [xU0], rfl⟩)
      exact lv_iinc hx hb hdg hL.has hkx rfl (List.getElem?_eq_some_iff.mp hx1).1 rfl (fun sl' hl' => kk H locs sl' cells slots rfl rfl ⟨hP, hD, hS, xL_st1 (v := .int (x + Int32.ofInt n)) hf hl'⟩)
    next => cases hs
  case iadd => 
    simp only [xlen, beq_iff_eq] at hlen
    subst hlen
    obtain ⟨x, y, t, rfl, h2⟩ := xbi_inv (show xbi _ _ ls st h = _ from hs)
    simp only [Prod.mk.injEq] at h2
    obtain ⟨rfl, rfl, rfl, rfl⟩ := h2
    exact lv_iadd hx hb hdg (kk H locs sl cells slots rfl rfl hI)
  case isub => 
    simp only [xlen, beq_iff_eq] at hlen
    subst hlen
    obtain ⟨x, y, t, rfl, h2⟩ := xbi_inv (show xbi _ _ ls st h = _ from hs)
    simp only [Prod.mk.injEq] at h2
    obtain ⟨rfl, rfl, rfl, rfl⟩ := h2
    exact lv_isub hx hb hdg (kk H locs sl cells slots rfl rfl hI)
  case imul => 
    simp only [xlen, beq_iff_eq] at hlen
    subst hlen
    obtain ⟨x, y, t, rfl, h2⟩ := xbi_inv (show xbi _ _ ls st h = _ from hs)
    simp only [Prod.mk.injEq] at h2
    obtain ⟨rfl, rfl, rfl, rfl⟩ := h2
    exact lv_imul hx hb hdg (kk H locs sl cells slots rfl rfl hI)
  case iand => 
    simp only [xlen, beq_iff_eq] at hlen
    subst hlen
    obtain ⟨x, y, t, rfl, h2⟩ := xbi_inv (show xbi _ _ ls st h = _ from hs)
    simp only [Prod.mk.injEq] at h2
    obtain ⟨rfl, rfl, rfl, rfl⟩ := h2
    exact lv_iand hx hb hdg (kk H locs sl cells slots rfl rfl hI)
  case ior => 
    simp only [xlen, beq_iff_eq] at hlen
    subst hlen
    obtain ⟨x, y, t, rfl, h2⟩ := xbi_inv (show xbi _ _ ls st h = _ from hs)
    simp only [Prod.mk.injEq] at h2
    obtain ⟨rfl, rfl, rfl, rfl⟩ := h2
    exact lv_ior hx hb hdg (kk H locs sl cells slots rfl rfl hI)
  case ixor => 
    simp only [xlen, beq_iff_eq] at hlen
    subst hlen
    obtain ⟨x, y, t, rfl, h2⟩ := xbi_inv (show xbi _ _ ls st h = _ from hs)
    simp only [Prod.mk.injEq] at h2
    obtain ⟨rfl, rfl, rfl, rfl⟩ := h2
    exact lv_ixor hx hb hdg (kk H locs sl cells slots rfl rfl hI)
  case ishl => 
    simp only [xlen, beq_iff_eq] at hlen
    subst hlen
    obtain ⟨x, y, t, rfl, h2⟩ := xbi_inv (show xbi _ _ ls st h = _ from hs)
    simp only [Prod.mk.injEq] at h2
    obtain ⟨rfl, rfl, rfl, rfl⟩ := h2
    exact lv_ishl hx hb hdg (kk H locs sl cells slots rfl rfl hI)
  case ishr => 
    simp only [xlen, beq_iff_eq] at hlen
    subst hlen
    obtain ⟨x, y, t, rfl, h2⟩ := xbi_inv (show xbi _ _ ls st h = _ from hs)
    simp only [Prod.mk.injEq] at h2
    obtain ⟨rfl, rfl, rfl, rfl⟩ := h2
    exact lv_ishr hx hb hdg (kk H locs sl cells slots rfl rfl hI)
  case iushr => 
    simp only [xlen, beq_iff_eq] at hlen
    subst hlen
    obtain ⟨x, y, t, rfl, h2⟩ := xbi_inv (show xbi _ _ ls st h = _ from hs)
    simp only [Prod.mk.injEq] at h2
    obtain ⟨rfl, rfl, rfl, rfl⟩ := h2
    exact lv_iushr hx hb hdg rfl (kk H locs sl cells slots rfl rfl hI)
  case ladd => 
    simp only [xlen, beq_iff_eq] at hlen
    subst hlen
    obtain ⟨x, y, t, rfl, h2⟩ := xbl_inv (show xbl _ _ ls st h = _ from hs)
    simp only [Prod.mk.injEq] at h2
    obtain ⟨rfl, rfl, rfl, rfl⟩ := h2
    exact lv_ladd hx hb hdg (kk H locs sl cells slots rfl rfl hI)
  case lsub => 
    simp only [xlen, beq_iff_eq] at hlen
    subst hlen
    obtain ⟨x, y, t, rfl, h2⟩ := xbl_inv (show xbl _ _ ls st h = _ from hs)
    simp only [Prod.mk.injEq] at h2
    obtain ⟨rfl, rfl, rfl, rfl⟩ := h2
    exact lv_lsub hx hb hdg (kk H locs sl cells slots rfl rfl hI)
  case lmul => 
    simp only [xlen, beq_iff_eq] at hlen
    subst hlen
    obtain ⟨x, y, t, rfl, h2⟩ := xbl_inv (show xbl _ _ ls st h = _ from hs)
    simp only [Prod.mk.injEq] at h2
    obtain ⟨rfl, rfl, rfl, rfl⟩ := h2
    exact lv_lmul hx hb hdg (kk H locs sl cells slots rfl rfl hI)
  case land => 
    simp only [xlen, beq_iff_eq] at hlen
    subst hlen
    obtain ⟨x, y, t, rfl, h2⟩ := xbl_inv (show xbl _ _ ls st h = _ from hs)
    simp only [Prod.mk.injEq] at h2
    obtain ⟨rfl, rfl, rfl, rfl⟩ := h2
    exact lv_land hx hb hdg (kk H locs sl cells slots rfl rfl hI)
  case lor => 
    simp only [xlen, beq_iff_eq] at hlen
    subst hlen
    obtain ⟨x, y, t, rfl, h2⟩ := xbl_inv (show xbl _ _ ls st h = _ from hs)
    simp only [Prod.mk.injEq] at h2
    obtain ⟨rfl, rfl, rfl, rfl⟩ := h2
    exact lv_lor hx hb hdg (kk H locs sl cells slots rfl rfl hI)
  case idiv => 
    simp only [xlen, beq_iff_eq] at hlen
    subst hlen
    simp only [xstep] at hs
    split at hs
    next y x t =>
      by_cases hy : y = 0
      · rw [if_pos hy] at hs
        cases hs
      · rw [if_neg hy] at hs
        simp only [Option.some.injEq, Prod.mk.injEq] at hs
        obtain ⟨rfl, rfl, rfl, rfl⟩ := hs
        exact lv_idiv hx hb hdg hy (kk H locs sl cells slots rfl rfl hI)
    next => cases hs
  case irem => 
    simp only [xlen, beq_iff_eq] at hlen
    subst hlen
    simp only [xstep] at hs
    split at hs
    next y x t =>
      by_cases hy : y = 0
      · rw [if_pos hy] at hs
        cases hs
      · rw [if_neg hy] at hs
        simp only [Option.some.injEq, Prod.mk.injEq] at hs
        obtain ⟨rfl, rfl, rfl, rfl⟩ := hs
        exact lv_irem hx hb hdg hy (kk H locs sl cells slots rfl rfl hI)
    next => cases hs
  case ldiv => 
    simp only [xlen, beq_iff_eq] at hlen
    subst hlen
    simp only [xstep] at hs
    split at hs
    next y x t =>
      by_cases hy : y = 0
      · rw [if_pos hy] at hs
        cases hs
      · rw [if_neg hy] at hs
        simp only [Option.some.injEq, Prod.mk.injEq] at hs
        obtain ⟨rfl, rfl, rfl, rfl⟩ := hs
        exact lv_ldiv hx hb hdg hy (kk H locs sl cells slots rfl rfl hI)
    next => cases hs
  case lshl => 
    simp only [xlen, beq_iff_eq] at hlen
    subst hlen
    simp only [xstep] at hs
    split at hs
    next y x t =>
      simp only [Option.some.injEq, Prod.mk.injEq] at hs
      obtain ⟨rfl, rfl, rfl, rfl⟩ := hs
      exact lv_lshl hx hb hdg rfl (kk H locs sl cells slots rfl rfl hI)
    next => cases hs
  case lcmp => 
    simp only [xlen, beq_iff_eq] at hlen
    subst hlen
    simp only [xstep] at hs
    split at hs
    next y x t =>
      simp only [Option.some.injEq, Prod.mk.injEq] at hs
      obtain ⟨rfl, rfl, rfl, rfl⟩ := hs
      exact W.lcmp hx hb hdg (kk H locs sl cells slots rfl rfl hI)
    next => cases hs
  case i2l => 
    simp only [xlen, beq_iff_eq] at hlen
    subst hlen
    simp only [xstep] at hs
    split at hs
    next x t =>
      simp only [Option.some.injEq, Prod.mk.injEq] at hs
      obtain ⟨rfl, rfl, rfl, rfl⟩ := hs
      exact lv_i2l hx hb hdg rfl (kk H locs sl cells slots rfl rfl hI)
    next => cases hs
  case i2b => 
    simp only [xlen, beq_iff_eq] at hlen
    subst hlen
    simp only [xstep] at hs
    split at hs
    next x t =>
      simp only [Option.some.injEq, Prod.mk.injEq] at hs
      obtain ⟨rfl, rfl, rfl, rfl⟩ := hs
      exact lv_i2b hx hb hdg rfl (kk H locs sl cells slots rfl rfl hI)
    next => cases hs
  case i2c => 
    simp only [xlen, beq_iff_eq] at hlen
    subst hlen
    simp only [xstep] at hs
    split at hs
    next x t =>
      simp only [Option.some.injEq, Prod.mk.injEq] at hs
      obtain ⟨rfl, rfl, rfl, rfl⟩ := hs
      exact lv_i2c hx hb hdg rfl (kk H locs sl cells slots rfl rfl hI)
    next => cases hs
  case pop => 
    simp only [xlen, beq_iff_eq] at hlen
    subst hlen
    simp only [xstep] at hs
    split at hs
    next x t =>
      simp only [Option.some.injEq, Prod.mk.injEq] at hs
      obtain ⟨rfl, rfl, rfl, rfl⟩ := hs
      exact lv_pop hx hb hdg rfl (kk H locs sl cells slots rfl rfl hI)
    next => cases hs
  case dup => 
    simp only [xlen, beq_iff_eq] at hlen
    subst hlen
    simp only [xstep] at hs
    split at hs
    next x t =>
      simp only [Option.some.injEq, Prod.mk.injEq] at hs
      obtain ⟨rfl, rfl, rfl, rfl⟩ := hs
      exact lv_dup hx hb hdg rfl (kk H locs sl cells slots rfl rfl hI)
    next x t =>
      simp only [Option.some.injEq, Prod.mk.injEq] at hs
      obtain ⟨rfl, rfl, rfl, rfl⟩ := hs
      exact lv_dup hx hb hdg rfl (kk H locs sl cells slots rfl rfl hI)
    next => cases hs
  case dup2 => 
    simp only [xlen, beq_iff_eq] at hlen
    subst hlen
    simp only [xstep] at hs
    split at hs
    next x y t =>
      simp only [Option.some.injEq, Prod.mk.injEq] at hs
      obtain ⟨rfl, rfl, rfl, rfl⟩ := hs
      exact lv_dup2_11 hx hb hdg rfl rfl (kk H locs sl cells slots rfl rfl hI)
    next => cases hs
  case goto off => 
    simp only [xlen, beq_iff_eq] at hlen
    subst hlen
    simp only [xstep, Option.some.injEq, Prod.mk.injEq] at hs
    obtain ⟨rfl, rfl, rfl, rfl⟩ := hs
    simp only [xokW, decide_eq_true_eq] at hw
    exact lv_goto hx hb hdg hw (kk H locs sl cells slots rfl rfl hI)
  case ifCond cn off => 
    simp only [xlen, beq_iff_eq] at hlen
    subst hlen
    simp only [xokW, decide_eq_true_eq] at hw
    simp only [xstep] at hs
    split at hs
    next x t =>
      simp only [Option.some.injEq, Prod.mk.injEq] at hs
      obtain ⟨hp, rfl, rfl, rfl⟩ := hs
      cases cn
      case eq =>
        refine lv_if_eq hx hb hdg hw (fun q => ?_) (fun q => ?_)
        · rw [if_pos (by simpa [xcond] using q)] at hp
          subst hp
          exact kk H locs sl cells slots rfl rfl hI
        · rw [if_neg (by simpa [xcond] using q)] at hp
          subst hp
          exact kk H locs sl cells slots rfl rfl hI
      case ne =>
        refine lv_if_ne hx hb hdg hw (fun q => ?_) (fun q => ?_)
        · rw [if_pos (by simpa [xcond] using q)] at hp
          subst hp
          exact kk H locs sl cells slots rfl rfl hI
        · rw [if_neg (by simpa [xcond] using q)] at hp
          subst hp
          exact kk H locs sl cells slots rfl rfl hI
      case lt =>
        refine lv_if_lt hx hb hdg hw (fun q => ?_) (fun q => ?_)
        · rw [if_pos (by simpa [xcond] using q)] at hp
          subst hp
          exact kk H locs sl cells slots rfl rfl hI
        · rw [if_neg (by simpa [xcond] using q)] at hp
          subst hp
          exact kk H locs sl cells slots rfl rfl hI
      case ge =>
        refine lv_if_ge hx hb hdg hw (fun q => ?_) (fun q => ?_)
        · rw [if_pos (by simpa [xcond] using q)] at hp
          subst hp
          exact kk H locs sl cells slots rfl rfl hI
        · rw [if_neg (by simpa [xcond] using q)] at hp
          subst hp
          exact kk H locs sl cells slots rfl rfl hI
      case gt =>
        refine lv_if_gt hx hb hdg hw (fun q => ?_) (fun q => ?_)
        · rw [if_pos (by simpa [xcond] using q)] at hp
          subst hp
          exact kk H locs sl cells slots rfl rfl hI
        · rw [if_neg (by simpa [xcond] using q)] at hp
          subst hp
          exact kk H locs sl cells slots rfl rfl hI
      case le =>
        refine lv_if_le hx hb hdg hw (fun q => ?_) (fun q => ?_)
        · rw [if_pos (by simpa [xcond] using q)] at hp
          subst hp
          exact kk H locs sl cells slots rfl rfl hI
        · rw [if_neg (by simpa [xcond] using q)] at hp
          subst hp
          exact kk H locs sl cells slots rfl rfl hI
    next => cases hs
  case if_icmp cn off => 
    simp only [xlen, beq_iff_eq] at hlen
    subst hlen
    simp only [xokW, decide_eq_true_eq] at hw
    simp only [xstep] at hs
    split at hs
    next y x t =>
      simp only [Option.some.injEq, Prod.mk.injEq] at hs
      obtain ⟨hp, rfl, rfl, rfl⟩ := hs
      cases cn
      case eq =>
        refine lv_icmp_eq hx hb hdg hw (fun q => ?_) (fun q => ?_)
        · rw [if_pos (by simpa [xcond] using q)] at hp
          subst hp
          exact kk H locs sl cells slots rfl rfl hI
        · rw [if_neg (by simpa [xcond] using q)] at hp
          subst hp
          exact kk H locs sl cells slots rfl rfl hI
      case ne =>
        refine lv_icmp_ne hx hb hdg hw (fun q => ?_) (fun q => ?_)
        · rw [if_pos (by simpa [xcond] using q)] at hp
          subst hp
          exact kk H locs sl cells slots rfl rfl hI
        · rw [if_neg (by simpa [xcond] using q)] at hp
          subst hp
          exact kk H locs sl cells slots rfl rfl hI
      case lt =>
        refine lv_icmp_lt hx hb hdg hw (fun q => ?_) (fun q => ?_)
        · rw [if_pos (by simpa [xcond] using q)] at hp
          subst hp
          exact kk H locs sl cells slots rfl rfl hI
        · rw [if_neg (by simpa [xcond] using q)] at hp
          subst hp
          exact kk H locs sl cells slots rfl rfl hI
      case ge =>
        refine lv_icmp_ge hx hb hdg hw (fun q => ?_) (fun q => ?_)
        · rw [if_pos (by simpa [xcond] using q)] at hp
          subst hp
          exact kk H locs sl cells slots rfl rfl hI
        · rw [if_neg (by simpa [xcond] using q)] at hp
          subst hp
          exact kk H locs sl cells slots rfl rfl hI
      case gt =>
        refine lv_icmp_gt hx hb hdg hw (fun q => ?_) (fun q => ?_)
        · rw [if_pos (by simpa [xcond] using q)] at hp
          subst hp
          exact kk H locs sl cells slots rfl rfl hI
        · rw [if_neg (by simpa [xcond] using q)] at hp
          subst hp
          exact kk H locs sl cells slots rfl rfl hI
      case le =>
        refine lv_icmp_le hx hb hdg hw (fun q => ?_) (fun q => ?_)
        · rw [if_pos (by simpa [xcond] using q)] at hp
          subst hp
          exact kk H locs sl cells slots rfl rfl hI
        · rw [if_neg (by simpa [xcond] using q)] at hp
          subst hp
          exact kk H locs sl cells slots rfl rfl hI
    next => cases hs
  case tableswitch dflt lo hi offs => 
    simp only [xstep] at hs
    split at hs
    next x t =>
      by_cases hr : x.toInt < lo ∨ hi < x.toInt
      · rw [if_pos hr] at hs
        by_cases h0 : 0 ≤ (pc0 : Int) + dflt
        · rw [if_pos h0] at hs
          simp only [Option.some.injEq, Prod.mk.injEq] at hs
          obtain ⟨rfl, rfl, rfl, rfl⟩ := hs
          exact lv_tableOut hx hb hdg hr (by omega) (kk H locs sl cells slots rfl rfl hI)
        · rw [if_neg h0] at hs
          cases hs
      · rw [if_neg hr] at hs
        cases ho : offs[(x.toInt - lo).toNat]? with
        | none => rw [ho] at hs; cases hs
        | some off =>
          rw [ho] at hs
          dsimp only at hs
          by_cases h0 : 0 ≤ (pc0 : Int) + off
          · rw [if_pos h0] at hs
            simp only [Option.some.injEq, Prod.mk.injEq] at hs
            obtain ⟨rfl, rfl, rfl, rfl⟩ := hs
            exact lv_tableIn hx hb hdg (fun q => hr (Or.inl q)) (fun q => hr (Or.inr q)) ho (by omega) (kk H locs sl cells slots rfl rfl hI)
          · rw [if_neg h0] at hs
            cases hs
    next => cases hs
  case getfield i => 
    simp only [xlen, beq_iff_eq] at hlen
    subst hlen
    simp only [xokW, Bool.and_eq_true, decide_eq_true_eq] at hw
    have hlk := xLF_ok _ (List.mem_of_getElem? hw.1)
    simp only [xstep] at hs
    split at hs
    next o t =>
      by_cases ha : a = 100
      · rw [if_pos ha] at hs
        by_cases ho : xSB ≤ o ∧ o < xSB + 38 ∧ o % 2 = 0
        · rw [if_pos ho] at hs
          subst ha
          obtain ⟨j, hj, rfl⟩ := xstr_ev ho
          obtain ⟨-, hco, hva, -⟩ := hSTR.1.1 j hj
          by_cases hb0 : b = 0
          · rw [if_pos hb0] at hs
            subst hb0
            simp only [Option.some.injEq, Prod.mk.injEq] at hs
            obtain ⟨rfl, rfl, rfl, rfl⟩ := hs
            rw [show xwF (xoc z, i, 100, 0) = .fieldLink (xocN (xoc z)) i "java/lang/String" "value" "[B" from rfl, xoc_ok hz] at hlk
            exact vk_getf hx hb hva hS hown (hts _ (xg hlk rfl)) (fun _ q => q) hdg (kk H locs sl cells slots rfl rfl hI)
          · rw [if_neg hb0] at hs
            have hb1 : b = 1 := by
              have := hw.2
              simp at this
              omega
            subst hb1
            simp only [Option.some.injEq, Prod.mk.injEq] at hs
            obtain ⟨rfl, rfl, rfl, rfl⟩ := hs
            rw [show xwF (xoc z, i, 100, 1) = .fieldLink (xocN (xoc z)) i "java/lang/String" "coder" "B" from rfl, xoc_ok hz] at hlk
            exact vk_getf hx hb hco hS hown (hts _ (xg hlk rfl)) (fun _ q => q) hdg (kk H locs sl cells slots rfl rfl hI)
        · rw [if_neg ho] at hs
          cases hs
      · rw [if_neg ha] at hs
        by_cases ho : o < h.length ∧ xkd h o = a ∧ b < xln h o
        · rw [if_pos ho] at hs
          simp only [Option.some.injEq, Prod.mk.injEq] at hs
          obtain ⟨rfl, rfl, rfl, rfl⟩ := hs
          obtain ⟨ho1, ho2, ho3⟩ := ho
          have hw2 := hw.2
          rw [if_neg ha] at hw2
          obtain ⟨ha13, hbn⟩ := of_decide_eq_true hw2
          rw [xnfN_ok a ha13] at hbn
          rw [xwF_obj ha13, xoc_ok hz] at hlk
          have he := xwd_at (tc := tc) (ad := ad) ho1
          rw [ho2, xel_obj ha13] at he
          refine va_get (ci := a) (C := xclN a) (T := xclT a) (N := xnf a) hx hb hts (xin_tbl ha13) hown hK hP o he (xcl_get ha13) b hbn (hts _ (xg hlk rfl)) (fun _ q => by rw [← (xdecl ha13 hbn).1]; exact q) (xfs_get ho3) hdg ?_
          rw [xmv_sv (fv := fv)]
          exact kk H locs sl cells slots rfl rfl hI
        · rw [if_neg ho] at hs
          cases hs
    next => cases hs
  case putfield i => 
    simp only [xlen, beq_iff_eq] at hlen
    subst hlen
    simp only [xokW, Bool.and_eq_true, decide_eq_true_eq] at hw
    have hlk := xLF_ok _ (List.mem_of_getElem? hw.1)
    obtain ⟨ha13, hbn, hfin⟩ := hw.2
    rw [xnfN_ok a ha13] at hbn
    rw [xwF_obj ha13, xoc_ok hz] at hlk
    simp only [xstep] at hs
    split at hs
    next u o t =>
      by_cases ho : o < h.length ∧ xkd h o = a ∧ b < xln h o
      · rw [if_pos ho] at hs
        obtain ⟨ho1, ho2, ho3⟩ := ho
        cases he : xenc (xty a b) u with
        | none => rw [he] at hs; cases hs
        | some x =>
          rw [he] at hs
          simp only [Option.some.injEq, Prod.mk.injEq] at hs
          obtain ⟨rfl, rfl, rfl, rfl⟩ := hs
          have hat := xwd_at (tc := tc) (ad := ad) ho1
          rw [ho2, xel_obj ha13] at hat
          have hset : (xwd tc ad h).set o (ad o, .inr (a, (xfs ad a (xda h o)).set b (xmv ad fv u))) = xwd tc ad (xwr h o b x) := by
            unfold xwr
            rw [xwd_set, ho2, xel_obj ha13, xfs_set, xenc_sv he, xmv_nofv he]
          have hff := xenc_fit (ad := ad) (fv := fv) he
          have hlen' : (xwr h o b x).length = h.length := xwr_len
          have hsz' : xsz (xwr h o b x) = xsz h := xwr_sz
          have fin : ∀ (H1 : Heap) (locs1 : List Loc), va_P D vwCl ((xwd tc ad h).set o (ad o, .inr (a, (xfs ad a (xda h o)).set b (xmv ad fv u)))) H1 → va_D A ((xwd tc ad h).set o (ad o, .inr (a, (xfs ad a (xda h o)).set b (xmv ad fv u)))) → va_S A s.heap H1 locs1 → W p l e R s m args below meth c H1 locs1 cells slots Q (F0 m (pc0 + 3) sl (t.map (xmv ad fv))) := by
            intro H1 locs1 g1 g2 g3
            rw [hset] at g1 g2
            exact kk H1 locs1 sl cells slots (by rw [hlen']) (by rw [hsz']) ⟨g1, g2, g3, hL⟩
          have hsame : ∀ y, s.fieldFound? (xclT a b).1 (xclT a b).2.1 (xclT a b).2.2.1 = some y → s.fieldFound? (xclN a) (xclT a b).2.1 (xclT a b).2.2.1 = some y := fun _ q => by rw [← (xdecl ha13 hbn).1]; exact q
          rcases hfin with hfin | ⟨hfin, hoa, hkn⟩
          · exact va_put (ci := a) (C := xclN a) (T := xclT a) (N := xnf a) (ty := xty a b) hx hb hts (xin_tbl ha13) (xty a) (xty_ok ha13) (xnm_ok ha13) hown hK hP hD hS o hat (xcl_get ha13) b hbn (hts _ (xg hlk rfl)) hsame hfin (xty_ok ha13 b hbn) hff.1 hff.2 (by rw [xfs_len]; exact ho3) hdg fin
          · have hz228 : z < 228 := by
              rcases Nat.lt_or_ge z 228 with q | q
              · exact q
              · have : z = 228 := by omega
                subst this
                rw [show xoc 228 = 13 by decide +kernel] at hoa
                omega
            exact va_putF (ci := a) (C := xclN a) (T := xclT a) (N := xnf a) (ty := xty a b) hx hb hts (xin_tbl ha13) (xty a) (xty_ok ha13) (xnm_ok ha13) hown hK hP hD hS o hat (xcl_get ha13) b hbn (hts _ (xg hlk rfl)) hsame hfin (by rw [hnm hz228]; exact ((xmm hz228).2.2.2.2.1 hkn).2.1) (by rw [(xdecl ha13 hbn).1, ← xocN_cl a ha13, ← hoa]; exact xoc_ok hz) (xty_ok ha13 b hbn) hff.1 hff.2 (by rw [xfs_len]; exact ho3) hdg fin
      · rw [if_neg ho] at hs
        cases hs
    next => cases hs
  case getstatic i => 
    simp only [xlen, beq_iff_eq] at hlen
    subst hlen
    simp only [xokW, decide_eq_true_eq] at hw
    have hlk := xLF_ok _ (List.mem_of_getElem? hw)
    simp only [xstep] at hs
    by_cases ha : a = 0
    · rw [if_pos ha] at hs
      subst ha
      simp only [Option.some.injEq, Prod.mk.injEq] at hs
      obtain ⟨rfl, rfl, rfl, rfl⟩ := hs
      rw [show xwF (xoc z, i, 200, 0) = .fieldLink (xocN (xoc z)) i "java/lang/String" "COMPACT_STRINGS" "Z" from rfl, xoc_ok hz] at hlk
      exact va_gets hx hb hSTR.2.2.1 hS hown (hts _ (xg hlk rfl)) (fun _ q => q) hdg (kk H locs sl cells slots rfl rfl hI)
    · rw [if_neg ha] at hs
      by_cases ha1 : a = 1
      · rw [if_pos ha1] at hs
        subst ha1
        simp only [Option.some.injEq, Prod.mk.injEq] at hs
        obtain ⟨rfl, rfl, rfl, rfl⟩ := hs
        rw [show xwF (xoc z, i, 200, 1) = .fieldLink (xocN (xoc z)) i "jdk/internal/util/Preconditions" "SIOOBE_FORMATTER" "Ljava/util/function/BiFunction;" from rfl, xoc_ok hz] at hlk
        exact va_gets hx hb hSTR.2.2.2.1 hS hown (hts _ (xg hlk rfl)) (fun _ q => q) hdg (kk H locs sl cells slots rfl rfl hI)
      · rw [if_neg ha1] at hs
        cases hs
  case iaload => 
    simp only [xlen, beq_iff_eq] at hlen
    subst hlen
    simp only [xstep] at hs
    split at hs
    next i o t =>
      by_cases hsc : o = xSC
      · rw [if_pos hsc] at hs
        subst hsc
        by_cases hi : xin i X.length ∧ X.length ≤ 4000
        · rw [if_pos hi] at hs
          have hi := hi.1
          simp only [Option.some.injEq, Prod.mk.injEq] at hs
          obtain ⟨rfl, rfl, rfl, rfl⟩ := hs
          exact va_sld hx hb hSTR.2.2.2.2.2.1 hSTR.2.2.2.2.2.2.1 hSTR.2.2.2.2.2.2.2.1 hS (xin_vp hi) hdg (kk H locs sl cells slots rfl rfl hI)
        · rw [if_neg hi] at hs
          cases hs
      · rw [if_neg hsc] at hs
        by_cases ho : o < h.length ∧ xkd h o = 13 ∧ xin i (xln h o)
        · rw [if_pos ho] at hs
          simp only [Option.some.injEq, Prod.mk.injEq] at hs
          obtain ⟨rfl, rfl, rfl, rfl⟩ := hs
          obtain ⟨ho1, ho2, ho3⟩ := ho
          have he := xwd_at (tc := tc) (ad := ad) ho1
          rw [ho2, xel_13] at he
          exact va_iald hx hb hK hP o 0 he rfl (xin_vp ho3) hdg (kk H locs sl cells slots rfl rfl hI)
        · rw [if_neg ho] at hs
          cases hs
    next => cases hs
  case baload => 
    simp only [xlen, beq_iff_eq] at hlen
    subst hlen
    simp only [xstep] at hs
    split at hs
    next i o t =>
      by_cases hsb : xSB ≤ o
      · rw [if_pos hsb] at hs
        by_cases ho : o < xSB + 38 ∧ o % 2 = 1 ∧ xin i (xbyt.getD ((o - xSB) / 2) []).length
        · rw [if_pos ho] at hs
          simp only [Option.some.injEq, Prod.mk.injEq] at hs
          obtain ⟨rfl, rfl, rfl, rfl⟩ := hs
          obtain ⟨ho1, ho2, ho3⟩ := ho
          obtain ⟨j, hj, hoj, hj2⟩ := xstr_od hsb ho1 ho2
          rw [hj2] at ho3
          obtain ⟨-, -, -, hT⟩ := hSTR.1.1 j hj
          obtain ⟨cell, g1, g2, g3, g4, g5, g6, g7⟩ := hT.kept hS.2.1
          have hlj : xlenS.getD j 0 = (xbyt.getD j []).length := xlenS_at j
          rw [hlj] at g4 g6
          have hlt := xin_lt ho3
          have h2 := hj2
          refine W.bald (v := .int ((xbyt.getD j []).getD i.toNatClampNeg 0)) hx hb (a := ad o) (by rw [hoj]; exact g1) g2 g3 (fun q => ?_) (g6 _ hlt) rfl rfl hdg ?_
          · rcases q with q | q
            · exact (xin_vp ho3) (Or.inl q)
            · omega
          · have := kk H locs sl cells slots rfl rfl hI
            rw [hj2] at this
            exact this
        · rw [if_neg ho] at hs
          cases hs
      · rw [if_neg hsb] at hs
        by_cases ho : o < h.length ∧ xkd h o = 14 ∧ xin i (xln h o)
        · rw [if_pos ho] at hs
          simp only [Option.some.injEq, Prod.mk.injEq] at hs
          obtain ⟨rfl, rfl, rfl, rfl⟩ := hs
          obtain ⟨ho1, ho2, ho3⟩ := ho
          have he := xwd_at (tc := tc) (ad := ad) ho1
          rw [ho2, xel_14] at he
          exact va_bald hx hb hK hP o 1 he rfl (xin_vp ho3) hdg (kk H locs sl cells slots rfl rfl hI)
        · rw [if_neg ho] at hs
          cases hs
    next => cases hs
  case aaload => 
    simp only [xlen, beq_iff_eq] at hlen
    subst hlen
    simp only [xstep] at hs
    split at hs
    next i o t =>
      by_cases ho : o < h.length ∧ (xkd h o = 15 ∨ xkd h o = 16) ∧ xin i (xln h o)
      · rw [if_pos ho] at hs
        simp only [Option.some.injEq, Prod.mk.injEq] at hs
        obtain ⟨rfl, rfl, rfl, rfl⟩ := hs
        obtain ⟨ho1, ho2, ho3⟩ := ho
        have he := xwd_at (tc := tc) (ad := ad) ho1
        rcases ho2 with ho2 | ho2
        · rw [ho2, xel_15] at he
          refine va_aldq hx hb hK hP o 2 he rfl (xin_vp ho3) hdg ?_
          rw [xro_sv (fv := fv), xgd (xin_lt ho3)]
          exact kk H locs sl cells slots rfl rfl hI
        · rw [ho2, xel_16] at he
          refine va_aldq hx hb hK hP o 3 he rfl (xin_vp ho3) hdg ?_
          rw [xro_sv (fv := fv), xgd (xin_lt ho3)]
          exact kk H locs sl cells slots rfl rfl hI
      · rw [if_neg ho] at hs
        cases hs
    next => cases hs
  case iastore => 
    simp only [xlen, beq_iff_eq] at hlen
    subst hlen
    simp only [xstep] at hs
    split at hs
    next x i o t =>
      by_cases ho : o < h.length ∧ xkd h o = 13 ∧ xin i (xln h o)
      · rw [if_pos ho] at hs
        simp only [Option.some.injEq, Prod.mk.injEq] at hs
        obtain ⟨rfl, rfl, rfl, rfl⟩ := hs
        obtain ⟨ho1, ho2, ho3⟩ := ho
        have he := xwd_at (tc := tc) (ad := ad) ho1
        rw [ho2, xel_13] at he
        refine va_iast hx hb hK hP hD hS o 0 he rfl (xin_vp ho3) hdg (fun H1 locs1 g1 g2 g3 => ?_)
        have hset : (xwd tc ad h).set o (ad o, .inl (tc.1, (xda h o).length, .inl (upd (fun j => (xda h o).getD j 0) i.toNatClampNeg x))) = xwd tc ad (xwr h o i.toNatClampNeg x) := by
          unfold xwr
          rw [xwd_set, ho2, xel_13, xupd_set (xin_lt ho3), List.length_set]
        rw [hset] at g1 g2
        exact kk H1 locs1 sl cells slots (by rw [xwr_len]) (by rw [xwr_sz]) ⟨g1, g2, g3, hL⟩
      · rw [if_neg ho] at hs
        cases hs
    next => cases hs
  case bastore => 
    simp only [xlen, beq_iff_eq] at hlen
    subst hlen
    simp only [xstep] at hs
    split at hs
    next x i o t =>
      by_cases ho : o < h.length ∧ xkd h o = 14 ∧ xin i (xln h o)
      · rw [if_pos ho] at hs
        simp only [Option.some.injEq, Prod.mk.injEq] at hs
        obtain ⟨rfl, rfl, rfl, rfl⟩ := hs
        obtain ⟨ho1, ho2, ho3⟩ := ho
        have he := xwd_at (tc := tc) (ad := ad) ho1
        rw [ho2, xel_14] at he
        refine va_bast hx hb hK hP hD hS o 1 he rfl (xin_vp ho3) hdg (fun H1 locs1 g1 g2 g3 => ?_)
        have hset : (xwd tc ad h).set o (ad o, .inl (tc.2.1, (xda h o).length, .inl (upd (fun j => (xda h o).getD j 0) i.toNatClampNeg (vp_nar .byte x)))) = xwd tc ad (xwr h o i.toNatClampNeg x.toInt8.toInt32) := by
          unfold xwr
          rw [xwd_set, ho2, xel_14, vp_nar_byte, xupd_set (xin_lt ho3), List.length_set]
        rw [hset] at g1 g2
        exact kk H1 locs1 sl cells slots (by rw [xwr_len]) (by rw [xwr_sz]) ⟨g1, g2, g3, hL⟩
      · rw [if_neg ho] at hs
        cases hs
    next => cases hs
  case aastore => 
    simp only [xlen, beq_iff_eq] at hlen
    subst hlen
    simp only [xstep] at hs
    split at hs
    next u i o t =>
      by_cases ho : o < h.length ∧ u < h.length ∧ ((xkd h o = 15 ∧ xkd h u = 1) ∨ (xkd h o = 16 ∧ xkd h u = 8)) ∧ xin i (xln h o) ∧ u < 1000000
      · rw [if_pos ho] at hs
        simp only [Option.some.injEq, Prod.mk.injEq] at hs
        obtain ⟨rfl, rfl, rfl, rfl⟩ := hs
        obtain ⟨ho1, hu1, ho2, ho3, hu2⟩ := ho
        have he := xwd_at (tc := tc) (ad := ad) ho1
        have hv := xwd_at (tc := tc) (ad := ad) hu1
        rcases ho2 with ⟨ho2, hv2⟩ | ⟨ho2, hv2⟩
        · rw [ho2, xel_15] at he
          rw [hv2, xel_obj (by decide)] at hv
          refine va_astq hx hb hK hP hD hS o 2 u 1 (r := (xclN 1, xclT 1, xnf 1)) he rfl hv (xcl_get (by decide)) (xin_vp ho3) hdg (fun H1 locs1 g1 g2 g3 => ?_)
          have hset : (xwd tc ad h).set o (ad o, .inl (tc.2.2.1, (xda h o).length, .inr (.inr (.inr (.inr (va_up (fun j => xro ad ((xda h o).getD j (-1))) i.toNatClampNeg (some (ad u)))))))) = xwd tc ad (xwr h o i.toNatClampNeg (Int32.ofNat u)) := by
            unfold xwr
            rw [xwd_set, ho2, xel_15, xup_set (xin_lt ho3) hu2, List.length_set]
          rw [hset] at g1 g2
          exact kk H1 locs1 sl cells slots (by rw [xwr_len]) (by rw [xwr_sz]) ⟨g1, g2, g3, hL⟩
        · rw [ho2, xel_16] at he
          rw [hv2, xel_obj (by decide)] at hv
          refine va_astq hx hb hK hP hD hS o 3 u 8 (r := (xclN 8, xclT 8, xnf 8)) he rfl hv (xcl_get (by decide)) (xin_vp ho3) hdg (fun H1 locs1 g1 g2 g3 => ?_)
          have hset : (xwd tc ad h).set o (ad o, .inl (tc.2.2.2, (xda h o).length, .inr (.inr (.inr (.inr (va_up (fun j => xro ad ((xda h o).getD j (-1))) i.toNatClampNeg (some (ad u)))))))) = xwd tc ad (xwr h o i.toNatClampNeg (Int32.ofNat u)) := by
            unfold xwr
            rw [xwd_set, ho2, xel_16, xup_set (xin_lt ho3) hu2, List.length_set]
          rw [hset] at g1 g2
          exact kk H1 locs1 sl cells slots (by rw [xwr_len]) (by rw [xwr_sz]) ⟨g1, g2, g3, hL⟩
      · rw [if_neg ho] at hs
        cases hs
    next => cases hs
  case arraylength => 
    simp only [xlen, beq_iff_eq] at hlen
    subst hlen
    simp only [xstep] at hs
    split at hs
    next o t =>
      by_cases hsc : o = xSC
      · rw [if_pos hsc] at hs
        subst hsc
        by_cases hx4 : X.length ≤ 4000
        rotate_left
        · rw [if_neg hx4] at hs
          cases hs
        rw [if_pos hx4] at hs
        simp only [Option.some.injEq, Prod.mk.injEq] at hs
        obtain ⟨rfl, rfl, rfl, rfl⟩ := hs
        exact va_slen hx hb hSTR.2.2.2.2.2.1 hSTR.2.2.2.2.2.2.1 hSTR.2.2.2.2.2.2.2.1 hS hdg (kk H locs sl cells slots rfl rfl hI)
      · rw [if_neg hsc] at hs
        by_cases hsb : xSB ≤ o
        · rw [if_pos hsb] at hs
          by_cases ho : o < xSB + 38 ∧ o % 2 = 1
          · rw [if_pos ho] at hs
            simp only [Option.some.injEq, Prod.mk.injEq] at hs
            obtain ⟨rfl, rfl, rfl, rfl⟩ := hs
            obtain ⟨ho1, ho2⟩ := ho
            obtain ⟨j, hj, hoj, hj2⟩ := xstr_od hsb ho1 ho2
            obtain ⟨-, -, -, hT⟩ := hSTR.1.1 j hj
            obtain ⟨cell, g1, g2, g3, g4, g5, g6, g7⟩ := hT.kept hS.2.1
            rw [xlenS_at j] at g5
            refine W.alen (n := Int32.ofNat (xbyt.getD j []).length) hx hb (a := ad o) (by rw [hoj]; exact g1) g2 g5 rfl rfl hdg ?_
            have := kk H locs sl cells slots rfl rfl hI
            rw [hj2] at this
            exact this
          · rw [if_neg ho] at hs
            cases hs
        · rw [if_neg hsb] at hs
          by_cases ho : o < h.length ∧ 13 ≤ xkd h o ∧ xkd h o ≤ 16
          · rw [if_pos ho] at hs
            simp only [Option.some.injEq, Prod.mk.injEq] at hs
            obtain ⟨rfl, rfl, rfl, rfl⟩ := hs
            obtain ⟨ho1, ho2, ho3⟩ := ho
            have he := xwd_at (tc := tc) (ad := ad) ho1
            rcases (show xkd h o = 13 ∨ xkd h o = 14 ∨ xkd h o = 15 ∨ xkd h o = 16 by omega) with q | q | q | q
            · rw [q, xel_13] at he
              exact va_alen hx hb hK hP o 0 he rfl rfl hdg (kk H locs sl cells slots rfl rfl hI)
            · rw [q, xel_14] at he
              exact va_alen hx hb hK hP o 1 he rfl rfl hdg (kk H locs sl cells slots rfl rfl hI)
            · rw [q, xel_15] at he
              exact va_alen hx hb hK hP o 2 he rfl rfl hdg (kk H locs sl cells slots rfl rfl hI)
            · rw [q, xel_16] at he
              exact va_alen hx hb hK hP o 3 he rfl rfl hdg (kk H locs sl cells slots rfl rfl hI)
          · rw [if_neg ho] at hs
            cases hs
    next => cases hs
  case new i => 
    simp only [xlen, beq_iff_eq] at hlen
    subst hlen
    simp only [xokW, decide_eq_true_eq] at hw
    have hlk := xLC_ok _ (List.mem_of_getElem? hw.2)
    simp only [xstep] at hs
    by_cases ha : a < 13 ∧ h.length < 900000
    · rw [if_pos ha] at hs
      simp only [Option.some.injEq, Prod.mk.injEq] at hs
      obtain ⟨rfl, rfl, rfl, rfl⟩ := hs
      obtain ⟨ha13, hh9⟩ := ha
      rw [xwC_obj ha13, xoc_ok hz] at hlk
      rw [List.length_append, xsz_push] at hcap
      have hdl : (xdef a).length = xnf a := by simp [xdef]
      simp only [List.length_cons, List.length_nil] at hcap
      rw [hdl] at hcap
      refine va_new (ci := a) (fs := xfs ad a (xdef a)) (C := xclN a) (T := xclT a) (N := xnf a) hx hb hts (xin_tbl ha13) (xty a) (xty_ok ha13) hown (hts _ (xg hlk rfl)) (hts _ (xg (xinst_ok ha13).1 rfl)) (hts _ (xg (xinst_ok ha13).2 rfl)) hK hP hD hS hA (xcl_get ha13) (xdef_ok ha13) (by omega) (by omega) hdg (fun q H1 g1 g2 g3 => ?_)
      refine xW_sz (fun hsz1 => ?_)
      have hq := xq_new hC hcl g1 g2 hsz1 hh9
      subst hq
      have hp := xwd_push (tc := tc) (ad := ad) (h := h) (q := (a, xdef a))
      rw [xel_obj ha13] at hp
      rw [← hp] at g1 g2
      exact kk H1 locs sl (cells + 1) (slots + xnf a) (by simp; omega) (by rw [xsz_push, hdl]; omega) ⟨g1, g2, g3, hL⟩
    · rw [if_neg ha] at hs
      cases hs
  case newarray at0 => 
    simp only [xlen, beq_iff_eq] at hlen
    subst hlen
    simp only [xokW, decide_eq_true_eq] at hw
    simp only [xstep] at hs
    split at hs
    next n t =>
      by_cases hn : 0 ≤ n.toInt ∧ n.toInt ≤ 10000 ∧ (a = 13 ∨ a = 14) ∧ h.length < 900000
      · rw [if_pos hn] at hs
        simp only [Option.some.injEq, Prod.mk.injEq] at hs
        obtain ⟨rfl, rfl, rfl, rfl⟩ := hs
        obtain ⟨hn0, hn1, -, hh9⟩ := hn
        have hnn : ¬ n < 0 := by
          intro q
          have := Int32.lt_iff_toInt_lt.mp q
          simp at this
          omega
        have hN : n.toNatClampNeg ≤ 10000 := by
          show n.toInt.toNat ≤ 10000
          omega
        rw [List.length_append, xsz_push] at hcap
        simp only [List.length_cons, List.length_nil, List.length_replicate] at hcap
        rcases hw with ⟨ha, hat⟩ | ⟨ha, hat⟩
        · subst ha
          subst hat
          refine va_newa (atype := .int) (ty := .int) (a0 := (n.toNatClampNeg, .inl (fun _ => 0))) hx hb (hts _ (xg xarr_int rfl)) rfl hK hP hD hS hA (fun _ => rfl) hnn rfl (by show _ * 4 ≤ _; omega) (by omega) (by omega) hdg (fun q cA H1 g0 g1 g2 g3 => ?_)
          have hcA : cA = tc.1 := by
            have e1 := va_nm_int (g0.2 4 (cA, .int) rfl).2
            have e2 := va_nm_int (hK.2 0 (tc.1, .int) rfl).2
            exact Option.some.inj (e1.symm.trans e2)
          subst hcA
          refine xW_sz (fun hsz1 => ?_)
          have hq := xq_new hC hcl g1 g2 hsz1 hh9
          subst hq
          have hp := xwd_push (tc := tc) (ad := ad) (h := h) (q := (13, List.replicate n.toNatClampNeg 0))
          rw [xel_13, xrep_0, List.length_replicate] at hp
          rw [← hp] at g1 g2
          exact kk H1 locs sl (cells + 1) (slots + n.toNatClampNeg) (by simp; omega) (by rw [xsz_push, List.length_replicate]; omega) ⟨g1, g2, g3, hL⟩
        · subst ha
          subst hat
          refine va_newa (atype := .byte) (ty := .byte) (a0 := (n.toNatClampNeg, .inl (fun _ => 0))) hx hb (hts _ (xg xarr_byte rfl)) rfl hK hP hD hS hA (fun _ => rfl) hnn rfl (by show _ * 1 ≤ _; omega) (by omega) (by omega) hdg (fun q cA H1 g0 g1 g2 g3 => ?_)
          have hcA : cA = tc.2.1 := by
            have e1 := va_nm_byte (g0.2 4 (cA, .byte) rfl).2
            have e2 := va_nm_byte (hK.2 1 (tc.2.1, .byte) rfl).2
            exact Option.some.inj (e1.symm.trans e2)
          subst hcA
          refine xW_sz (fun hsz1 => ?_)
          have hq := xq_new hC hcl g1 g2 hsz1 hh9
          subst hq
          have hp := xwd_push (tc := tc) (ad := ad) (h := h) (q := (14, List.replicate n.toNatClampNeg 0))
          rw [xel_14, xrep_0, List.length_replicate] at hp
          rw [← hp] at g1 g2
          exact kk H1 locs sl (cells + 1) (slots + n.toNatClampNeg) (by simp; omega) (by rw [xsz_push, List.length_replicate]; omega) ⟨g1, g2, g3, hL⟩
      · rw [if_neg hn] at hs
        cases hs
    next => cases hs
  case anewarray i => 
    simp only [xlen, beq_iff_eq] at hlen
    subst hlen
    simp only [xokW, decide_eq_true_eq] at hw
    have hlk := xLC_ok _ (List.mem_of_getElem? hw.2)
    simp only [xstep] at hs
    split at hs
    next n t =>
      by_cases hn : 0 ≤ n.toInt ∧ n.toInt ≤ 10000 ∧ (a = 15 ∨ a = 16) ∧ h.length < 900000
      · rw [if_pos hn] at hs
        simp only [Option.some.injEq, Prod.mk.injEq] at hs
        obtain ⟨rfl, rfl, rfl, rfl⟩ := hs
        obtain ⟨hn0, hn1, ha, hh9⟩ := hn
        have hnn : ¬ n < 0 := by
          intro q
          have := Int32.lt_iff_toInt_lt.mp q
          simp at this
          omega
        have hN : n.toNatClampNeg ≤ 10000 := by
          show n.toInt.toNat ≤ 10000
          omega
        rw [List.length_append, xsz_push] at hcap
        simp only [List.length_cons, List.length_nil, List.length_replicate] at hcap
        rcases ha with ha | ha
        · subst ha
          rw [show xwC (xoc z, i, 15) = .classLink (xocN (xoc z)) i "ConvoyTown$Cross" from rfl, xoc_ok hz] at hlk
          refine va_newq (C := "ConvoyTown$Cross") hx hb hown (hts _ (xg hlk rfl)) hSTR.2.2.2.2.2.2.2.2.2.1 hK hP hD hS hA hnn rfl (by omega) (by omega) (by omega) hdg (fun q cA H1 g0 g1 g2 g3 => ?_)
          have hcA : cA = tc.2.2.1 := by
            obtain ⟨_, _, _, _, _, e1⟩ := (g0.2 4 (cA, .object "ConvoyTown$Cross") rfl).2
            obtain ⟨_, _, _, _, _, e2⟩ := (hK.2 2 (tc.2.2.1, .object "ConvoyTown$Cross") rfl).2
            exact Option.some.inj (e1.symm.trans e2)
          subst hcA
          refine xW_sz (fun hsz1 => ?_)
          have hq := xq_new hC hcl g1 g2 hsz1 hh9
          subst hq
          have hp := xwd_push (tc := tc) (ad := ad) (h := h) (q := (15, List.replicate n.toNatClampNeg (-1)))
          rw [xel_15, xrep_1, List.length_replicate] at hp
          rw [← hp] at g1 g2
          exact kk H1 locs sl (cells + 1) (slots + n.toNatClampNeg) (by simp; omega) (by rw [xsz_push, List.length_replicate]; omega) ⟨g1, g2, g3, hL⟩
        · subst ha
          rw [show xwC (xoc z, i, 16) = .classLink (xocN (xoc z)) i "ConvoyTown$Street" from rfl, xoc_ok hz] at hlk
          refine va_newq (C := "ConvoyTown$Street") hx hb hown (hts _ (xg hlk rfl)) hSTR.2.2.2.2.2.2.2.2.2.2 hK hP hD hS hA hnn rfl (by omega) (by omega) (by omega) hdg (fun q cA H1 g0 g1 g2 g3 => ?_)
          have hcA : cA = tc.2.2.2 := by
            obtain ⟨_, _, _, _, _, e1⟩ := (g0.2 4 (cA, .object "ConvoyTown$Street") rfl).2
            obtain ⟨_, _, _, _, _, e2⟩ := (hK.2 3 (tc.2.2.2, .object "ConvoyTown$Street") rfl).2
            exact Option.some.inj (e1.symm.trans e2)
          subst hcA
          refine xW_sz (fun hsz1 => ?_)
          have hq := xq_new hC hcl g1 g2 hsz1 hh9
          subst hq
          have hp := xwd_push (tc := tc) (ad := ad) (h := h) (q := (16, List.replicate n.toNatClampNeg (-1)))
          rw [xel_16, xrep_1, List.length_replicate] at hp
          rw [← hp] at g1 g2
          exact kk H1 locs sl (cells + 1) (slots + n.toNatClampNeg) (by simp; omega) (by rw [xsz_push, List.length_replicate]; omega) ⟨g1, g2, g3, hL⟩
      · rw [if_neg hn] at hs
        cases hs
    next => cases hs
  case invokespecial i => 
    simp only [xlen, beq_iff_eq] at hlen
    subst hlen
    simp only [xstep] at hs
    split at hs
    next o t =>
      by_cases ha : a = 1000 ∧ (t.map Value.category).sum ≤ 8
      · rw [if_pos ha] at hs
        obtain ⟨ha, hr8⟩ := ha
        subst ha
        simp only [Option.some.injEq, Prod.mk.injEq] at hs
        obtain ⟨rfl, rfl, rfl, rfl⟩ := hs
        simp only [xokW, if_true, decide_eq_true_eq] at hw
        have hlk := xLM_ok _ (List.mem_of_getElem? hw)
        rw [show xwM (xoc z, i, 1000, 0) = .methodLink (xocN (xoc z)) i Lib.objectInit from rfl, xoc_ok hz] at hlk
        have hc8 := xcat_map (ad := ad) hf t
        refine W.objInit hx hb hown (hts _ (xg hlk rfl)) (hts _ (xg xobj_inst rfl)) (hts _ (xg xobj_code rfl)) rfl (by rw [hml]; exact hL.1.trans hLen) rfl hdg (by omega) (by rw [hc8]; show 2 * 0 + _ + 12 ≤ _; omega) ?_
        exact kk H locs sl cells slots rfl rfl hI
      · rw [if_neg ha] at hs
        cases hs
    next => cases hs
  case invokestatic i => 
    simp only [xlen, beq_iff_eq] at hlen
    subst hlen
    have hcat : ∀ t : List Value, ((t.map (xmv ad fv)).map fun v => v.category).sum = (t.map Value.category).sum := fun t => xcat_map hf t
    have hmls : c.maxLocals = sl.size := by rw [hml]; exact (hL.1.trans hLen).symm
    simp only [xstep] at hs
    by_cases h1004 : a = 1004
    · rw [if_pos h1004] at hs
      subst h1004
      split at hs
      next n dp o sp q t =>
        by_cases hq0 : o < h.length ∧ q < h.length ∧ xkd h o = 13 ∧ xkd h q = 13 ∧ 0 ≤ sp.toInt ∧ 0 ≤ dp.toInt ∧ 0 ≤ n.toInt ∧ sp.toInt + n.toInt ≤ xln h q ∧ dp.toInt + n.toInt ≤ xln h o ∧ (t.map Value.category).sum ≤ 8
        · rw [if_pos hq0] at hs
          obtain ⟨ho1, hq1, ho2, hq2, h5, h6, h7, h8, h9, hr8⟩ := hq0
          simp only [Option.some.injEq, Prod.mk.injEq] at hs
          obtain ⟨rfl, rfl, rfl, rfl⟩ := hs
          simp [xokW] at hw
          have hlk := xLM_ok _ (List.mem_of_getElem? hw)
          rw [show xwM (xoc z, i, 1004, 0) = .methodLink (xocN (xoc z)) i arraycopyName from rfl, xoc_ok hz] at hlk
          have he := xwd_at (tc := tc) (ad := ad) ho1
          rw [ho2, xel_13] at he
          have hq := xwd_at (tc := tc) (ad := ad) hq1
          rw [hq2, xel_13] at hq
          have nn : ∀ y : Int32, 0 ≤ y.toInt → ¬ y < 0 := fun y hy z => by
            have := Int32.lt_iff_toInt_lt.mp z
            simp at this
            omega
          have tn : ∀ y : Int32, y.toNatClampNeg = y.toInt.toNat := fun _ => rfl
          have hnf : nativeFrameWords "java/lang/System" "arraycopy" 5 + 11 ≤ 60 := by decide +kernel
          refine va_copyi hx hb hmls hown (hts _ (xg hlk rfl)) (hts _ (xg xcopy_nat rfl)) (hts _ (xg xcopy_stat rfl)) (hts _ (xg xcopy_ini rfl)) hK hP hD hS q o 0 0 (ty := .int) hq he rfl rfl rfl (nn _ h5) (nn _ h6) (nn _ h7) (by rw [tn, tn]; unfold xln at h8; omega) (by rw [tn, tn]; unfold xln at h9; omega) (fun _ _ => rfl) (by omega) (by rw [hcat]; omega) hdg (fun H1 locs1 g1 g2 g3 => ?_)
          have hset : (xwd tc ad h).set o (ad o, .inl (tc.1, (xda h o).length, .inl (va_cpy (fun j => (xda h q).getD j 0) (fun j => (xda h o).getD j 0) sp.toNatClampNeg dp.toNatClampNeg n.toNatClampNeg))) = xwd tc ad (h.set o (13, xcpy (xda h q) (xda h o) sp.toNatClampNeg dp.toNatClampNeg n.toNatClampNeg)) := by
            rw [xwd_set, xel_13, xcpy_len, xcpy_fn (by rw [tn, tn]; unfold xln at h9; omega)]
          rw [hset] at g1 g2
          exact kk H1 locs1 sl cells slots (by simp) (by rw [xsz_set (by rw [xcpy_len])]) ⟨g1, g2, g3, hL⟩
        · rw [if_neg hq0] at hs
          cases hs
      next => cases hs
    rw [if_neg h1004] at hs
    by_cases h1003 : a = 1003
    · rw [if_pos h1003] at hs
      subst h1003
      split at hs
      next x t =>
        by_cases hr8 : (t.map Value.category).sum ≤ 8
        · rw [if_pos hr8] at hs
          simp only [Option.some.injEq, Prod.mk.injEq] at hs
          obtain ⟨rfl, rfl, rfl, rfl⟩ := hs
          simp [xokW] at hw
          have hlk := xLM_ok _ (List.mem_of_getElem? hw)
          rw [show xwM (xoc z, i, 1003, 0) = .methodLink (xocN (xoc z)) i Lib.Math.abs.name from rfl, xoc_ok hz] at hlk
          exact va_mabs hx hb hmls hown (hts _ (xg hlk rfl)) (hts _ (xg xabs_stat rfl)) (hts _ (xg xmath_ini rfl)) (hts _ (xg xabs_code rfl)) (by omega) (by rw [hcat]; omega) (by have := hcap.1; omega) (by have := hcap.2; omega) hdg (kk H locs sl cells slots rfl rfl hI)
        · rw [if_neg hr8] at hs
          cases hs
      next => cases hs
    rw [if_neg h1003] at hs
    by_cases h1001 : a = 1001
    · rw [if_pos h1001] at hs
      subst h1001
      split at hs
      next y x t =>
        by_cases hr8 : (t.map Value.category).sum ≤ 8
        · rw [if_pos hr8] at hs
          simp only [Option.some.injEq, Prod.mk.injEq] at hs
          obtain ⟨rfl, rfl, rfl, rfl⟩ := hs
          simp [xokW] at hw
          have hlk := xLM_ok _ (List.mem_of_getElem? hw)
          rw [show xwM (xoc z, i, 1001, 0) = .methodLink (xocN (xoc z)) i Lib.Math.max.name from rfl, xoc_ok hz] at hlk
          exact va_mmax hx hb hmls hown (hts _ (xg hlk rfl)) (hts _ (xg xmax_stat rfl)) (hts _ (xg xmath_ini rfl)) (hts _ (xg xmax_code rfl)) (by omega) (by rw [hcat]; omega) (by have := hcap.1; omega) (by have := hcap.2; omega) hdg (kk H locs sl cells slots rfl rfl hI)
        · rw [if_neg hr8] at hs
          cases hs
      next => cases hs
    rw [if_neg h1001] at hs
    by_cases h1002 : a = 1002
    · rw [if_pos h1002] at hs
      subst h1002
      split at hs
      next y x t =>
        by_cases hr8 : (t.map Value.category).sum ≤ 8
        · rw [if_pos hr8] at hs
          simp only [Option.some.injEq, Prod.mk.injEq] at hs
          obtain ⟨rfl, rfl, rfl, rfl⟩ := hs
          simp [xokW] at hw
          have hlk := xLM_ok _ (List.mem_of_getElem? hw)
          rw [show xwM (xoc z, i, 1002, 0) = .methodLink (xocN (xoc z)) i Lib.Math.min.name from rfl, xoc_ok hz] at hlk
          exact va_mmin hx hb hmls hown (hts _ (xg hlk rfl)) (hts _ (xg xmin_stat rfl)) (hts _ (xg xmath_ini rfl)) (hts _ (xg xmin_code rfl)) (by omega) (by rw [hcat]; omega) (by have := hcap.1; omega) (by have := hcap.2; omega) hdg (kk H locs sl cells slots rfl rfl hI)
        · rw [if_neg hr8] at hs
          cases hs
      next => cases hs
    rw [if_neg h1002] at hs
    cases hs
  all_goals (simp [xstep] at hs)
end XS
