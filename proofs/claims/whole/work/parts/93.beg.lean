section BEG
variable {X : List Int32} {d : Nat} {F : XF}
/-! the beginning -/
theorem xhp_of {h : XHp} (hs : h.map (fun q => (q.1, q.2.length)) = xS0) : xhp (fun o i => ((h.getD o (99, [])).2.getD i.toNat 0).toInt) = h := by
  have hl : h.length = 146 := by rw [← xS0_len, ← hs, List.length_map]
  apply List.ext_getElem?
  intro o
  by_cases ho : o < 146
  · have hq : h[o]? = some h[o] := List.getElem?_eq_getElem (by omega)
    have hg : xS0[o]? = some (h[o].1, h[o].2.length) := by rw [← hs, List.getElem?_map, hq]; rfl
    have hk : xkd0 o = h[o].1 := by unfold xkd0; rw [List.getD_eq_getElem?_getD, hg]; rfl
    have hn : xln0 o = h[o].2.length := by unfold xln0; rw [List.getD_eq_getElem?_getD, hg]; rfl
    have hr : xrow (fun o i => ((h.getD o (99, [])).2.getD i.toNat 0).toInt) o h[o].2.length = h[o].2 := by
      unfold xrow
      apply List.ext_getElem
      · simp
      · intro i h1 h2
        simp only [List.getElem_map, List.getElem_range]
        rw [Int32.ofInt_toInt, Int.toNat_natCast, List.getD_eq_getElem?_getD (l := h), hq]
        simp [List.getD_eq_getElem?_getD, h2]
    rw [xhp_get ho, hq, hk, hn, hr]
  · rw [List.getElem?_eq_none (by rw [xhp_len]; omega), List.getElem?_eq_none (by omega)]
def xF0 : XF := fun o i => ((xH2.getD o (99, [])).2.getD i.toNat 0).toInt
theorem xF0_h : xhp xF0 = xH2 := xhp_of (by decide +kernel)
theorem xF0_P : xPT xF0 := by
  unfold xPT
  decide +kernel
theorem xF0_132 : ∀ i : Nat, i < 163 → xF0 132 (i : Int) = if (i : Int) = 0 then 100 else if (i : Int) = 1 then 10 else if (i : Int) = 2 then 2 else 0 := by decide +kernel
theorem xF0_140 : ∀ i : Nat, i < 132 → xF0 140 (i : Int) = 0 := by decide +kernel
theorem xF0_tr : (∀ i : Nat, i < 61 → xF0 125 (i : Int) = -2 ∧ xF0 126 (i : Int) = -2) ∧ (∀ i : Nat, i < 51 → xF0 127 (i : Int) = -2) := by decide +kernel
theorem xF0_v : (xF0 0 0 = 1 ∧ xF0 1 0 = 100 ∧ xF0 1 1 = 10 ∧ xF0 1 2 = 2 ∧ xF0 1 3 = 0 ∧ xF0 1 4 = 0 ∧ xF0 1 6 = 0 ∧ xF0 1 8 = 0 ∧ xF0 1 9 = 0 ∧ xF0 1 11 = 0) ∧ (xF0 98 0 = 0 ∧ xF0 104 1 = -1 ∧ xF0 42 0 = 1 ∧ xF0 42 2 = 0 ∧ xF0 42 3 = 0 ∧ xF0 42 5 = 0 ∧ xF0 43 0 = 0 ∧ xF0 55 0 = 0) ∧ (xF0 131 20 = 0 ∧ xF0 131 17 = 0 ∧ xF0 18 5 = 20 ∧ xF0 131 4 = 0 ∧ xF0 18 0 = 0 ∧ xF0 131 7 = 0 ∧ xF0 18 1 = 0 ∧ xF0 131 8 = -1 ∧ xF0 18 2 = -1 ∧ xF0 131 12 = 0 ∧ xF0 37 0 = 0) := by decide +kernel
theorem xF0_T : xF0 132 = rT0 (xF0 132) := funext fun i => by
  by_cases h : 0 ≤ i ∧ i < 163
  · have := xF0_132 i.toNat (by omega)
    rw [show ((i.toNat : Nat) : Int) = i by omega] at this
    rw [this]
    unfold rT0
    by_cases h0 : i = 0
    · rw [if_pos h0, if_pos h0]
    rw [if_neg h0, if_neg h0]
    by_cases h1 : i = 1
    · rw [if_pos h1, if_pos h1]
    rw [if_neg h1, if_neg h1]
    by_cases h2 : i = 2
    · rw [if_pos h2, if_pos h2]
    rw [if_neg h2, if_neg h2, if_pos h]
  · unfold rT0
    rw [if_neg (by omega), if_neg (by omega), if_neg (by omega), if_neg h]
/-- class and reference begin side by side -/
theorem xF0_J : jJ xF0 := by
  obtain ⟨⟨a0, b0, b1, b2, b3, b4, b6, b8, b9, b11⟩, ⟨c0, c1, c2, c3, c4, c5, c6, c7⟩, ⟨e1, e2, e3, e4, e5, e6, e7, e8, e9, e10, e11⟩⟩ := xF0_v
  have hm : mT (xF0 132) := by rw [xF0_T]; exact rT0_m
  have z : ∀ i, 3 ≤ i → i < 163 → xF0 132 i = 0 := fun i a b => by rw [xF0_T]; exact rT0_z ⟨a, b⟩
  have z0 : xF0 132 0 = 100 := by rw [xF0_T]; rfl
  have z1 : xF0 132 1 = 10 := by rw [xF0_T]; rfl
  have z2 : xF0 132 2 = 2 := by rw [xF0_T]; rfl
  have z3 := z 3 (by omega) (by omega)
  have z4 := z 4 (by omega) (by omega)
  have z5 := z 5 (by omega) (by omega)
  have z6 := z 6 (by omega) (by omega)
  have z7 := z 7 (by omega) (by omega)
  have k5 : (xF0 132 5).toNat = 0 := by rw [z5]; rfl
  have s0 : mS (xF0 132) 0 0 = 0 := by
    show mL (xF0 132) (xF0 132 5).toNat 0 0 = 0
    rw [k5]; rfl
  have m0 : ∀ i, mRun (xF0 132) 0 i = 0 := fun i => by
    show mBg (xF0 132) (xF0 132 5) i = 0
    unfold mBg
    rw [z5, if_neg (by omega), if_neg (by omega)]
  obtain ⟨tr1, tr2⟩ := xF0_tr
  have hw : cTw xF0 1 (xF0 132) := by
    refine ⟨⟨by rw [b0, z0], by rw [b1, z1], by rw [b2, z2], by rw [b3, z3], by rw [b4, z4], by rw [b6, z5], by rw [b9, z6], by rw [b11, z7]⟩, fun x p q => by omega, fun x p q => by omega, fun c hc => ?_, fun x p q => by omega, fun x p q => by omega⟩
    rw [b8, mbit_0, z _ (by omega) (by omega)]
    rfl
  refine ⟨1, 0, ⟨⟨a0, by decide, by omega, hm, by omega, hw, ⟨Or.inl c0, fun q => by omega⟩, ⟨by omega, fun k p q => by omega, fun i p q => Or.inl ?_, fun i p q => Or.inl ?_, fun v p q => Or.inl ?_⟩⟩, ⟨⟨c2, ⟨?_, fun c p q => by omega, fun x p q => ?_⟩, fun e x p q => by omega, fun c p q => by omega, by rw [m0]; exact c4, fun e p q => by omega, fun i p q => by omega⟩, c3, Or.inl c5⟩, fun x k p q => by omega, fun c p q => by omega, ⟨fun _ => ⟨c7, fun j p q => ?_⟩, fun q => by omega⟩, mEn_0, by omega⟩, ⟨?_, by omega, by omega, ⟨?_, fun i p q => ?_⟩, ⟨?_, fun c p q => by omega, fun s p q => ?_⟩⟩, ⟨20, e3, by decide, by omega, by omega⟩, ⟨by rw [e4, e5], by omega, fun i p q => by omega, by rw [e6, e7], by rw [e8, e9]⟩, ⟨by rw [e10, e11], by omega, fun j p q => by omega⟩⟩
  · have := (tr1 i.toNat (by omega)).1
    rw [show ((i.toNat : Nat) : Int) = i by omega] at this
    exact this
  · have := (tr1 i.toNat (by omega)).2
    rw [show ((i.toNat : Nat) : Int) = i by omega] at this
    exact this
  · have := tr2 v.toNat (by omega)
    rw [show ((v.toNat : Nat) : Int) = v by omega] at this
    exact this
  · rw [k5]; exact c6
  · rw [k5] at q
    have : mL (xF0 132) 0 0 0 = 0 := rfl
    omega
  · have : mEvs (xF0 132) 0 (-1) = 0 := rfl
    omega
  · refine mRow_eq (fun i p q => ?_) (fun i _ => m0 i)
    have := xF0_140 i.toNat (by omega)
    rw [show ((i.toNat : Nat) : Int) = i by omega] at this
    rw [m0, show 0 + i = i by omega]
    exact this
  · unfold mEF
    rw [if_pos rfl]
    exact e1
  · have : mEF xF0 (-1) = 0 := by
      unfold mEF
      rw [if_pos rfl]
      exact e1
    omega
  · rw [k5]; exact e2
  · rw [k5] at q
    have : mL (xF0 132) 0 0 0 = 0 := rfl
    omega
theorem xsz_hp : xsz (xhp F) = xsz xH2 := by
  have key : ∀ G : XF, (xhp G).map (fun q => q.2.length) = xS0.map (fun q => q.2) := fun G => by
    unfold xhp
    apply List.ext_getElem
    · simp
    · intro i h1 h2
      simp [xrow]
  rw [← xF0_h]
  unfold xsz
  rw [key, key]
theorem xH_l : xH1.length = 131 ∧ xsz xH2 ≤ 7302250 := by decide +kernel
/-- the interpreter answers 1 on the law, with every script -/
theorem xlaw (hX : X.length ≤ 3072) : xLaw X := by
  obtain ⟨r, F', e, hP', y, hy, hq⟩ := l228 (X := X) (d := 40) (by omega) (by omega) (X.length) 0 xF0 (by omega) (by omega) (by omega) xF0_P xF0_J
  subst hq
  subst hy
  have e18 : xEv X 40 228 18 [.ref xSC, .ref 0, .ref 131, vi 0] [] xH2 (some (.int 1)) (xhp F') := by
    rw [← xF0_h]
    exact e
  have e17 : xEv X 40 228 17 [.ref xSC, .ref 0, .ref 131, xU0] [vi 0] xH2 (some (.int 1)) (xhp F') := xE_step (k := (17, .istore_n 3, 1, 0, 0, 0, 0)) (xlk (by decide +kernel)) rfl (fun _ => rfl) rfl e18
  have e16 : xEv X 40 228 16 [.ref xSC, .ref 0, .ref 131, xU0] [] xH2 (some (.int 1)) (xhp F') := xE_step (k := (16, .iconst 0, 1, 0, 0, 0, 0)) (xlk (by decide +kernel)) rfl (fun _ => rfl) rfl e17
  have e15 : xEv X 40 228 15 [.ref xSC, .ref 0, xU0, xU0] [.ref 131] xH2 (some (.int 1)) (xhp F') := xE_step (k := (15, .astore_n 2, 1, 0, 0, 0, 0)) (xlk (by decide +kernel)) rfl (fun _ => rfl) rfl e16
  have c2 : xEv X 30 133 0 (xloc 133 [.ref 131]) [] (xH1 ++ [(12, xdef 12)]) none xH2 := xEv.of (xck_e xH2_r)
  have e12 : xEv X 40 228 12 [.ref xSC, .ref 0, xU0, xU0] [.ref 131, .ref 131] (xH1 ++ [(12, xdef 12)]) (some (.int 1)) (xhp F') := xE_call (k := (12, .invokespecial 12, 3, 133, 1, 0, 212)) (as := [.ref 131]) (xlk (by decide +kernel)) (by decide) rfl rfl (show 30 < 40 by omega) (by decide +kernel) rfl c2 e15
  have e11 : xEv X 40 228 11 [.ref xSC, .ref 0, xU0, xU0] [.ref 131] (xH1 ++ [(12, xdef 12)]) (some (.int 1)) (xhp F') := xE_step (k := (11, .dup, 1, 0, 0, 0, 0)) (xlk (by decide +kernel)) rfl (fun _ => rfl) rfl e12
  have e8 : xEv X 40 228 8 [.ref xSC, .ref 0, xU0, xU0] [] xH1 (some (.int 1)) (xhp F') := by
    refine xE_step (k := (8, .new 10, 3, 12, 0, 0, 16)) (xlk (by decide +kernel)) rfl (fun _ => rfl) ?_ e11
    simp only [xstep]
    rw [if_pos ⟨by decide, by rw [xH_l.1]; decide⟩, xH_l.1]
  have e7 : xEv X 40 228 7 [.ref xSC, xU0, xU0, xU0] [.ref 0] xH1 (some (.int 1)) (xhp F') := xE_step (k := (7, .astore_n 1, 1, 0, 0, 0, 0)) (xlk (by decide +kernel)) rfl (fun _ => rfl) rfl e8
  have c1 : xEv X 30 92 0 (xloc 92 [.ref 0]) [] [(11, xdef 11)] none xH1 := xEv.of (xck_e xH1_r)
  have e4 : xEv X 40 228 4 [.ref xSC, xU0, xU0, xU0] [.ref 0, .ref 0] [(11, xdef 11)] (some (.int 1)) (xhp F') := xE_call (k := (4, .invokespecial 9, 3, 92, 1, 0, 211)) (as := [.ref 0]) (xlk (by decide +kernel)) (by decide) rfl rfl (show 30 < 40 by omega) (by decide +kernel) rfl c1 e7
  have e3 : xEv X 40 228 3 [.ref xSC, xU0, xU0, xU0] [.ref 0] [(11, xdef 11)] (some (.int 1)) (xhp F') := xE_step (k := (3, .dup, 1, 0, 0, 0, 0)) (xlk (by decide +kernel)) rfl (fun _ => rfl) rfl e4
  have e0 : xEv X 40 228 0 (xloc 228 [.ref xSC]) [] [] (some (.int 1)) (xhp F') := by
    rw [show xloc 228 [.ref xSC] = [.ref xSC, xU0, xU0, xU0] from rfl]
    refine xE_step (k := (0, .new 7, 3, 11, 0, 0, 15)) (xlk (by decide +kernel)) rfl (fun _ => rfl) ?_ e3
    simp only [xstep]
    rw [if_pos ⟨by decide, by decide⟩]
    rfl
  obtain ⟨n, hn⟩ := e0
  exact ⟨n, xhp F', hn, by rw [xhp_len]; omega, by rw [xsz_hp]; exact xH_l.2⟩
end BEG
