/-! a run of the interpreter is the machine's: contracts of all methods at once -/
def xrins : Option Value → Instr
  | none => .return_
  | some (.int _) => .ireturn
  | some (.long _) => .lreturn
  | _ => .areturn
def xrok (rt : Option FieldType) (r : Option Value) : Prop := match r with
  | none => rt = none
  | some (.int x) => ∃ ty, rt = some ty ∧ narrow ty (.int x) = .int x
  | some (.long _) => rt = some .long
  | some (.ref _) => ∃ ty, rt = some ty ∧ xisR ty = true
  | _ => False
theorem xret_inv {k : XRow} {rt : Option FieldType} {st : List Value} {r : Option Value} (h : xret k rt st = some (some r)) : k.2.1 = xrins r ∧ xrok rt r ∧ st = r.toList := by
  unfold xret at h
  split at h
  next hk =>
    split at h
    · split at h
      next q =>
        simp only [Option.some.injEq] at h
        subst h
        exact ⟨hk, q, rfl⟩
      next => simp at h
    · simp at h
  next hk =>
    split at h
    next x =>
      split at h
      next ty =>
        split at h
        next q =>
          simp only [Option.some.injEq] at h
          subst h
          exact ⟨hk, ⟨ty, rfl, q.1⟩, rfl⟩
        next => simp at h
      next => simp at h
    next => simp at h
  next hk =>
    split at h
    next x =>
      split at h
      next q =>
        simp only [Option.some.injEq] at h
        subst h
        exact ⟨hk, q, rfl⟩
      next => simp at h
    next => simp at h
  next hk =>
    split at h
    next x =>
      split at h
      next ty =>
        split at h
        next q =>
          simp only [Option.some.injEq] at h
          subst h
          exact ⟨hk, ⟨ty, rfl, q⟩, rfl⟩
        next => simp at h
      next => simp at h
    next => simp at h
  next => cases h
theorem xrun_mono {X : List Int32} : ∀ (n : Nat) {d z pc : Nat} {ls st : List Value} {h : XHp} {r : Option Value} {h' : XHp}, xrun X n d z pc ls st h = some (r, h') → h.length ≤ h'.length ∧ xsz h ≤ xsz h' ∧ (h.length ≤ 900000 → h'.length ≤ 900000)
  | 0, d, z, pc, ls, st, h, r, h', e => by simp [xrun] at e
  | n + 1, d, z, pc, ls, st, h, r, h', e => by
    unfold xrun at e
    split at e
    next => cases e
    next k hk =>
      split at e
      next hc =>
        split at e
        next r' hr =>
          simp only [Option.some.injEq, Prod.mk.injEq] at e
          obtain ⟨-, rfl⟩ := e
          exact ⟨Nat.le_refl _, Nat.le_refl _, id⟩
        next => cases e
        next hr =>
          split at e
          next pc1 ls1 st1 h1 hs =>
            obtain ⟨-, a1, a2, a3⟩ := xstep_mono hs
            obtain ⟨b1, b2, b3⟩ := xrun_mono n e
            exact ⟨Nat.le_trans a1 b1, Nat.le_trans a2 b2, fun q => b3 (a3 q)⟩
          next => cases e
      next hc =>
        split at e
        next => cases e
        next d' =>
          split at e
          next hcond =>
            split at e
            next r1 h1 hr1 =>
              obtain ⟨a1, a2, a3⟩ := xrun_mono n hr1
              obtain ⟨b1, b2, b3⟩ := xrun_mono n e
              exact ⟨Nat.le_trans a1 b1, Nat.le_trans a2 b2, fun q => b3 (a3 q)⟩
            next => cases e
          next => cases e
def xSd (X : List Int32) (n : Nat) : Prop := ∀ (d z pc : Nat) (ls st : List Value) (h : XHp) (r : Option Value) (h' : XHp), xrun X n d z pc ls st h = some (r, h') → ∀ {p : Program} {l : Launch} {e : Env} {R : Room} {s : State} {m : MethodId} {args : Array Value} {below : List Frame} {meth : Method} {c : Code} {H : Heap} {locs : List Loc} {cells slots : Nat} {Q : State → Prop} {D : va_G} {tc : XTc} {ad : Nat → Nat} {fv : Value} {base : Nat} {A : Nat → Prop} {n0 z0 : Nat} {sl : Array Slot},
  xC X p R s m args meth c D tc ad fv base A d z n0 → xI s D tc ad fv A h ls sl H locs → ls.length = xmx z → cells + n0 = h.length → slots + z0 = xsz h → h'.length ≤ R.cells + n0 → xsz h' ≤ R.slots + z0 → h.length ≤ 900000 →
  (∀ (H' : Heap) (locs' : List Loc) (sl' : Array Slot) (pc' : Nat), va_P D vwCl (xwd tc ad h') H' → va_D A (xwd tc ad h') → va_S A s.heap H' locs' → decode (xbt z) pc' = .ok (xrins r, 1) → xrok (xrt z) r → W p l e R s m args below meth c H' locs' (h'.length - n0) (xsz h' - z0) Q (F0 m pc' sl' (r.toList.map (xmv ad fv)))) →
  W p l e R s m args below meth c H locs cells slots Q (F0 m pc sl (st.map (xmv ad fv)))
def xrm (d mc ms : Nat) : Room := { frames := d + 1, cells := mc, slots := ms, locals := 100 * (d + 1) }
def xAA (tc : XTc) (ad : Nat → Nat) (base : Nat) (h : XHp) : Nat → Prop := va_A (xwd tc ad h) (base + h.length)
def xPc (X : List Int32) (D : va_G) (tc : XTc) (ad : Nat → Nat) (fv : Value) (base : Nat) (h : XHp) (as : List Value) : Array Value → State → Prop := fun v U => v = (as.map (xmv ad fv)).toArray ∧ U.heap.size = base + h.length ∧ va_P D vwCl (xwd tc ad h) U.heap ∧ va_K D vwCl (xtyl tc) U ∧ va_D (fun _ => True) (xwd tc ad h) ∧ xSTR X ad fv (xAA tc ad base h) U U.heap
def xQc (D : va_G) (tc : XTc) (ad : Nat → Nat) (fv : Value) (base : Nat) (h : XHp) (r : Option Value) (h' : XHp) : Array Value → State → Outcome → State → Prop := fun _ st oc t => oc = .returned (r.map (xmv ad fv)) ∧ va_P D vwCl (xwd tc ad h') t.heap ∧ va_D (xAA tc ad base h) (xwd tc ad h') ∧ va_F (xAA tc ad base h) st t
theorem xmet {X : List Int32} {n : Nat} (hS : xSd X n) {l : Launch} {D : va_G} {tc : XTc} {ad : Nat → Nat} {fv : Value} {base d a : Nat} {as : List Value} {h : XHp} {r : Option Value} {h' : XHp} (hrun : xrun X n d a 0 (xloc a as) [] h = some (r, h')) (ha : a < 228) (hl : (xxp as).length ≤ xmx a) (h9 : h.length ≤ 900000) (had : ∀ k, k < xSB → ad k = base + k) (hf : fv = .null ∨ ∃ t, fv = .ref t) :
    Met l (xnm a) (.code (xnm a) (xbt a) (xmx a) (xrt a) :: xtb) (xrm d (h'.length - h.length) (xsz h' - xsz h)) (xPc X D tc ad fv base h as) (xQc D tc ad fv base h r h') (h'.length - h.length) (xsz h' - xsz h) (xAA tc ad base h) := by
  obtain ⟨m1, m2, m3, m4, m5, m6, m7, m8, m9⟩ := xmm ha
  obtain ⟨o1, o2, -⟩ := xrun_mono n hrun
  refine Met.ofW (cc := xbt a) (maxL := xmx a) (ret := xrt a) m6 rfl ?_
  intro p e s m args below meth c s₁ B hml hv
  obtain ⟨rfl, hsz, hP, hK, hD0, hSTR⟩ := hv
  have hx := B.exec
  have hb := B.bytes
  have hr := B.returns
  have hts0 := atoms_spec (ws := .code (xnm a) (xbt a) (xmx a) (xrt a) :: xtb) B.pre
  have hts : ∀ w ∈ xtb, w.before (as.map (xmv ad fv)).toArray s = true := fun w hw => hts0 w (List.mem_cons_of_mem _ hw)
  have hown : s.vm.findClass (xow a) = some m.cls := findClass_of_methodNamed B.named
  have hlocks := B.notSynchronized
  have hin : meth.name = (xnm a).name := (name_of_methodNamed B.named B.method).1
  have hD : va_D (xAA tc ad base h) (xwd tc ad h) := hD0.self
  rw [lg_entry_eq]
  have hA : ∀ q : Nat, s.heap.size ≤ q → xAA tc ad base h q := fun q hq => Or.inr (by rw [← hsz]; exact hq)
  have hAb : ∀ q : Nat, xAA tc ad base h q → base ≤ q := by
    intro q hq
    rcases hq with ⟨k, el, hk⟩ | hq
    · have hkl : k < h.length := by
        have := (List.getElem?_eq_some_iff.mp hk).1
        rw [xwd_len] at this
        exact this
      rw [xwd_at hkl] at hk
      cases hk
      rw [had k (by unfold xSB; omega)]
      omega
    · omega
  refine hS d a 0 (xloc a as) [] h r h' hrun (R := xrm d (h'.length - h.length) (xsz h' - xsz h)) (cells := 0) (slots := 0) (n0 := h.length) (z0 := xsz h) ⟨hx, hb, hml, hown, hts, Nat.le_refl _, Nat.le_refl _, hK, hA, hSTR, fun _ => hin, hsz, had, hAb⟩ ⟨hP, hD, va_S.rf, xL_entry hf hl⟩ (by unfold xloc; simp; omega) (by omega) (by omega) (by show _ ≤ h'.length - h.length + _; omega) (by show _ ≤ xsz h' - xsz h + _; omega) h9 ?_
  intro H' locs' sl' pc' hP' hD' hS' hdec hrok
  have hq : ∀ t : State, t.heap = H' → s.WarmedH t.vm → xQc D tc ad fv base h r h' (as.map (xmv ad fv)).toArray s (.returned (r.map (xmv ad fv))) t := fun t ht hW => ⟨rfl, by rw [ht]; exact hP', hD', hS'.F ht⟩
  match r, hrok, hdec, hq with
  | none, hrok, hdec, hq => exact W.vret hx hb (by rw [hr]; exact hrok) hq hS'.2.2 hdec
  | some (.int x), ⟨ty, hrok, hn⟩, hdec, hq => exact W.zret hx hb (by rw [hr]; exact hrok) hn hq hS'.2.2 hdec
  | some (.long x), hrok, hdec, hq => exact W.lret hx hb (by rw [hr]; exact hrok) hq hS'.2.2 hdec
  | some (.ref x), ⟨ty, hrok, hn⟩, hdec, hq =>
    refine W.aret (rt := ty) hx hb (by rw [hr]; exact hrok) ?_ (Or.inr ⟨_, rfl⟩) hq hS'.2.2 hdec
    cases ty <;> simp [xisR] at hn
    · exact Or.inl ⟨_, rfl⟩
    · exact Or.inr ⟨_, rfl⟩
section XR
variable {X : List Int32} {p : Program} {l : Launch} {e : Env} {R : Room} {s : State} {m : MethodId} {args : Array Value} {below : List Frame} {meth : Method} {c : Code} {H : Heap} {locs : List Loc} {cells slots : Nat} {Q : State → Prop} {D : va_G} {tc : XTc} {ad : Nat → Nat} {fv : Value} {base : Nat} {A : Nat → Prop} {d z n0 : Nat}
theorem xcall_go {mc ms pc : Nat} {ls : Array Slot} {st0 rest : List Value} {v : Option Value} {A1 : Nat → Prop} {Qa : State → Outcome → State → Prop} {P : Heap → Prop} (hr : va_Run p l e R s m args below meth c H locs cells slots mc ms (F0 m pc ls st0) rest Qa A1) (hS : va_S A s.heap H locs) (hA1 : ∀ q, A1 q → A q) (hQ : ∀ st oc t, Qa st oc t → oc = .returned v ∧ P t.heap ∧ va_F A1 st t)
    (kk : ∀ (H1 : Heap) (locs1 : List Loc), P H1 → va_S A s.heap H1 locs1 → W p l e R s m args below meth c H1 locs1 (cells + mc) (slots + ms) Q (F0 m (pc + 3) ls (v.toList ++ rest))) : W p l e R s m args below meth c H locs cells slots Q (F0 m pc ls st0) := by
  intro T hT X0
  obtain ⟨v', st₀, t, T', L, h0, X', hL, e1, e2, hq, st⟩ := hr T hT X0
  obtain ⟨hv, hP, hz, hk⟩ := hQ _ _ _ hq
  cases hv
  rw [h0] at hz hk
  obtain ⟨t2, a1, b1⟩ := kk T'.heap (locs ++ L) (by rw [e1]; exact hP)
    ⟨Nat.le_trans hS.1 (by rw [e1]; exact hz), fun q h1 h2 => by rw [e1, hk q (Nat.lt_of_lt_of_le h1 hS.1) (fun z => h2 (hA1 q z))]; exact hS.2.1 q h1 h2, fun q hq => by
      rcases List.mem_append.mp hq with h | h
      · exact hS.2.2 q h
      · exact hA1 _ (hL q h)⟩ T' rfl X'
  exact ⟨t2, st t2 a1, b1⟩
end XR
theorem xgood {a : Nat} (ha : a < 228) : GoodIn xtb (.code (xnm a) (xbt a) (xmx a) (xrt a) :: xtb) := by
  intro w hw
  have hw2 : w ∈ xtb := by
    rcases List.mem_cons.mp hw with rfl | q
    · exact xg (xmm ha).1 rfl
    · exact q
  exact ⟨hw2, good_of_word (List.mem_filter.mp hw2).2⟩
abbrev rmOK (R rm : Room) (maxL : Nat) : Prop := rm.frames + 1 ≤ R.frames ∧ 8 + (maxL + 11) + rm.locals ≤ R.locals
theorem xwM_own {o i a : Nat} (h : a < 228) : xwM (o, i, a, 0) = .methodLink (xocN o) i (xnm a) := by
  unfold xwM xspN
  dsimp only
  rw [if_pos rfl, if_neg (by omega), if_neg (by omega), if_neg (by omega), if_neg (by omega), if_neg (by omega)]
theorem xspN_own {a : Nat} (h : a < 228) : xspN a = xnm a := by
  unfold xspN
  rw [if_neg (by omega), if_neg (by omega), if_neg (by omega), if_neg (by omega), if_neg (by omega)]
theorem xlen_ret {r : Option Value} {n : Nat} (h : xlen (xrins r) n = true) : n = 1 := by
  unfold xrins at h
  split at h <;> simpa [xlen] using h
theorem xSTR.calling {X : List Int32} {ad : Nat → Nat} {fv : Value} {A : Nat → Prop} {U : State} {H : Heap} (h : xSTR X ad fv A U H) (g : JFrame) (mk : MethodId) (a : Array Value) : xSTR X ad fv A (U.calling g mk a) H := by
  obtain ⟨h1, h2, h3, h4, h5, h6, h7, h8, h9⟩ := h
  exact ⟨h1.moved (Vm.Alike.refl U.vm), fun i q hi => (h2 i q hi).same rfl, h3.moved (Vm.Alike.refl U.vm), h4.moved (Vm.Alike.refl U.vm), h5, h6.moved (Vm.Alike.refl U.vm), h7, h8, fun q hq hn => (h9.1 q hq hn).same rfl rfl, h9.2.1.moved (Vm.Alike.refl U.vm), h9.2.2.moved (Vm.Alike.refl U.vm)⟩
theorem xPc_blind {X : List Int32} {D : va_G} {tc : XTc} {ad : Nat → Nat} {fv : Value} {base : Nat} {h : XHp} {as : List Value} : FrameBlind (xPc X D tc ad fv base h as) := by
  rintro a U g mk ⟨q1, q2, q3, q4, q5, q6⟩
  exact ⟨q1, q2, q3, va_K.moved (u := U) (U := U.calling g mk a) (Vm.Alike.refl U.vm) q4, q5, q6.calling g mk a⟩
set_option maxHeartbeats 4000000 in
theorem xsnd (X : List Int32) : ∀ n, xSd X n
  | 0 => by
    intro d z pc ls st h r h' hrun
    simp [xrun] at hrun
  | n + 1 => by
    have ih := xsnd X n
    intro d z pc ls st h r h' hrun p l e R s m args below meth c H locs cells slots Q D tc ad fv base A n0 z0 sl hC hI hLen hcl hsl hc1 hc2 h9 kk
    unfold xrun at hrun
    split at hrun
    next => cases hrun
    next k hk =>
      split at hrun
      next hc =>
        split at hrun
        next r' hr =>
          simp only [Option.some.injEq, Prod.mk.injEq] at hrun
          obtain ⟨rfl, rfl⟩ := hrun
          obtain ⟨i1, i2, i3⟩ := xret_inv hr
          obtain ⟨hpc, hz, hdg, hlen, hw⟩ := xlook_ok hk
          subst i3
          rw [i1] at hlen hdg
          rw [xlen_ret hlen] at hdg
          have := kk H locs sl pc hI.1 hI.2.1 hI.2.2.1 hdg i2
          rw [show h.length - n0 = cells by omega, show xsz h - z0 = slots by omega] at this
          exact this
        next => cases hrun
        next hr =>
          split at hrun
          next pc1 ls1 st1 h1 hs =>
            obtain ⟨a0, a1, a2, a3⟩ := xstep_mono hs
            obtain ⟨b1, b2, b3⟩ := xrun_mono n hrun
            refine xsnd_step hC hk hs hI hLen hcl ⟨by omega, by omega⟩ (fun H' locs' sl' cells' slots' e1 e2 hI' => ?_)
            exact ih d z pc1 ls1 st1 h1 r h' hrun hC hI' (by rw [a0]; exact hLen) (by omega) (by omega) hc1 hc2 (a3 h9) kk
          next => cases hrun
      next hc =>
        split at hrun
        next => cases hrun
        next d' =>
          split at hrun
          next hcond =>
            obtain ⟨g1, g2, g3, g4, g5⟩ := hcond
            split at hrun
            next r1 h1 hr1 =>
              obtain ⟨hx, hb, hml, hown, hts, hfr, hlo, hK, hA, hSTR, hnm, hsz, had, hAb⟩ := id hC
              obtain ⟨hP, hD, hS, hL⟩ := id hI
              have hf := hSTR.2.2.2.2.1
              obtain ⟨hpc, hz, hdg, hlen, hw⟩ := xlook_ok hk
              obtain ⟨pc0, ins, len, a, b, v, w⟩ := k
              dsimp only at *
              subst hpc
              obtain ⟨o1, o2, o3⟩ := xrun_mono n hr1
              obtain ⟨o4, o5, -⟩ := xrun_mono n hrun
              have ha : a < 228 := by
                cases ins <;> simp only [xcall, not_true_eq_false] at hc g1
                all_goals (by_cases q : a < 228)
                all_goals first | exact q | (simp [q] at hc g1)
              obtain ⟨m1, m2, m3, m4, m5, m6, m7, m8, m9⟩ := xmm ha
              generalize hasL : (st.take b).reverse = asL at *
              have hal : asL.length = b := by
                rw [← hasL, List.length_reverse, List.length_take]
                omega
              have hstk : st.map (xmv ad fv) = (asL.map (xmv ad fv)).reverse ++ (st.drop b).map (xmv ad fv) := by
                rw [← List.map_reverse, ← hasL, List.reverse_reverse, ← List.map_append, List.take_append_drop]
              have hM := xmet (l := l) (D := D) (tc := tc) (ad := ad) (fv := fv) (base := base) ih hr1 ha g4 h9 had hf
              have hsize : sl.size = xmx z := hL.1.trans hLen
              have hrest : ((st.drop b).map (xmv ad fv) |>.map fun v => v.category).sum ≤ 8 := by
                rw [xcat_map hf]
                exact g3
              have hAA : ∀ q, xAA tc ad base h q → A q := by
                intro q hq
                rcases hq with ⟨k, el, hk⟩ | hq
                · exact hD.2 _ _ hk
                · exact hA q (by omega)
              have hcb : rmOK R (xrm d' (h1.length - h.length) (xsz h1 - xsz h)) (xmx a) := by
                refine ⟨?_, ?_⟩
                · show d' + 1 + 1 ≤ R.frames
                  omega
                · show 8 + (xmx a + 11) + 100 * (d' + 1) ≤ R.locals
                  have : xmx a ≤ 80 := m8
                  omega
              have hcap : cells + (h1.length - h.length) ≤ R.cells ∧ slots + (xsz h1 - xsz h) ≤ R.slots := ⟨by omega, by omega⟩
              refine xW_sz (fun hsz1 => ?_)
              have hHs : H.size = base + h.length := by
                have hge : base + h.length ≤ H.size := by
                  rcases Nat.eq_zero_or_pos h.length with q | q
                  · have := hS.1
                    omega
                  · have hlt := (hP _ _ (xwd_at (tc := tc) (ad := ad) (h := h) (o := h.length - 1) (by omega))).lt
                    dsimp only at hlt
                    rw [had _ (by unfold xSB; omega)] at hlt
                    omega
                omega
              have hPc : ∀ U : State, U.heap = H → s.WarmedH U.vm → xPc X D tc ad fv base h asL (asL.map (xmv ad fv)).toArray U := fun U hU hW => ⟨rfl, by rw [hU]; exact hHs, by rw [hU]; exact hP, va_K.moved hW.alike hK, hD.weaken (fun _ _ _ _ => trivial), by rw [hU]; exact hSTR.go hW hS.1 hS.2.1 hAA⟩
              have hQ : ∀ (aa : Array Value) st oc t, xQc D tc ad fv base h r1 h1 aa st oc t → oc = .returned (r1.map (xmv ad fv)) ∧ (va_P D vwCl (xwd tc ad h1) t.heap ∧ va_D (xAA tc ad base h) (xwd tc ad h1)) ∧ va_F (xAA tc ad base h) st t := fun aa st oc t q => ⟨q.1, ⟨q.2.1, q.2.2.1⟩, q.2.2.2⟩
              have fin : ∀ (H1 : Heap) (locs1 : List Loc), (va_P D vwCl (xwd tc ad h1) H1 ∧ va_D (xAA tc ad base h) (xwd tc ad h1)) → va_S A s.heap H1 locs1 → W p l e R s m args below meth c H1 locs1 (cells + (h1.length - h.length)) (slots + (xsz h1 - xsz h)) Q (F0 m (pc0 + 3) sl ((r1.map (xmv ad fv)).toList ++ (st.drop b).map (xmv ad fv))) := by
                intro H1 locs1 hp1 hS1
                have e2 : (r1.map (xmv ad fv)).toList ++ (st.drop b).map (xmv ad fv) = (r1.toList ++ st.drop b).map (xmv ad fv) := by
                  cases r1 <;> simp
                rw [e2]
                exact ih (d' + 1) z (pc0 + 3) ls (r1.toList ++ st.drop b) h1 r h' hrun hC ⟨hp1.1, hp1.2.weaken (fun _ q _ w => hAA _ w), hS1, hL⟩ hLen (by omega) (by omega) hc1 hc2 (o3 h9) kk
              rw [hstk]
              cases ins <;> simp [xcall] at hc g1
              case invokevirtual i =>
                simp only [xlen, beq_iff_eq] at hlen
                subst hlen
                simp only [xokW, decide_eq_true_eq] at hw
                obtain ⟨-, hw1, hw2, hw3⟩ := hw
                have hlk := xLM_ok _ (List.mem_of_getElem? hw1)
                rw [xwM_own ha, xoc_ok hz] at hlk
                rw [show xcall (pc0, Instr.invokevirtual i, 3, a, b, v, w) = 1 by simp [xcall, ha]] at g5
                unfold xrec at g5
                split at g5
                next o as' =>
                  have hrecv : ∃ cellB : Cell, H[ad o]? = some cellB ∧ cellB.vm.isStatics = false ∧ s.vm.findClass (xow a) = some cellB.cls := by
                    by_cases h14 : xoc a = 14
                    · rw [if_pos h14] at g5
                      have g6 := of_decide_eq_true g5
                      obtain ⟨j, hj, hoj⟩ := xstr_ev (show xSB ≤ o ∧ o < xSB + 38 ∧ o % 2 = 0 from (g6.resolve_left (by decide)).2)
                      have hr := vk_recv hSTR.1 hj hS
                      have hcs : xow a = "java/lang/String" := by rw [← xoc_ok (by omega), h14]; rfl
                      rw [hcs, hoj]
                      exact hr
                    · rw [if_neg h14] at g5
                      have g6 := of_decide_eq_true g5
                      obtain ⟨q1, q2, q3⟩ := (g6.resolve_left (by decide)).resolve_left (by decide)
                      have hcs : xow a = xclN (xoc a) := by rw [← xoc_ok (by omega), xocN_cl _ q3]
                      have hat := xwd_at (tc := tc) (ad := ad) q1
                      rw [q2, xel_obj q3] at hat
                      rw [hcs]
                      exact va_recv hK hP (xcl_get (a := xoc a) q3) hat
                  refine xcall_go (v := r1.map (xmv ad fv)) (P := fun H1 => va_P D vwCl (xwd tc ad h1) H1 ∧ va_D (xAA tc ad base h) (xwd tc ad h1)) (va_runV (As := as'.map (xmv ad fv)) (rest := (st.drop b).map (xmv ad fv)) (b := ad o) (C := xow a) ⟨hx, hb, hml, hown, hts⟩ hM ⟨callB_of (xnp a) hts (xgood ha) rfl rfl rfl (hts _ (xg m2 rfl)) (hts _ (xg hlk rfl)) ⟨m7.1, m7.2, m9⟩ hcb, hts _ (xg (m4 hw2).1 rfl), hts _ (xg (m4 hw2).2 rfl)⟩ ⟨xPc_blind, hrecv, hPc⟩ rfl (by simp at hal ⊢; omega) hsize (by simp [xmv]) (by show 2 * 0 + _ ≤ 8; omega) hdg hcap) hS hAA (fun st oc t => hQ _ st oc t) fin
                next => simp at g5
              case invokespecial i =>
                simp only [xlen, beq_iff_eq] at hlen
                subst hlen
                simp only [xokW] at hw
                rw [if_neg (by omega)] at hw
                obtain ⟨-, hw1, hw2, hw3⟩ := of_decide_eq_true hw
                have hlk := xLM_ok _ (List.mem_of_getElem? hw1)
                have hrt : xrt a = none := (m5 hw2).2.2
                have hG := xgood ha
                rw [hrt] at hM hG
                rw [show xcall (pc0, Instr.invokespecial i, 3, a, b, v, w) = 2 by simp [xcall, ha]] at g5
                unfold xrec at g5
                split at g5
                next o as' =>
                  by_cases hv : v.toNat = 0
                  · rw [hv, xwM_own ha, xoc_ok hz] at hlk
                    exact xcall_go (v := r1.map (xmv ad fv)) (P := fun H1 => va_P D vwCl (xwd tc ad h1) H1 ∧ va_D (xAA tc ad base h) (xwd tc ad h1)) (va_runI (As := as'.map (xmv ad fv)) (rest := (st.drop b).map (xmv ad fv)) (b := ad o) ⟨hx, hb, hml, hown, hts⟩ hM ⟨callB_of (xnp a) hts hG rfl rfl rfl (hts _ (xg m2 rfl)) (hts _ (xg hlk rfl)) ⟨m7.1, m7.2, m9⟩ hcb, (m5 hw2).2.1, hts _ (xg (m5 hw2).1 rfl)⟩ ⟨xPc_blind, hPc⟩ rfl (by simp at hal ⊢; omega) hsize (by simp [xmv]) (by show 2 * 0 + _ ≤ 8; omega) hdg hcap) hS hAA (fun st oc t => hQ _ st oc t) fin
                  · have hnw := hSTR.2.2.2.2.2.2.2.2.1 _ (List.mem_of_getElem? hw1) hv
                    dsimp only at hnw
                    rw [xspN_own ha, xoc_ok hz] at hnw
                    exact xcall_go (v := r1.map (xmv ad fv)) (P := fun H1 => va_P D vwCl (xwd tc ad h1) H1 ∧ va_D (xAA tc ad base h) (xwd tc ad h1)) (va_runIN (As := as'.map (xmv ad fv)) (rest := (st.drop b).map (xmv ad fv)) (b := ad o) ⟨hx, hb, hml, hown, hts⟩ hM ⟨va_cnB (xnp a) hts hG rfl rfl rfl hnw (hts _ (xg m2 rfl)) ⟨m7.1, m7.2, m9⟩ hcb, (m5 hw2).2.1, hts _ (xg (m5 hw2).1 rfl)⟩ ⟨xPc_blind, hPc⟩ rfl (by simp at hal ⊢; omega) hsize (by simp [xmv]) (by show 2 * 0 + _ ≤ 8; omega) hdg hcap) hS hAA (fun st oc t => hQ _ st oc t) fin
                next => simp at g5
              case invokestatic i =>
                simp only [xlen, beq_iff_eq] at hlen
                subst hlen
                simp only [xokW] at hw
                rw [if_neg (by omega), if_pos ha] at hw
                simp only [Bool.and_eq_true, decide_eq_true_eq] at hw
                obtain ⟨hw1, hw2, hw3⟩ := hw
                have hlk := xLM_ok _ (List.mem_of_getElem? hw1)
                rw [xwM_own ha, xoc_ok hz] at hlk
                exact xcall_go (v := r1.map (xmv ad fv)) (P := fun H1 => va_P D vwCl (xwd tc ad h1) H1 ∧ va_D (xAA tc ad base h) (xwd tc ad h1)) (va_runS (As := asL.map (xmv ad fv)) (rest := (st.drop b).map (xmv ad fv)) ⟨hx, hb, hml, hown, hts⟩ hM ⟨callB_of (xnp a) hts (xgood ha) rfl rfl rfl (hts _ (xg m2 rfl)) (hts _ (xg hlk rfl)) ⟨m7.1, m7.2, m9⟩ hcb, hts _ (xg (m3 hw2) rfl)⟩ ⟨xPc_blind, hPc⟩ rfl (by simp at hal ⊢; omega) hsize rfl (by show 2 * 0 + _ ≤ 8; omega) hdg hcap) hS hAA (fun st oc t => hQ _ st oc t) fin
            next => cases hrun
          next => cases hrun
