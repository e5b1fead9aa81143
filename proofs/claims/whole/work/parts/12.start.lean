/-! THE CLAIM OUT OF ONE WALK OF THE LAW'S BODY. Your part is whole_start (and what it stands on); all else here is the same for every law, but numbers. -/
def R_law : String := "ConvoyTownLaw"
def lw_P (b : Addr) (xs : List Int32) (args : Array Value) (s : State) : Prop := args = #[.ref b] ∧ s.IntsAt b xs ∧ xs.length ≤ 3072 ∧ (Jvm.Cond.and given_1 narrow_1).before args s = true
def lw_Q (_ : Array Value) (s : State) (o : Outcome) (t : State) : Prop := o = .returned (some (.int 1)) ∧ Framed s o t [] 600000 7302250
def lw_Z (below : List Frame) (a : Array Value) (s : State) : State → Prop := fun t => ∃ o, t.status = .running ∧ Ended t below o ∧ lw_Q a s o t
/-- the law's own end, with 1 on the stack, nothing written that was there before, its room as the claim has it -/
theorem lw_ret {p : Program} {l : Launch} {e : Env} {s : State} {m : MethodId} {below : List Frame} {meth : Method} {c : Code} {b : Nat} (hx : p.tables.exec = Jvm.exec) (hb : c.code = code) (hr : meth.sig.returnType = ret) (hlocks : meth.locks = false) {pc : Nat} {H : Heap} {ls : Array Slot} (hdg : decode code pc = .ok (.ireturn, 1)) : W p l e room_1 s m #[Value.ref b] below meth c H [] 600000 7302250 (lw_Z below #[Value.ref b] s) (F0 m pc ls [.int 1]) := by
  intro T hT X
  obtain ⟨fs, hret, hrun, hended, hW, hframe⟩ := X.leave (v := some (.int 1)) (hlocks := hlocks) (fun h => by rw [hr] at h; cases h)
  have hmeth' : T.vm.method? m = some meth := X.method'
  refine ⟨T.setFrames fs, ?_, .returned (some (.int 1)), hrun, hended, rfl, ⟨_, rfl⟩, hW, hframe⟩
  jvm_step X.here [X.here.top, hx, hb, hdg, hmeth', hr, ret, narrow_b1]
  (try refine ⟨rfl, ?_⟩); (try refine ⟨rfl, ?_⟩)
  first | (intro acts; rw [hret _ acts rfl rfl rfl]) | rw [hret _ _ rfl rfl rfl]
  exact Steps.refl _
/-- what holds at the law's entry: the machine, the code, the tables' words (any of lw_tbl by 'hts w (by decide +kernel)'), the script of L ints xs at the cell b, what the Statement gives of the start (any of its parts by flat_of_before) -/
def lw_At (p : Program) (s : State) (m : MethodId) (meth : Method) (c : Code) (b L : Nat) (xs : Nat → Int32) : Prop :=
  p.tables.exec = Jvm.exec ∧ c.code = code ∧ meth.sig.returnType = ret ∧ c.maxLocals = 4 ∧ s.vm.findClass R_law = some m.cls ∧ (∀ w ∈ lw_tbl, w.before #[Value.ref b] s = true) ∧ va_X b L xs s s.heap ∧ b < s.heap.size ∧ meth.locks = false ∧ (Jvm.Cond.and given_1 narrow_1).before #[Value.ref b] s = true
/-- what is left to show of a script: the interpreter answers 1 on it, within the room -/
def xLaw (X : List Int32) : Prop := ∃ (n : Nat) (h' : XHp), xrun X n 40 228 0 (xloc 228 [.ref xSC]) [] [] = some (some (.int 1), h') ∧ h'.length ≤ 600000 ∧ xsz h' ≤ 7302250
theorem xarrT {s : State} {args : Array Value} {ty : FieldType} (h : (Cond.arrayClass ty).before args s = true) : ∃ cA, ArrOfT s cA ty ∧ s.vm.findClass ("[" ++ ty.toString) = some cA := by
  obtain ⟨cA, kA, comp, h1, h2, h3⟩ := Cond.arrayClass_spec h
  exact ⟨cA, fun n z => ⟨fun k h => (by cases h), kA, h2, comp, h3⟩, h1⟩
theorem xarrO {s : State} {args : Array Value} {C : String} (h : (Cond.arrayOver (.object C)).before args s = true) : ∃ cA, ArrOfT s cA (.object C) ∧ va_RA s cA (.object C) := by
  obtain ⟨comp, cA, kA, h1, -, h2, h3, h4⟩ := Cond.arrayOver_spec h
  exact ⟨cA, fun n z => ⟨fun k h => (by cases h), kA, h2, comp, h3⟩, kA, comp, h2, h3, h1, h4⟩
set_option maxHeartbeats 4000000 in
theorem xstart {p : Program} {e : Env} {s : State} {m : MethodId} {below : List Frame} {meth : Method} {c : Code} (l : Launch) {b L : Nat} {xs : Nat → Int32} (hL : L ≤ 3072) (hlaw : ∀ X : List Int32, X.length ≤ 3072 → xLaw X) (C0 : lw_At p s m meth c b L xs) : W p l e room_1 s m #[Value.ref b] below meth c s.heap [] 0 0 (lw_Z below #[Value.ref b] s) (entryFrame m ([Value.ref b] : List Value).toArray 4) := by
  obtain ⟨hx, hb, hr, hml, hown, hts, hX, hbl, hlocks, hgv⟩ := id C0
  have hs : ∀ w ∈ xFL, w.before #[Value.ref b] s = true := flat_of_before _ hgv
  have htb : ∀ w ∈ tables_1, w.before #[Value.ref b] s = true := fun w h => hts w (List.mem_append_right _ h)
  have hA0 : ∀ a : Nat, a < s.heap.size → ¬ (fun q : Nat => s.heap.size ≤ q) a := fun a h => Nat.not_le.mpr h
  obtain ⟨adK, adV, hSS, htm⟩ := vk_Sof (tm := xtm) (len := xlenS) (byt := xbyt) (A := fun q : Nat => s.heap.size ≤ q) xs_ln (fun i hi => hs _ (xs_ex i hi)) (fun i hi => hs _ (xs_co i hi)) (fun i hi => hs _ (xs_ar i hi)) (fun i hi => hs _ (xs_le i hi)) (fun i hi j hj => hs _ (xs_el hi hj)) (fun i j hi hj hij => by
    rcases Nat.lt_or_ge i j with q | q
    · exact Or.inl (hs _ (xs_ne hj q))
    · exact Or.inr (hs _ (xs_ne hi (by omega)))) hA0
  have hZ1 := va_Zof (A := fun q : Nat => s.heap.size ≤ q) (htb _ xs_l1) (htb _ xs_i1) (va_eqi (hs _ xs_cs)) hA0
  obtain ⟨fv, hfv, hZ2⟩ : ∃ fv : Value, (fv = .null ∨ ∃ t, fv = .ref t) ∧ va_Z "jdk/internal/util/Preconditions" "SIOOBE_FORMATTER" "Ljava/util/function/BiFunction;" fv (fun q : Nat => s.heap.size ≤ q) s s.heap := by
    rcases va_Zqof (A := fun q : Nat => s.heap.size ≤ q) (htb _ xs_l2) (htb _ xs_i2) (hs _ xs_fm) hA0 with q | ⟨t, q⟩
    · exact ⟨_, Or.inl rfl, q⟩
    · exact ⟨_, Or.inr ⟨t, rfl⟩, q⟩
  obtain ⟨ad, had, hadK, hadV, hadS⟩ : ∃ ad : Nat → Nat, (∀ k, k < xSB → ad k = s.heap.size + k) ∧ (∀ i, i < 19 → ad (xSB + 2 * i) = adK i) ∧ (∀ i, i < 19 → ad (xSB + 2 * i + 1) = adV i) ∧ ad xSC = b := by
    refine ⟨fun k => if k < xSB then s.heap.size + k else if k = xSC then b else if k % 2 = 0 then adK ((k - xSB) / 2) else adV ((k - xSB) / 2), fun k hk => if_pos hk, fun i hi => ?_, fun i hi => ?_, ?_⟩
    · dsimp only
      unfold xSB xSC
      rw [if_neg (by omega), if_neg (by omega), if_pos (by omega), show (1000000 + 2 * i - 1000000) / 2 = i by omega]
    · dsimp only
      unfold xSB xSC
      rw [if_neg (by omega), if_neg (by omega), if_neg (by omega), show (1000000 + 2 * i + 1 - 1000000) / 2 = i by omega]
    · dsimp only
      rw [if_neg (by decide), if_pos rfl]
  obtain ⟨cI, hI1, hI2⟩ := xarrT (hts _ xarr_int)
  obtain ⟨cB, hB1, hB2⟩ := xarrT (hts _ xarr_byte)
  obtain ⟨cX, hX1, hX2⟩ := xarrO (hts _ xover_cross)
  obtain ⟨cY, hY1, hY2⟩ := xarrO (hts _ xover_street)
  have hcl : ∀ a : Nat, ∃ q : ClassId × (Nat → Nat), a < 13 → u_Kn s (xclN a) (xclT a) (xnf a) q.1 q.2 := by
    intro a
    by_cases ha : a < 13
    · obtain ⟨c1, i1, h1⟩ := u_known (C := xclN a) (T := xclT a) (N := xnf a) (n := xnf a) (ws := xtb) (args := #[Value.ref b]) (s := s) (fun w hw => hts w (List.mem_filter.mp hw).1) (xin_tbl ha) (hts _ (xinst_ok ha).1)
      exact ⟨(c1, i1), fun _ => h1⟩
    · exact ⟨(default, fun _ => 0), fun h => absurd h ha⟩
  obtain ⟨dd, hdd⟩ := Classical.axiomOfChoice hcl
  have hK : va_K (fun a => (dd a).1, fun a => (dd a).2) vwCl (xtyl (cI, cB, cX, cY)) s := by
    refine ⟨fun k q hq => ?_, fun k q hq => ?_⟩
    · have hk : k < 13 := (List.getElem?_eq_some_iff.mp hq).1
      rw [xcl_get hk] at hq
      cases hq
      exact hdd k hk
    · match k, hq with
      | 0, hq => cases hq; exact ⟨hI1, hI2⟩
      | 1, hq => cases hq; exact ⟨hB1, hB2⟩
      | 2, hq => cases hq; exact ⟨hX1, hX2⟩
      | 3, hq => cases hq; exact ⟨hY1, hY2⟩
      | k + 4, hq => simp [xtyl] at hq
  have hXl : ((List.range L).map xs).length = L := by simp
  obtain ⟨n, h', hrun, hh1, hh2⟩ := hlaw ((List.range L).map xs) (by rw [hXl]; exact hL)
  have hXX : va_X (ad xSC) ((List.range L).map xs).length (fun j => ((List.range L).map xs).getD j 0) s s.heap := by
    rw [hadS, hXl]
    obtain ⟨scr, q1, q2, q3, q4, q5⟩ := hX
    refine ⟨scr, q1, q2, q3, q4, fun j hj => ?_⟩
    rw [q5 j hj]
    simp [List.getD_eq_getElem?_getD, hj]
  have hSTR : xSTR ((List.range L).map xs) ad fv (fun q : Nat => s.heap.size ≤ q) s s.heap := by
    refine ⟨⟨fun i hi => ?_, fun i j hi hj q => ?_⟩, fun i q hi => ?_, hZ1, hZ2, hfv, hXX, by rw [hadS]; exact hbl, by rw [hadS]; exact hA0 b hbl, fun q hq hn => ?_, va_AO.of (hts _ xover_cross), va_AO.of (hts _ xover_street)⟩
    · have := hSS.1 i hi
      dsimp only
      rw [hadK i hi, hadV i hi]
      exact this
    · dsimp only at q
      rw [hadK i hi, hadK j hj] at q
      exact hSS.2 i j hi hj q
    · have hi19 : i < 19 := by
        have := (List.getElem?_eq_some_iff.mp hi).1
        rw [xstrN_ok.1] at this
        exact this
      have hg : xstrs.getD i ("", 0, "") = q := by rw [List.getD_eq_getElem?_getD, hi]; rfl
      have h1 := htb _ (xs_sr i hi19)
      have h2 := htm i hi19
      unfold xtm at h2
      rw [hg] at h1 h2
      rw [hadK i hi19]
      exact vk_R.of h1 h2
    · have := xLM_ok q hq
      unfold xwM at this
      obtain ⟨o, i, a, v⟩ := q
      dsimp only at this hn ⊢
      rw [if_neg hn] at this
      exact va_Nw.of rfl (hts _ this)
  have hl := xL_entry (ad := ad) hfv (z := 228) (as := [.ref xSC]) (by decide +kernel)
  have hent : entryFrame m ([Value.ref b] : List Value).toArray 4 = F0 m 0 ((lg_sl ([Value.ref xSC].map (xmv ad fv)) ++ List.replicate (xmx 228 - (lg_sl ([Value.ref xSC].map (xmv ad fv))).length) Slot.unset).toArray) [] := by
    rw [lg_entry_eq]
    simp only [List.map_cons, List.map_nil, xmv, hadS]
    rfl
  rw [hent]
  refine xsnd _ n 40 228 0 (xloc 228 [.ref xSC]) [] [] (some (.int 1)) h' hrun (R := room_1) (cells := 0) (slots := 0) (n0 := 0) (z0 := 0) (base := s.heap.size) (D := (fun a => (dd a).1, fun a => (dd a).2)) (tc := (cI, cB, cX, cY)) (A := fun q : Nat => s.heap.size ≤ q) (ad := ad) (fv := fv) (locs := []) ⟨hx, hb, hml, hown, fun w hw => hts w (List.mem_filter.mp hw).1, Nat.le_of_ble_eq_true rfl, Nat.le_of_ble_eq_true rfl, hK, fun _ h => h, hSTR, fun h => absurd h (by decide), rfl, had, fun _ h => h⟩ ⟨fun k q h => by simp [xwd] at h, ⟨fun i j p q h => by simp [xwd] at h, fun k q h => by simp [xwd] at h⟩, va_S.rf, hl⟩ (by decide +kernel) rfl rfl (by show _ ≤ 600000 + 0; omega) (by show _ ≤ 7302250 + 0; omega) (by decide) ?_
  intro H' locs' sl' pc' hP' hD' hS' hdec hrok
  refine va_forget hS'.2.2 ?_
  refine W.widen (k := 600000) (n := 7302250) (by omega) (by omega) ?_
  exact lw_ret hx hb hr hlocks hdec
