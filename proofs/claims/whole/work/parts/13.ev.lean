/-! runs of any length; a script that is never looked at -/
def xNO : List Int32 := List.replicate 4001 0
theorem xstep_X {X Y : List Int32} {k : XRow} {ls st : List Value} {h : XHp} {r : XSt} (hY : ¬ Y.length ≤ 4000) (e : xstep Y k ls st h = some r) : xstep X k ls st h = some r := by
  obtain ⟨pc, ins, len, a, b, v, w⟩ := k
  cases ins
  case iaload =>
    simp only [xstep] at e ⊢
    split at e
    next i o t =>
      split at e
      next hq =>
        rw [if_neg (fun z => hY z.2)] at e
        cases e
      next hq =>
        rw [if_neg hq]
        exact e
    next => cases e
  case arraylength =>
    simp only [xstep] at e ⊢
    split at e
    next o t =>
      split at e
      next hq => cases e
      next hq =>
        rw [if_neg hq]
        exact e
    next => cases e
  all_goals exact e
theorem xrun_X {X Y : List Int32} (hY : ¬ Y.length ≤ 4000) : ∀ (n : Nat) {d z pc : Nat} {ls st : List Value} {h : XHp} {r : Option Value × XHp}, xrun Y n d z pc ls st h = some r → xrun X n d z pc ls st h = some r
  | 0, d, z, pc, ls, st, h, r, e => by simp [xrun] at e
  | n + 1, d, z, pc, ls, st, h, r, e => by
    unfold xrun at e ⊢
    split at e
    next => cases e
    next k hk =>
      split at e
      next hc =>
        rw [if_pos hc]
        split at e
        next r' hr => exact e
        next => cases e
        next hr =>
          split at e
          next pc1 ls1 st1 h1 hs =>
            rw [xstep_X hY hs]
            exact xrun_X hY n e
          next => cases e
      next hc =>
        rw [if_neg hc]
        split at e
        next => cases e
        next d' =>
          split at e
          next hcond =>
            rw [if_pos hcond]
            split at e
            next r1 h1 hr1 =>
              rw [xrun_X hY n hr1]
              exact xrun_X hY n e
            next => cases e
          next => cases e
theorem xrun_up {X : List Int32} : ∀ (n m : Nat) {d d' z pc : Nat} {ls st : List Value} {h : XHp} {r : Option Value × XHp}, n ≤ m → d ≤ d' → xrun X n d z pc ls st h = some r → xrun X m d' z pc ls st h = some r
  | 0, m, d, d', z, pc, ls, st, h, r, _, _, e => by simp [xrun] at e
  | n + 1, m, d, d', z, pc, ls, st, h, r, hm, hd, e => by
    obtain ⟨m, rfl⟩ : ∃ k, m = k + 1 := ⟨m - 1, by omega⟩
    unfold xrun at e ⊢
    split at e
    next => cases e
    next k hk =>
      split at e
      next hc =>
        rw [if_pos hc]
        split at e
        next r' hr => exact e
        next => cases e
        next hr =>
          split at e
          next pc1 ls1 st1 h1 hs => exact xrun_up n m (by omega) hd e
          next => cases e
      next hc =>
        rw [if_neg hc]
        split at e
        next => cases e
        next d0 =>
          obtain ⟨d', rfl⟩ : ∃ k, d' = k + 1 := ⟨d' - 1, by omega⟩
          dsimp only
          split at e
          next hcond =>
            rw [if_pos hcond]
            split at e
            next r1 h1 hr1 =>
              rw [xrun_up n m (by omega) (by omega) hr1]
              exact xrun_up n m (by omega) hd e
            next => cases e
          next => cases e
/-- from here the method z ends with the answer r and the heap h' -/
def xEv (X : List Int32) (d z pc : Nat) (ls st : List Value) (h : XHp) (r : Option Value) (h' : XHp) : Prop := ∃ n, xrun X n d z pc ls st h = some (r, h')
theorem xEv.up {X : List Int32} {d d' z pc : Nat} {ls st : List Value} {h : XHp} {r : Option Value} {h' : XHp} (e : xEv X d z pc ls st h r h') (hd : d ≤ d') : xEv X d' z pc ls st h r h' := by
  obtain ⟨n, e⟩ := e
  exact ⟨n, xrun_up n n (Nat.le_refl _) hd e⟩
theorem xEv.of {X : List Int32} {n d z pc : Nat} {ls st : List Value} {h : XHp} {r : Option Value} {h' : XHp} (e : xrun xNO n d z pc ls st h = some (r, h')) : xEv X d z pc ls st h r h' := ⟨n, xrun_X (by decide +kernel) n e⟩
theorem xE_step {X : List Int32} {d z pc pc' : Nat} {ls ls' st st' : List Value} {h h1 : XHp} {r : Option Value} {h' : XHp} {k : XRow} (hk : xlook z pc = some k) (hc : xcall k = 0) (hr : ∀ rt, xret k rt st = none) (hs : xstep X k ls st h = some (pc', ls', st', h1)) (e : xEv X d z pc' ls' st' h1 r h') : xEv X d z pc ls st h r h' := by
  obtain ⟨n, e⟩ := e
  refine ⟨n + 1, ?_⟩
  unfold xrun
  rw [hk]
  dsimp only
  rw [if_pos hc, hr, hs]
  exact e
theorem xE_ret {X : List Int32} {d z pc : Nat} {ls st : List Value} {h : XHp} {r : Option Value} {k : XRow} (hk : xlook z pc = some k) (hc : xcall k = 0) (hr : xret k (xrt z) st = some (some r)) : xEv X d z pc ls st h r h := by
  refine ⟨1, ?_⟩
  unfold xrun
  rw [hk]
  dsimp only
  rw [if_pos hc, hr]
theorem xE_call {X : List Int32} {d dk z pc a b : Nat} {ls st as : List Value} {h h1 : XHp} {r r1 : Option Value} {h' : XHp} {k : XRow} (hk : xlook z pc = some k) (hc : ¬ xcall k = 0) (ha : k.2.2.2.1 = a) (hb : k.2.2.2.2.1 = b) (hd : dk < d) (hcond : xcall k < 4 ∧ b ≤ st.length ∧ ((st.drop b).map Value.category).sum ≤ 8 ∧ (xxp as).length ≤ xmx a ∧ xrec (xcall k) a h as = true) (has : (st.take b).reverse = as) (e1 : xEv X dk a 0 (xloc a as) [] h r1 h1) (e2 : xEv X d z (pc + 3) ls (r1.toList ++ st.drop b) h1 r h') : xEv X d z pc ls st h r h' := by
  obtain ⟨n1, e1⟩ := e1
  obtain ⟨n2, e2⟩ := e2
  obtain ⟨d, rfl⟩ : ∃ q, d = q + 1 := ⟨d - 1, by omega⟩
  refine ⟨n1 + n2 + 1, ?_⟩
  unfold xrun
  rw [hk]
  dsimp only
  rw [if_neg hc, ha, hb, has, if_pos hcond, xrun_up n1 (n1 + n2) (by omega) (by omega) e1]
  exact xrun_up n2 (n1 + n2) (by omega) (Nat.le_refl _) e2
