section JT2
variable {X : List Int32} {d : Nat} {F G H : XF} {t n : Nat}
/-! the questions, one by one -/
theorem mRun_J {T : Int → Int} (hT : mT T) (hn : n ≤ 2000) : mJ T (mRun T n) := (mRun_I hT n (by omega)).1.1
section QQ
variable {a b c : Int}
theorem j104 (hP : xPT F) (h : jJ F) (ha : inR a) (hb : inR b) : jR X 104 184 [.ref 0, vi a, vi b] [.ref 131, vi a, vi b] F := by
  obtain ⟨t, n, hN, hM, hW, hT, hA⟩ := h
  exact jR_q (v := aCar (F 132) (mS (F 132)) (mRun (F 132) n) a b) hN hM hW hT hA (fun Q q => k104 hP (by omega) ha hb hN (q F hP cAs.refl hN.1)) (fun G hG e m _ Q q => p184 hG (by omega) (by rw [e]; exact hN.1.2.2.2.1) m.2.2.2.2 (by rw [m.1, e]; exact mRun_J hN.1.2.2.2.1 hM.2.1) ha hb (by rw [m.1, e]; exact q))
theorem j105 (hP : xPT F) (h : jJ F) (ha : inR a) (hb : inR b) : jR X 105 186 [.ref 0, vi a, vi b] [.ref 131, vi a, vi b] F := by
  obtain ⟨t, n, hN, hM, hW, hT, hA⟩ := h
  exact jR_q (v := aCrossing (F 132) (mS (F 132)) (mRun (F 132) n) a b) hN hM hW hT hA (fun Q q => k105 hP (by omega) ha hb hN (q F hP cAs.refl hN.1)) (fun G hG e m _ Q q => p186 hG (by omega) (by rw [e]; exact hN.1.2.2.2.1) m.2.2.2.2 (by rw [m.1, e]; exact mRun_J hN.1.2.2.2.1 hM.2.1) ha hb (by rw [m.1, e]; exact q))
theorem j106 (hP : xPT F) (h : jJ F) (ha : inR a) (hb : inR b) : jR X 106 188 [.ref 0, vi a, vi b] [.ref 131, vi a, vi b] F := by
  obtain ⟨t, n, hN, hM, hW, hT, hA⟩ := h
  exact jR_q (v := aSection (F 132) (mS (F 132)) (mRun (F 132) n) a b) hN hM hW hT hA (fun Q q => k106 hP (by omega) ha hb hN (q F hP cAs.refl hN.1)) (fun G hG e m _ Q q => p188 hG (by omega) (by rw [e]; exact hN.1.2.2.2.1) m.2.2.2.2 ha hb (by rw [m.1, e]; exact q))
theorem j107 (hP : xPT F) (h : jJ F) (ha : inR a) (hb : inR b) : jR X 107 189 [.ref 0, vi a, vi b] [.ref 131, vi a, vi b] F := by
  obtain ⟨t, n, hN, hM, hW, hT, hA⟩ := h
  exact jR_q (v := aEvent (mEvs (F 132) n) a b) hN hM hW hT hA (fun Q q => k107 hP ha hb hN (q F hP cAs.refl hN.1)) (fun G hG e m _ Q q => p189 hG (by omega) m ha hb (by rw [e]; exact q))
theorem j108 (hP : xPT F) (h : jJ F) (ha : inR a) (hb : inR b) : jR X 108 190 [.ref 0, vi a, vi b] [.ref 131, vi a, vi b] F := by
  obtain ⟨t, n, hN, hM, hW, hT, hA⟩ := h
  exact jR_q (v := aNeed (F 132) (mS (F 132)) a b) hN hM hW hT hA (fun Q q => k108 hP (by omega) ha hb hN (q F hP cAs.refl hN.1)) (fun G hG e m _ Q q => p190 hG (by omega) (by rw [e]; exact hN.1.2.2.2.1) m.2.2.2.2 ha hb (by rw [e]; exact q))
theorem j109 (hP : xPT F) (h : jJ F) (ha : inR a) (hb : inR b) (hc : inR c) : jR X 109 192 [.ref 0, vi a, vi b, vi c] [.ref 131, vi a, vi b, vi c] F := by
  obtain ⟨t, n, hN, hM, hW, hT, hA⟩ := h
  exact jR_q (v := aPass (F 132) (mS (F 132)) a b c) hN hM hW hT hA (fun Q q => k109 hP (by omega) ha hb hc hN (q F hP cAs.refl hN.1)) (fun G hG e m _ Q q => p192 hG (by omega) (by rw [e]; exact hN.1.2.2.2.1) m.2.2.2.2 ha hb hc (by rw [e]; exact q))
theorem j110 (hP : xPT F) (h : jJ F) (ha : inR a) (hb : inR b) : jR X 110 193 [.ref 0, vi a, vi b] [.ref 131, vi a, vi b] F := by
  obtain ⟨t, n, hN, hM, hW, hT, hA⟩ := h
  exact jR_q (v := aOpen (F 132) a b) hN hM hW hT hA (fun Q q => k110 hP (by omega) ha hb hN.1 (q F hP cAs.refl hN.1)) (fun G hG e m _ Q q => p193 hG (by omega) (by rw [e]; exact hN.1.2.2.2.1) m.2.2.2.2 ha hb (by rw [e]; exact q))
theorem j111 (hP : xPT F) (h : jJ F) (ha : inR a) (hb : inR b) (hc : inR c) : jR X 111 194 [.ref 0, vi a, vi b, vi c] [.ref 131, vi a, vi b, vi c] F := by
  obtain ⟨t, n, hN, hM, hW, hT, hA⟩ := h
  exact jR_q (v := aWindow (F 132) a b c) hN hM hW hT hA (fun Q q => k111 hP (by omega) ha hb hc hN.1 (q F hP cAs.refl hN.1)) (fun G hG e m _ Q q => p194 hG (by omega) (by rw [e]; exact hN.1.2.2.2.1) m.2.2.2.2 ha hb hc (by rw [e]; exact q))
theorem j112 (hP : xPT F) (h : jJ F) : jR X 112 199 [.ref 0] [.ref 131] F := by
  obtain ⟨t, n, hN, hM, hW, hT, hA⟩ := h
  exact jR_q (v := mEnd (F 132)) hN hM hW hT hA (fun Q q => k112 hP (by omega) hN.1 q) (fun G hG e m _ Q q => p199 hG (by omega) (by rw [e]; exact hN.1.2.2.2.1) (by rw [e]; exact fun H a b c s => q H a b (by rw [e]; exact c) (by rw [e]; exact s)))
theorem j113 (hP : xPT F) (h : jJ F) (ha : inR a) (hb : inR b) : jR X 113 201 [.ref 0, vi a, vi b] [.ref 131, vi a, vi b] F := by
  obtain ⟨t, n, hN, hM, hW, hT, hA⟩ := h
  exact jR_q (v := aWhere (F 132) a b) hN hM hW hT hA (fun Q q => k113 hP (by omega) ha hb hN.1 q) (fun G hG e m _ Q q => p201 hG (by omega) (by rw [e]; exact hN.1.2.2.2.1) m.2.2.2.2 ha hb (by rw [e]; exact q))
theorem j114 (hP : xPT F) (h : jJ F) (ha : inR a) : jR X 114 202 [.ref 0, vi a] [.ref 131, vi a] F := by
  obtain ⟨t, n, hN, hM, hW, hT, hA⟩ := h
  exact jR_q (v := aWaits (F 132) a) hN hM hW hT hA (fun Q q => k114 hP (by omega) ha hN.1 q) (fun G hG e m _ Q q => p202 hG (by omega) (by rw [e]; exact hN.1.2.2.2.1) m.2.2.2.2 ha (by rw [e]; exact q))
theorem j115 (hP : xPT F) (h : jJ F) (ha : inR a) : jR X 115 203 [.ref 0, vi a] [.ref 131, vi a] F := by
  obtain ⟨t, n, hN, hM, hW, hT, hA⟩ := h
  exact jR_q (v := aStretch (F 132) a) hN hM hW hT hA (fun Q q => k115 hP (by omega) ha hN.1 q) (fun G hG e m _ Q q => p203 hG (by omega) (by rw [e]; exact hN.1.2.2.2.1) m.2.2.2.2 ha (by rw [e]; exact q))
theorem j116 (hP : xPT F) (h : jJ F) : jR X 116 205 [.ref 0] [.ref 131] F := by
  obtain ⟨t, n, hN, hM, hW, hT, hA⟩ := h
  exact jR_q (v := aFewest (F 132)) hN hM hW hT hA (fun Q q => k116 hP (by omega) hN.1 q) (fun G hG e m _ Q q => p205 hG (by omega) (by rw [e]; exact hN.1.2.2.2.1) m.2.2.2.2 (by rw [e]; exact q))
theorem j117 (hP : xPT F) (h : jJ F) (ha : inR a) (hb : inR b) : jR X 117 209 [.ref 0, vi a, vi b] [.ref 131, vi a, vi b] F := by
  obtain ⟨t, n, hN, hM, hW, hT, hA⟩ := h
  exact jR_q (v := aBest (F 132) a b) hN hM hW hT hA (fun Q q => k117 hP (by omega) ha hb hN.1 q) (fun G hG e m _ Q q => p209 hG (by omega) (by rw [e]; exact hN.1.2.2.2.1) m.2.2.2.2 ha hb (by rw [e]; exact q))
theorem j118 (hP : xPT F) (h : jJ F) (ha : inR a) (hb : inR b) : jR X 118 210 [.ref 0, vi a, vi b] [.ref 131, vi a, vi b] F := by
  obtain ⟨t, n, hN, hM, hW, hT, hA⟩ := h
  exact jR_q (v := aBestStart (F 132) a b) hN hM hW hT hA (fun Q q => k118 hP (by omega) ha hb hN.1 q) (fun G hG e m _ Q q => p210 hG (by omega) (by rw [e]; exact hN.1.2.2.2.1) m.2.2.2.2 ha hb (by rw [e]; exact q))
theorem j119 (hP : xPT F) (h : jJ F) (ha : inR a) (hb : inR b) (hc : inR c) : jR X 119 218 [.ref 0, vi a, vi b, vi c] [.ref 131, vi a, vi b, vi c] F := by
  obtain ⟨t, n, hN, hM, hW, hT, hA⟩ := h
  exact jR_q (v := aHarm (F 132) a b c) hN hM hW hT hA (fun Q q => k119 hP (by omega) ha hb hc hN.1 q) (fun G hG e m _ Q q => p218 hG (by omega) (by rw [e]; exact hN.1.2.2.2.1) (by rw [e]; exact hN.1.2.2.2.2.1) m.2.2.2.2 ha hb hc (by rw [e]; exact q))
theorem j120 (hP : xPT F) (h : jJ F) (ha : inR a) : jR X 120 212 [.ref 0, vi a] [.ref 131, vi a] F := by
  obtain ⟨t, n, hN, hM, hW, hT, hA⟩ := h
  exact jR_q (v := aSmooth (F 132) a) hN hM hW hT hA (fun Q q => k120 hP (by omega) ha hN.1 q) (fun G hG e m _ Q q => p212 hG (by omega) (by rw [e]; exact hN.1.2.2.2.1) m.2.2.2.2 ha (by rw [e]; exact q))
theorem j121 (hP : xPT F) (h : jJ F) (ha : inR a) (hb : inR b) : jR X 121 213 [.ref 0, vi a, vi b] [.ref 131, vi a, vi b] F := by
  obtain ⟨t, n, hN, hM, hW, hT, hA⟩ := h
  exact jR_q (v := aHeld (F 132) a b) hN hM hW hT hA (fun Q q => k121 hP (by omega) ha hb hN.1 q) (fun G hG e m _ Q q => p213 hG (by omega) (by rw [e]; exact hN.1.2.2.2.1) m.2.2.2.2 ha hb (by rw [e]; exact q))
theorem j122 (hP : xPT F) (h : jJ F) (ha : inR a) : jR X 122 214 [.ref 0, vi a] [.ref 131, vi a] F := by
  obtain ⟨t, n, hN, hM, hW, hT, hA⟩ := h
  exact jR_q (v := aSlowest (F 132) a) hN hM hW hT hA (fun Q q => k122 hP (by omega) ha hN.1 q) (fun G hG e m _ Q q => p214 hG (by omega) (by rw [e]; exact hN.1.2.2.2.1) m.2.2.2.2 ha (by rw [e]; exact q))
theorem j123 (hP : xPT F) (h : jJ F) (ha : inR a) : jR X 123 215 [.ref 0, vi a] [.ref 131, vi a] F := by
  obtain ⟨t, n, hN, hM, hW, hT, hA⟩ := h
  exact jR_q (v := aLongest (F 132) a) hN hM hW hT hA (fun Q q => k123 hP (by omega) ha hN.1 q) (fun G hG e m _ Q q => p215 hG (by omega) (by rw [e]; exact hN.1.2.2.2.1) m.2.2.2.2 ha (by rw [e]; exact q))
theorem j124 (hP : xPT F) (h : jJ F) (ha : inR a) : jR X 124 217 [.ref 0, vi a] [.ref 131, vi a] F := by
  obtain ⟨t, n, hN, hM, hW, hT, hA⟩ := h
  exact jR_q (v := aMarshals (F 132) a) hN hM hW hT hA (fun Q q => k124 hP (by omega) ha hN.1 q) (fun G hG e m _ Q q => p217 hG (by omega) (by rw [e]; exact hN.1.2.2.2.1) m.2.2.2.2 ha (by rw [e]; exact q))
theorem j127 (hP : xPT F) (h : jJ F) (ha : inR a) : jR X 127 220 [.ref 0, vi a] [.ref 131, vi a] F := by
  obtain ⟨t, n, hN, hM, hW, hT, hA⟩ := h
  exact jR_q (v := aCount (F 132) n (F 131 12) (F 131 4) a) hN hM hW hT hA (fun Q q => k127 hP ha hN hA.1.symm hT.1.symm (q F hP cAs.refl hN.1)) (fun G hG e m e1 Q q => p220 hG (by omega) (by rw [e]; exact hN.1.2.2.2.1) m ha (by rw [e, e1, e1]; exact q))
theorem j95 (hP : xPT F) (h : jJ F) (ha : inR a) : jR X 95 152 [.ref 0, vi a] [.ref 131, vi a] F := by
  obtain ⟨t, n, hN, hM, hW, hT, hA⟩ := h
  exact jR_q (v := aFault a (F 131 7) (F 131 8)) hN hM hW hT hA (fun Q q => k95 hP ha (by rw [← hT.2.2.2.1, ← hT.2.2.2.2]; exact q F hP cAs.refl hN.1)) (fun G hG e m e1 Q q => p152 hG m.2.2.2.2 ha (by rw [e1, e1]; exact q))
/-- the same for a long -/
def jRl (X : List Int32) (zc zr : Nat) (as bs : List Value) (F : XF) : Prop := ∃ R : Int → XF → Prop, xML X 20 zc as F R ∧ ∀ y G, xPT G → R y G → xML X 20 zr bs G (fun y2 H => y2 = y ∧ jJ H)
theorem j125 (hP : xPT F) (h : jJ F) (ha : inL a) (hb : inL b) : jRl X 125 219 [.ref 0, vl a, vl b] [.ref 131, vl a, vl b] F := by
  obtain ⟨t, n, hN, hM, hW, hT, hA⟩ := h
  refine ⟨fun y G => y = aPrice (F 132) a b ∧ cAs F G ∧ cO G t (F 132), k125 hP (by omega) ha hb hN.1 fun G hG a o => ⟨rfl, a, o⟩, fun y G hG z => ?_⟩
  obtain ⟨z1, f, o⟩ := z
  have e : G 132 = F 132 := funext fun i => f 132 i (by omega)
  have m : mNow G n := hM.of fun p i z => f p i (by omega)
  refine p219 hG (by omega) (by rw [e]; exact hN.1.2.2.2.1) m.2.2.2.2 ha hb fun H hH k e2 s => ⟨?_, jJ.q hN hM hW hT hA f o k e2 s⟩
  rw [z1, e]
end QQ
end JT2
section JT3
variable {X : List Int32} {d : Nat} {F G H : XF} {t n : Nat}
/-! the acts, one by one -/
theorem j97 {c : Int} (hP : xPT F) (h : jJ F) (hc : inR c) : jR X 97 156 [.ref 0, vi c] [.ref 131, vi c] F := by
  obtain ⟨t, n, hN, hM, hW, hT, hA⟩ := h
  have mT' := hN.1.2.2.2.1
  have h5 := mT'.2.2.2.2.2.1
  by_cases hq : 0 ≤ c ∧ c ≤ F 132 5 - 2
  · refine jR_a (v := mS (mSet (F 132) (108 + c) (1 - F 132 (108 + c))) 0 0) (T' := mSet (F 132) (108 + c) (1 - F 132 (108 + c))) (k := 0) (a := c) (b := 0) (c := 0) hN hM hW hT hA ?_ (fun i z => mSet_n (by omega)) (fun Q q => k97 hP (by omega) hc hN.1 hA.2.1 (fun z => absurd hq z) fun _ => q) (fun G hG e m e1 Q q => p156 hG (by omega) (by rw [e]; exact mT') (by rw [e1, hA.1]; exact hA.2.1) m.2.2.2.2 hc (fun z => absurd (by rw [e]; exact hq) z) fun _ => by rw [e]; exact q)
    exact Or.inl ⟨rfl, by omega, fun i z => (mSet_n z).symm, by rw [mSet_s]; omega⟩
  · exact jR_q (v := -2) hN hM hW hT hA (fun Q q => k97 hP (by omega) hc hN.1 hA.2.1 (fun _ => q F hP cAs.refl hN.1) fun z => absurd z hq) (fun G hG e m e1 Q q => p156 hG (by omega) (by rw [e]; exact mT') (by rw [e1, hA.1]; exact hA.2.1) m.2.2.2.2 hc (fun _ => q) fun z => absurd (by rw [e] at z; exact z) hq)
theorem j98 {c : Int} (hP : xPT F) (h : jJ F) (hc : inR c) : jR X 98 157 [.ref 0, vi c] [.ref 131, vi c] F := by
  obtain ⟨t, n, hN, hM, hW, hT, hA⟩ := h
  have mT' := hN.1.2.2.2.1
  by_cases hq : 0 ≤ c ∧ c ≤ 999
  · refine jR_a (v := F 132 3) (T' := mSet (F 132) 3 c) (k := 1) (a := F 132 3) (b := 0) (c := 0) hN hM hW hT hA ?_ (fun i z => mSet_n (by omega)) (fun Q q => k98 hP (by omega) hc hN.1 hA.2.1 (fun z => absurd hq z) fun _ => q) (fun G hG e m e1 Q q => p157 hG (by omega) (by rw [e]; exact mT') (by rw [e1, hA.1]; exact hA.2.1) m.2.2.2.2 hc (fun z => absurd hq z) fun _ => by rw [e]; exact q)
    exact Or.inr (Or.inl ⟨rfl, fun i z => (mSet_n z).symm, rfl⟩)
  · exact jR_q (v := -3) hN hM hW hT hA (fun Q q => k98 hP (by omega) hc hN.1 hA.2.1 (fun _ => q F hP cAs.refl hN.1) fun z => absurd z hq) (fun G hG e m e1 Q q => p157 hG (by omega) (by rw [e]; exact mT') (by rw [e1, hA.1]; exact hA.2.1) m.2.2.2.2 hc (fun _ => q) fun z => absurd z hq)
theorem j99 {c u k : Int} (hP : xPT F) (h : jJ F) (hc : inR c) (hu : inR u) (hk : inR k) : jR X 99 160 [.ref 0, vi c, vi u, vi k] [.ref 131, vi c, vi u, vi k] F := by
  obtain ⟨t, n, hN, hM, hW, hT, hA⟩ := h
  have mT' := hN.1.2.2.2.1
  have h6 := hN.1.2.2.2.2.1
  have h7 := mT'.2.2.2.2.2.2.2.1
  by_cases hq : 0 ≤ c ∧ c < F 132 5
  · by_cases hq2 : (0 ≤ u ∧ u ≤ 1999) ∧ (1 ≤ k ∧ k ≤ 500)
    · by_cases hq3 : F 132 7 = 6
      · exact jR_q (v := -4) hN hM hW hT hA (fun Q q => k99 hP (by omega) hc hu hk hN.1 hA.2.1 (fun z => absurd hq z) (fun _ z => absurd hq2 z) (fun _ _ _ => q F hP cAs.refl hN.1) (fun _ _ z => by omega)) (fun G hG e m e1 Q q => p160 hG (by omega) (by rw [e]; exact mT') (by rw [e]; exact h6) (by rw [e1, hA.1]; exact hA.2.1) m.2.2.2.2 hc hu hk (fun z => absurd (by rw [e]; exact hq) z) (fun _ z => absurd hq2 z) (fun _ _ _ => q) (fun _ _ z => absurd z (by rw [e]; omega)))
      · refine jR_a (v := F 132 7 + 1) (T' := mBrT (F 132) c u k) (k := 2) (a := 0) (b := 0) (c := 0) hN hM hW hT hA ?_ (fun i z => mBrT_o h7.1 (by omega) (by omega)) (fun Q q => k99 hP (by omega) hc hu hk hN.1 hA.2.1 (fun z => absurd hq z) (fun _ z => absurd hq2 z) (fun _ _ z => absurd z hq3) (fun _ _ _ => q)) (fun G hG e m e1 Q q => p160 hG (by omega) (by rw [e]; exact mT') (by rw [e]; exact h6) (by rw [e1, hA.1]; exact hA.2.1) m.2.2.2.2 hc hu hk (fun z => absurd (by rw [e]; exact hq) z) (fun _ z => absurd hq2 z) (fun _ _ z => absurd (by rw [e] at z; exact z) hq3) (fun _ _ _ => by rw [e]; exact q))
        refine Or.inr (Or.inr (Or.inl ⟨rfl, ?_, ?_, fun i z1 z2 => ?_⟩))
        · rw [mBrT_7]; omega
        · rw [mBrT_7]; omega
        · rw [mBrT_7] at z2
          exact (mBrT_o h7.1 z1 (by omega)).symm
    · exact jR_q (v := -3) hN hM hW hT hA (fun Q q => k99 hP (by omega) hc hu hk hN.1 hA.2.1 (fun z => absurd hq z) (fun _ _ => q F hP cAs.refl hN.1) (fun _ z => absurd z hq2) (fun _ z => absurd z hq2)) (fun G hG e m e1 Q q => p160 hG (by omega) (by rw [e]; exact mT') (by rw [e]; exact h6) (by rw [e1, hA.1]; exact hA.2.1) m.2.2.2.2 hc hu hk (fun z => absurd (by rw [e]; exact hq) z) (fun _ _ => q) (fun _ z => absurd z hq2) (fun _ z => absurd z hq2))
  · exact jR_q (v := -2) hN hM hW hT hA (fun Q q => k99 hP (by omega) hc hu hk hN.1 hA.2.1 (fun _ => q F hP cAs.refl hN.1) (fun z => absurd z hq) (fun z => absurd z hq) (fun z => absurd z hq)) (fun G hG e m e1 Q q => p160 hG (by omega) (by rw [e]; exact mT') (by rw [e]; exact h6) (by rw [e1, hA.1]; exact hA.2.1) m.2.2.2.2 hc hu hk (fun _ => q) (fun z => absurd (by rw [e] at z; exact z) hq) (fun z => absurd (by rw [e] at z; exact z) hq) (fun z => absurd (by rw [e] at z; exact z) hq))
theorem j100 (hP : xPT F) (h : jJ F) : jR X 100 161 [.ref 0] [.ref 131] F := by
  obtain ⟨t, n, hN, hM, hW, hT, hA⟩ := h
  have mT' := hN.1.2.2.2.1
  have h6 := hN.1.2.2.2.2.1
  have h7 := mT'.2.2.2.2.2.2.2.1
  by_cases hq : F 132 7 = 0
  · exact jR_q (v := -5) hN hM hW hT hA (fun Q q => k100 hP (by omega) hN.1 hA.2.1 (fun _ => q F hP cAs.refl hN.1) fun z => by omega) (fun G hG e m e1 Q q => p161 hG (by omega) (by rw [e]; exact mT') (by rw [e1, hA.1]; exact hA.2.1) m.2.2.2.2 (fun _ => q) fun z => absurd z (by rw [e]; omega))
  · refine jR_a (v := F 132 7 - 1) (T' := mSet (F 132) 7 (F 132 7 - 1)) (k := 3) (a := F 132 (142 + 3 * (F 132 7 - 1))) (b := F 132 (142 + 3 * (F 132 7 - 1) + 1)) (c := F 132 (142 + 3 * (F 132 7 - 1) + 2)) hN hM hW hT hA ?_ (fun i z => mSet_n (by omega)) (fun Q q => k100 hP (by omega) hN.1 hA.2.1 (fun z => absurd z hq) fun _ => q) (fun G hG e m e1 Q q => p161 hG (by omega) (by rw [e]; exact mT') (by rw [e1, hA.1]; exact hA.2.1) m.2.2.2.2 (fun z => absurd (by rw [e] at z; exact z) hq) fun _ => by rw [e]; exact q)
    refine Or.inr (Or.inr (Or.inr ⟨rfl, ?_, ?_, fun i z1 z2 => (mSet_n z1).symm, ?_, ?_, ?_⟩))
    · rw [mSet_s]; omega
    · rw [mSet_s]; omega
    · rw [mSet_s]
    · rw [mSet_s]
    · rw [mSet_s]
theorem j101 (hP : xPT F) (h : jJ F) : jR X 101 162 [.ref 0] [.ref 131] F := by
  obtain ⟨t, n, hN, hM, hW, hT, hA⟩ := h
  have mT' := hN.1.2.2.2.1
  by_cases hq : F 37 0 = 0
  · exact jR_q (v := -5) hN hM hW hT hA (fun Q q => k101 (T' := F 132) (k := 0) (a := 0) (b := 0) (c := 0) hP (by omega) hN.1 hA.2.1 (fun _ => q F hP cAs.refl hN.1) fun z => by omega) (fun G hG e m e1 Q q => p162 hG (by omega) (by rw [e1, hA.1]; exact hA.2.1) m.2.2.2.2 (fun z => absurd z (by rw [e1, hA.1]; omega)) (fun _ => q) fun z => absurd z (by rw [e1, hA.1]; omega))
  · have h0 := hN.1.to
    have tb := xob9 h0.2.1
    have t3 := h0.2.2.1
    obtain ⟨A1, A2, A3⟩ := hA
    have al := A3 (F 37 0 - 1) (by omega) (by omega)
    have ej : jS F (F 37 0 - 1 + 1) = F 132 := by
      unfold jS
      rw [if_pos (by omega)]
    rw [ej] at al
    refine ⟨fun y G => y = F 37 0 - 1 ∧ (∀ p i, ¬ (t ≤ p ∧ p < t + 17) → ¬ (37 ≤ p ∧ p ≤ 130) → G p i = F p i) ∧ G 37 0 = F 37 0 - 1 ∧ (∀ j, cEq F G j j) ∧ cN G t (mSnap F (F 37 0 - 1)) 0, k101 (T' := mSnap F (F 37 0 - 1)) hP (by omega) hN.1 A2 (fun z => absurd z hq) (fun _ => ⟨⟨⟨rfl, rfl, rfl, rfl⟩, al.2.2, al.1, al.2.1⟩, fun G hG f g7 ce nG => ⟨rfl, f, g7, ce, nG⟩⟩), fun y G hG z => ?_⟩
    obtain ⟨z1, f, g7, ce, nG⟩ := z
    have g2 : ∀ i, G 132 i = F 132 i := fun i => f 132 i (by omega) (by omega)
    have g5 : ∀ i, G 135 i = F 135 i := fun i => f 135 i (by omega) (by omega)
    have g12 : G 131 12 = F 37 0 := (f 131 12 (by omega) (by omega)).trans A1
    have sn : ∀ j, mSnap G j = mSnap F j := fun j => mSnap_e (fun i _ _ => g5 _) fun i _ => g2 i
    have m : mNow G n := hM.of fun p i z => f p i (by omega) (by omega)
    refine p162 hG (by omega) (by rw [g12]; exact A2) m.2.2.2.2 (fun _ => by rw [g12, sn]; exact al.1) (fun z => absurd (by rw [g12] at z; exact z) hq) fun _ H hH kr h12 h5 h2 hm => ⟨by rw [z1, g12], ?_⟩
    rw [g12] at h12 h2
    rw [sn] at h2
    have lg : ∀ p i, p < 131 → H p i = G p i := fun p i z => kr.1 p i (by omega)
    have l : ∀ p i, p < 37 → ¬ (t ≤ p ∧ p < t + 17) → H p i = F p i := fun p i z1 z2 => by rw [lg p i (by omega), f p i z2 (by omega)]
    have m1 : ∀ i, ¬ i = 0 → ¬ i = 12 → ¬ i = 17 → ¬ i = 20 → ¬ i = 21 → ¬ i = 22 → H 131 i = F 131 i := fun i h0 h1 h2 h3 h4 h5 => by rw [kr.2 i h0 h1 h2 h3 h4 h5, f 131 i (by omega) (by omega)]
    have o2 : ∀ i, ¬ (0 ≤ i ∧ i < 163) → H 132 i = F 132 i := fun i z => by
      rw [h2]
      unfold mSnap
      rw [if_neg z]
    have sH : ∀ j, mSnap H j = mSnap F j := fun j => mSnap_e (fun i _ _ => by rw [h5, g5]) o2
    have h37 : H 37 0 = F 37 0 - 1 := (lg 37 0 (by omega)).trans g7
    refine ⟨t, 0, ?_, hm, ?_, ?_, ?_⟩
    · rw [h2]
      exact nG.of lg
    · obtain ⟨u, w⟩ := hW
      exact ⟨u, by rw [l 18 5 (by omega) (by omega)]; exact w.1, w.2⟩
    · refine hT.of fun p i z => ?_
      rcases z with z | z | z | z
      · exact l p i (by omega) (by omega)
      · rw [kr.1 p i (by omega), f p i (by omega) (by omega)]
      · exact l p i (by omega) (by omega)
      · rw [z.1]; exact m1 i (by omega) (by omega) (by omega) (by omega) (by omega) (by omega)
    · unfold jAc
      rw [h37, h12]
      refine ⟨rfl, by omega, fun j x y => ?_⟩
      have q := A3 j x (by omega)
      have e2 : jS H (j + 1) = jS F (j + 1) := by
        unfold jS
        rw [h37, if_neg (show ¬ j + 1 = F 37 0 by omega)]
        by_cases z : j + 1 = F 37 0 - 1
        · rw [if_pos z, h2, z]
        · rw [if_neg z, sH]
      have c1 := ce j
      rw [sH, e2, lg 38 _ (by omega), lg 39 _ (by omega), lg 40 _ (by omega), lg 41 _ (by omega), c1.1, c1.2.1, c1.2.2.1, c1.2.2.2]
      exact q
/-- the run goes on, or begins again -/
theorem jR_r {zc zr : Nat} {as bs : List Value} {v : Int} {m : Nat} (hM : mNow F n) (hW : jTw F t) (hT : jTp F) (hA : jAc F) (hc : ∀ Q : Int → XF → Prop, (∀ G, xPT G → (∀ p i, ¬ (42 ≤ p ∧ p < 70) → G p i = F p i) → cN G t (F 132) m → Q v G) → xMI X 20 zc as F Q) (hr : ∀ G, xPT G → G 132 = F 132 → mNow G n → ∀ Q : Int → XF → Prop, (∀ H, xPT H → mKr G H → mNow H m → Q v H) → xMI X 20 zr bs G Q) : jR X zc zr as bs F := by
  refine ⟨fun y G => y = v ∧ (∀ p i, ¬ (42 ≤ p ∧ p < 70) → G p i = F p i) ∧ cN G t (F 132) m, hc _ fun G hG f nG => ⟨rfl, f, nG⟩, fun y G hG z => ?_⟩
  obtain ⟨z1, f, nG⟩ := z
  exact hr G hG (funext fun i => f 132 i (by omega)) (hM.of fun p i z => f p i (by omega)) _ fun H hH k hm => ⟨z1.symm, jJ.r hW hT hA f nG k hm⟩
theorem j102 {c : Int} (hP : xPT F) (h : jJ F) (hc : inR c) : jR X 102 182 [.ref 0, vi c] [.ref 131, vi c] F := by
  obtain ⟨t, n, hN, hM, hW, hT, hA⟩ := h
  have mT' := hN.1.2.2.2.1
  by_cases hq : 0 ≤ c ∧ c ≤ 2000
  · exact jR_r (v := ((min (n + c.toNat) 2000 : Nat) : Int)) (m := min (n + c.toNat) 2000) hM hW hT hA (fun Q q => k102 hP (by omega) hc hN (fun z => absurd hq z) fun _ => q) (fun G hG e m Q q => p182 hG (by omega) (by rw [e]; exact mT') m hc (fun z => absurd hq z) fun _ => q)
  · exact jR_r (v := -3) (m := n) hM hW hT hA (fun Q q => k102 hP (by omega) hc hN (fun _ => q F hP (fun _ _ _ => rfl) hN) fun z => absurd z hq) (fun G hG e m Q q => p182 hG (by omega) (by rw [e]; exact mT') m hc (fun _ => q) fun z => absurd z hq)
theorem j103 (hP : xPT F) (h : jJ F) : jR X 103 183 [.ref 0] [.ref 131] F := by
  obtain ⟨t, n, hN, hM, hW, hT, hA⟩ := h
  have mT' := hN.1.2.2.2.1
  exact jR_r (v := (n : Int)) (m := 0) hM hW hT hA (fun Q q => k103 hP (by omega) hN q) (fun G hG e m Q q => p183 hG (by omega) (by rw [e]; exact mT') m q)
theorem cN.o2 {T : Int → Int} (h : cN F t T n) (e : ∀ p i, (p = 0 ∨ (t ≤ p ∧ p < t + 17) ∨ (42 ≤ p ∧ p < 131)) → G p i = F p i) : cN G t T n := by
  obtain ⟨o1, o2, o3, o4, o5, o6, o7, o8⟩ := h.1
  exact h.as ⟨by rw [e 0 0 (by omega)]; exact o1, o2, o3, o4, o5, o6.of o4 fun p i z => e p i (by omega), o7.of fun p i z => e p i (by omega), o8.of (e 104 1 (by omega)) fun p i z => e p i (by omega)⟩ fun p i z => e p i (by omega)
/-- feed -/
theorem j93 {a b c e g : Int} (hP : xPT F) (h : jJ F) : jR X 93 135 [.ref 0, vi a, vi b, vi c, vi e, vi g] [.ref 131, vi a, vi b, vi c, vi e, vi g] F := by
  obtain ⟨t, n, hN, hM, hW, hT, hA⟩ := h
  have h0 := hN.1.to
  have tb := xob9 h0.2.1
  have t3 := h0.2.2.1
  obtain ⟨T1, T2, T3, T4, T5⟩ := id hT
  by_cases hq : F 18 0 + 20 ≤ 600
  · refine ⟨fun y G => y = F 18 0 + 20 ∧ (∀ p i, ¬ p = 19 → ¬ (p = 18 ∧ i = 0) → G p i = F p i) ∧ (∀ i, ¬ (F 18 0 ≤ i ∧ i < F 18 0 + 20) → G 19 i = F 19 i) ∧ G 18 0 = F 18 0 + 20 ∧ (∀ k, 0 ≤ k → k < 20 → G 19 (F 18 0 + k) = gB a b c e g k), k93 hP (by omega) T2 (fun z => by omega) (fun _ G hG f o g0 gb => ⟨rfl, f, o, g0, gb⟩), fun y G hG z => ?_⟩
    obtain ⟨z1, f, o, g0, gb⟩ := z
    have m : mNow G n := hM.of fun p i z => f p i (by omega) (by omega)
    have g4 : G 131 4 = F 18 0 := (f 131 4 (by omega) (by omega)).trans T1
    refine p135 hG (by rw [g4]; exact T2) m.2.2.2.2 (fun z => by rw [g4] at z; omega) fun _ H hH k o2 h4 hb => ⟨by rw [z1, g4], ?_⟩
    rw [g4] at o2 h4 hb
    have l : ∀ p i, p < 131 → H p i = G p i := fun p i z => k p i (by omega) (by omega)
    have e2 : H 132 = G 132 := funext fun i => k 132 i (by omega) (by omega)
    have e2' : H 132 = F 132 := e2.trans (funext fun i => f 132 i (by omega) (by omega))
    have es : ∀ p, 136 ≤ p → H p = G p := fun p hp => funext fun i => k p i (by omega) (by omega)
    refine ⟨t, n, ?_, m.k e2 (fun i _ _ => k 140 i (by omega) (by omega)) (k 131 20 (by omega) (by omega)) (fun i => k 141 i (by omega) (by omega)) (m.2.2.2.2.of e2 ⟨es 136 (by omega), es 137 (by omega), es 138 (by omega), es 139 (by omega), k 131 17 (by omega) (by omega)⟩), ?_, ⟨?_, ?_, fun i x y => ?_, ?_, ?_⟩, ?_⟩
    · rw [e2']
      exact hN.o2 fun p i z => by rw [l p i (by omega), f p i (by omega) (by omega)]
    · obtain ⟨u, w⟩ := hW
      exact ⟨u, by rw [l 18 5 (by omega), f 18 5 (by omega) (by omega)]; exact w.1, w.2⟩
    · rw [h4, l 18 0 (by omega), g0]
    · rw [l 18 0 (by omega), g0]; omega
    · rw [l 18 0 (by omega), g0] at y
      rw [l 19 i (by omega)]
      by_cases hi : i < F 18 0
      · rw [o2 i (by omega), o i (by omega), f 134 i (by omega) (by omega)]
        exact T3 i x hi
      · have b1 := hb (i - F 18 0) (by omega) (by omega)
        have b2 := gb (i - F 18 0) (by omega) (by omega)
        rw [show F 18 0 + (i - F 18 0) = i by omega] at b1 b2
        rw [b1, b2]
        exact gB_f (by omega)
    · rw [l 18 1 (by omega), f 18 1 (by omega) (by omega), k 131 7 (by omega) (by omega), f 131 7 (by omega) (by omega)]; exact T4
    · rw [l 18 2 (by omega), f 18 2 (by omega) (by omega), k 131 8 (by omega) (by omega), f 131 8 (by omega) (by omega)]; exact T5
    · refine hA.of fun p i z => ?_
      rcases z with z | z | z | z
      · rw [z, e2']
      · rw [z, k 135 i (by omega) (by omega), f 135 i (by omega) (by omega)]
      · rw [l p i (by omega), f p i (by omega) (by omega)]
      · rw [z.1, z.2, k 131 12 (by omega) (by omega), f 131 12 (by omega) (by omega)]
  · exact jR_q (v := -4) hN hM hW hT hA (fun Q q => k93 hP (by omega) T2 (fun _ => q F hP cAs.refl hN.1) fun z => absurd z hq) (fun G hG e m e1 Q q => p135 hG (by rw [e1, T1]; exact T2) m.2.2.2.2 (fun _ => q) fun z => absurd (by rw [e1, T1] at z; exact z) hq)
/-- tell -/
theorem j94 {N : Int} (hP : xPT F) (h : jJ F) (hN' : inR N) : jR X 94 151 [.ref 0, vi N] [.ref 131, vi N] F := by
  obtain ⟨t, n, hN, hM, hW, hT, hA⟩ := h
  have h0 := hN.1.to
  have tb := xob9 h0.2.1
  have t3 := h0.2.2.1
  obtain ⟨T1, T2, T3, T4, T5⟩ := id hT
  obtain ⟨u, w1, w2, w3, w4⟩ := id hW
  have ub := xob9 w2
  have hb : ∀ i, 0 ≤ i → i < F 18 0 → (0 ≤ F 19 i ∧ F 19 i ≤ 255) ∧ F 19 i = F 19 i := fun i x y => by
    have := T3 i x y
    refine ⟨?_, rfl⟩
    rw [this.2]
    split <;> omega
  by_cases hq : 0 ≤ N ∧ N ≤ F 18 0
  · cases hr : rTold (F 19) N (F 133) with
    | error z =>
      refine ⟨fun y G => y = -30 - z.1 ∧ (∀ p i, ¬ (u ≤ p ∧ p < u + 17) → ¬ p = 18 → G p i = F p i) ∧ G 18 0 = 0 ∧ G 18 5 = (u : Int) ∧ G 18 1 = z.1 ∧ G 18 2 = z.2, k94 (U := F 19) (t := u) (u := t) hP (by omega) hN' w2 h0.2.1 w3 w1 h0.1 T2 hb (fun y => absurd hq y) (fun _ z' hz G hG f g0 g5 g1 g2 _ _ => ?_) (fun _ a ha => ?_), fun y G hG q => ?_⟩
      · rw [hr] at hz
        cases hz
        exact ⟨rfl, f, g0, g5, g1, g2⟩
      · rw [hr] at ha
        cases ha
      · obtain ⟨z1, f, g0, g5, g1, g2⟩ := q
        have ff : ∀ p i, 37 ≤ p → G p i = F p i := fun p i z => f p i (by omega) (by omega)
        have m : mNow G n := hM.of fun p i z => ff p i (by omega)
        have g4 : G 131 4 = F 18 0 := (ff 131 4 (by omega)).trans T1
        have g133 : G 133 = F 133 := funext fun i => ff 133 i (by omega)
        refine p151 (U := F 19) hG (by omega) hN' (by rw [g4]; exact T2) (fun i x y => by rw [g4] at y; rw [ff 134 i (by omega)]; exact T3 i x y) m.2.2.2.2 (fun y => absurd (by rw [g4]; exact hq) y) (fun _ z' hz H hH k h4 h7 h8 _ _ => ?_) (fun _ a ha => ?_)
        · rw [g133, hr] at hz
          cases hz
          refine ⟨z1.symm, ?_⟩
          have l : ∀ p i, p < 131 → H p i = G p i := fun p i z => k p i (by omega) (by omega)
          have e2 : H 132 = G 132 := funext fun i => k 132 i (by omega) (by omega)
          have e2' : H 132 = F 132 := e2.trans (funext fun i => ff 132 i (by omega))
          have es : ∀ p, 136 ≤ p → H p = G p := fun p hp => funext fun i => k p i (by omega) (by omega)
          refine ⟨t, n, ?_, m.k e2 (fun i _ _ => k 140 i (by omega) (by omega)) (k 131 20 (by omega) (by omega)) (fun i => k 141 i (by omega) (by omega)) (m.2.2.2.2.of e2 ⟨es 136 (by omega), es 137 (by omega), es 138 (by omega), es 139 (by omega), k 131 17 (by omega) (by omega)⟩), ⟨u, by rw [l 18 5 (by omega)]; exact g5, w2, w3, w4⟩, ⟨?_, ?_, fun i x y => ?_, ?_, ?_⟩, ?_⟩
          · rw [e2']
            exact hN.o2 fun p i z => by rw [l p i (by omega), f p i (by omega) (by omega)]
          · rw [h4, l 18 0 (by omega), g0]
          · rw [l 18 0 (by omega), g0]; omega
          · rw [l 18 0 (by omega), g0] at y
            omega
          · rw [h7, l 18 1 (by omega), g1]
          · rw [h8, l 18 2 (by omega), g2]
          · refine hA.of fun p i z => ?_
            rcases z with z | z | z | z
            · rw [z, e2']
            · rw [z, k 135 i (by omega) (by omega), ff 135 i (by omega)]
            · rw [l p i (by omega), ff p i (by omega)]
            · rw [z.1, z.2, k 131 12 (by omega) (by omega), ff 131 12 (by omega)]
        · rw [g133, hr] at ha
          cases ha
    | ok a =>
      refine ⟨fun y G => y = a.2 ∧ (∀ p i, 131 ≤ p → G p i = F p i) ∧ G 18 0 = 0 ∧ G 18 5 = (t : Int) ∧ G 18 1 = 0 ∧ G 18 2 = -1 ∧ G 37 0 = 0 ∧ cN G u (rTo F a.1) 0, k94 (U := F 19) (t := u) (u := t) hP (by omega) hN' w2 h0.2.1 w3 w1 h0.1 T2 hb (fun y => absurd hq y) (fun _ z' hz => ?_) (fun _ a' ha G hG f g0 g5 g1 g2 g37 nG => ?_), fun y G hG q => ?_⟩
      · rw [hr] at hz
        cases hz
      · rw [hr] at ha
        cases ha
        exact ⟨rfl, f, g0, g5, g1, g2, g37, nG⟩
      · obtain ⟨z1, f, g0, g5, g1, g2, g37, nG⟩ := q
        have m : mNow G n := hM.of fun p i z => f p i (by omega)
        have g4 : G 131 4 = F 18 0 := (f 131 4 (by omega)).trans T1
        have g133 : G 133 = F 133 := funext fun i => f 133 i (by omega)
        refine p151 (U := F 19) hG (by omega) hN' (by rw [g4]; exact T2) (fun i x y => by rw [g4] at y; rw [f 134 i (by omega)]; exact T3 i x y) m.2.2.2.2 (fun y => absurd (by rw [g4]; exact hq) y) (fun _ z' hz => ?_) (fun _ a' ha _ _ H hH k k1 h4 h7 h8 h12 h2 hm => ?_)
        · rw [g133, hr] at hz
          cases hz
        · rw [g133, hr] at ha
          cases ha
          refine ⟨z1.symm, ?_⟩
          have l : ∀ p i, p < 131 → H p i = G p i := fun p i z => k p i (by omega)
          have e2 : H 132 = rTo F a.1 := by
            rw [h2]
            funext i
            unfold rTo
            rw [f 132 i (by omega)]
          refine ⟨u, 0, ?_, hm, ⟨t, by rw [l 18 5 (by omega)]; exact g5, h0.2.1, t3, fun z => w4 z.symm⟩, ⟨?_, ?_, fun i x y => ?_, ?_, ?_⟩, ?_⟩
          · rw [e2]
            exact nG.of l
          · rw [h4, l 18 0 (by omega), g0]
          · rw [l 18 0 (by omega), g0]; omega
          · rw [l 18 0 (by omega), g0] at y
            omega
          · rw [h7, l 18 1 (by omega), g1]
          · rw [h8, l 18 2 (by omega), g2]
          · unfold jAc
            rw [h12, l 37 0 (by omega), g37]
            exact ⟨rfl, by omega, fun j x y => by omega⟩
  · refine ⟨fun y G => y = -3 ∧ G = F, k94 (U := F 19) (t := u) (u := t) hP (by omega) hN' w2 h0.2.1 w3 w1 h0.1 T2 hb (fun _ => ⟨rfl, rfl⟩) (fun z => absurd z hq) (fun z => absurd z hq), fun y G hG z => ?_⟩
    obtain ⟨z1, z2⟩ := z
    subst z2
    exact p151 (U := G 19) hG (by omega) hN' (by rw [T1]; exact T2) (fun i x y => T3 i x (by rw [T1] at y; exact y)) hM.2.2.2.2 (fun _ H hH k e s => ⟨z1.symm, jJ.q hN hM hW hT hA cAs.refl hN.1 k e s⟩) (fun z => absurd (by rw [T1] at z; exact z) hq) (fun z => absurd (by rw [T1] at z; exact z) hq)
end JT3
