section JT4
variable {X : List Int32} {d : Nat} {F : XF}
/-! the law's loop -/
theorem xMI_n {z : Nat} {as : List Value} {Q : Int → XF → Prop} (h : xMI X d z as F (fun y G => Q ((Int32.ofInt y).toInt) G)) : xMI X d z as F Q := by
  obtain ⟨r, F', e, hP, y, hy, hq⟩ := h
  refine ⟨r, F', e, hP, (Int32.ofInt y).toInt, ?_, hq⟩
  rw [hy]
  show some (Value.int (Int32.ofInt y)) = some (Value.int (Int32.ofInt ((Int32.ofInt y).toInt)))
  rw [Int32.ofInt_toInt]
theorem xML_n {z : Nat} {as : List Value} {Q : Int → XF → Prop} (h : xML X d z as F (fun y G => Q ((Int64.ofInt y).toInt) G)) : xML X d z as F Q := by
  obtain ⟨r, F', e, hP, y, hy, hq⟩ := h
  refine ⟨r, F', e, hP, (Int64.ofInt y).toInt, ?_, hq⟩
  rw [hy]
  show some (Value.long (Int64.ofInt y)) = some (Value.long (Int64.ofInt ((Int64.ofInt y).toInt)))
  rw [Int64.ofInt_toInt]
theorem xno_r {y : Int} : inR (Int32.ofInt y).toInt := ⟨Int32.le_toInt _, Int32.toInt_le _⟩
theorem xnl_r {y : Int} : inL (Int64.ofInt y).toInt := ⟨Int64.le_toInt _, Int64.toInt_le _⟩
theorem jP {zc zr : Nat} {as bs : List Value} {W Q : Int → XF → Prop} {L : XF → Prop} (h : jR X zc zr as bs F) (hd : 20 < d) (k : ∀ H, xPT H → jJ H → L H) (hW : ∀ y G, (∃ j2, j2 < d ∧ xMI X j2 zr bs G (fun y2 G2 => inR y ∧ inR y2 ∧ ((y = y2 → (xPT G2 → L G2)) ∧ (¬ y = y2 → (xPT G2 → Q 0 G2))))) → W y G) : ∃ j1, j1 < d ∧ xMI X j1 zc as F W := by
  obtain ⟨R, h1, h2⟩ := h
  refine ⟨20, hd, xMI_n (h1.monoI fun y G hG hR => hW _ G ⟨20, hd, xMI_n ((h2 y G hG hR).monoI fun y2 H hH hj => ⟨xno_r, xno_r, fun _ _ => k H hH hj.2, fun c => absurd (by rw [hj.1]) c⟩)⟩)⟩
theorem jPl {zc zr : Nat} {as bs : List Value} {W Q : Int → XF → Prop} {L : XF → Prop} (h : jRl X zc zr as bs F) (hd : 20 < d) (k : ∀ H, xPT H → jJ H → L H) (hW : ∀ y G, (∃ j2, j2 < d ∧ xML X j2 zr bs G (fun y2 G2 => inL y ∧ inL y2 ∧ (inR (xcmp y y2) ∧ ((xcmp y y2 = 0 → (xPT G2 → L G2)) ∧ (¬ xcmp y y2 = 0 → (xPT G2 → Q 0 G2)))))) → W y G) : ∃ j1, j1 < d ∧ xML X j1 zc as F W := by
  obtain ⟨R, h1, h2⟩ := h
  have xx : ∀ y, xcmp y y = 0 := fun y => by
    unfold xcmp
    rw [if_neg (by omega), if_pos rfl]
  refine ⟨20, hd, xML_n (h1.monoL fun y G hG hR => hW _ G ⟨20, hd, xML_n ((h2 y G hG hR).monoL fun y2 H hH hj => ⟨xnl_r, xnl_r, xcmp_r, fun _ _ => k H hH hj.2, fun c => absurd (by rw [hj.1, xx]) c⟩)⟩)⟩
theorem xlor_r {a b : Int} : inL (xlor a b) := ⟨Int64.le_toInt _, Int64.toInt_le _⟩
theorem l228 (hd : 20 < d) (hX : X.length ≤ 4000) : ∀ (f : Nat) (i : Int) (F : XF), 0 ≤ i → i ≤ 5000 → (X.length : Int) < i + 6 + 6 * f → xPT F → jJ F → xW X d 228 18 [.ref xSC, .ref 0, .ref 131, vi i] [] F (xqi (fun y _ => y = 1)) := by
  intro f
  induction f with
  | zero =>
    intro i F h0 h1 hl hP hj
    exact s228_18 hP hX ⟨⟨by omega, by omega⟩, ⟨by omega, by omega⟩, fun _ _ => rfl, fun c => absurd (by omega) c⟩
  | succ f ih =>
    intro i F h0 h1 hl hP hj
    by_cases hc : (X.length : Int) - 6 < i
    · exact s228_18 hP hX ⟨⟨by omega, by omega⟩, ⟨by omega, by omega⟩, fun _ _ => rfl, fun c => absurd hc c⟩
    have k : ∀ H, xPT H → jJ H → xW X d 228 18 [.ref xSC, .ref 0, .ref 131, vi (i + 6)] [] H (xqi (fun y _ => y = 1)) := fun H hH hJ => ih (i + 6) H (by omega) (by omega) (by omega) hH hJ
    have r : ∀ j, inR (xsc X j) := xsc_R X
    have b1 : 0 ≤ i + 1 ∧ i + 1 < (X.length : Int) := by omega
    have b2 : 0 ≤ i + 2 ∧ i + 2 < (X.length : Int) := by omega
    have b3 : 0 ≤ i + 3 ∧ i + 3 < (X.length : Int) := by omega
    have b4 : 0 ≤ i + 4 ∧ i + 4 < (X.length : Int) := by omega
    have b5 : 0 ≤ i + 5 ∧ i + 5 < (X.length : Int) := by omega
    refine s228_18 hP hX ⟨⟨by omega, by omega⟩, ⟨by omega, by omega⟩, fun c => absurd c hc, fun _ => ⟨⟨by omega, by omega⟩, xand_r, fun _ _ => k F hP hj, ?_⟩⟩
    refine ⟨fun _ => ⟨b1, b2, b3, b4, b5, jP (Q := fun y _ => y = 1) (j93 hP hj) hd k fun _ _ h => ⟨b1, b2, b3, b4, b5, h⟩⟩, ?_⟩
    refine ⟨fun _ => ⟨b1, jP (Q := fun y _ => y = 1) (j94 hP hj (r _)) hd k fun _ _ h => ⟨b1, h⟩⟩, ?_⟩
    refine ⟨fun _ => ⟨b1, jP (Q := fun y _ => y = 1) (j95 hP hj (r _)) hd k fun _ _ h => ⟨b1, h⟩⟩, ?_⟩
    refine ⟨fun _ => ⟨b1, jP (Q := fun y _ => y = 1) (j97 hP hj (r _)) hd k fun _ _ h => ⟨b1, h⟩⟩, ?_⟩
    refine ⟨fun _ => ⟨b1, jP (Q := fun y _ => y = 1) (j98 hP hj (r _)) hd k fun _ _ h => ⟨b1, h⟩⟩, ?_⟩
    refine ⟨fun _ => ⟨b1, b2, b3, jP (Q := fun y _ => y = 1) (j99 hP hj (r _) (r _) (r _)) hd k fun _ _ h => ⟨b1, b2, b3, h⟩⟩, ?_⟩
    refine ⟨fun _ => jP (Q := fun y _ => y = 1) (j100 hP hj) hd k fun _ _ h => h, ?_⟩
    refine ⟨fun _ => jP (Q := fun y _ => y = 1) (j101 hP hj) hd k fun _ _ h => h, ?_⟩
    refine ⟨fun _ => ⟨b1, jP (Q := fun y _ => y = 1) (j102 hP hj (r _)) hd k fun _ _ h => ⟨b1, h⟩⟩, ?_⟩
    refine ⟨fun _ => jP (Q := fun y _ => y = 1) (j103 hP hj) hd k fun _ _ h => h, ?_⟩
    refine ⟨fun _ => ⟨b1, b2, jP (Q := fun y _ => y = 1) (j104 hP hj (r _) (r _)) hd k fun _ _ h => ⟨b1, b2, h⟩⟩, ?_⟩
    refine ⟨fun _ => ⟨b1, b2, jP (Q := fun y _ => y = 1) (j105 hP hj (r _) (r _)) hd k fun _ _ h => ⟨b1, b2, h⟩⟩, ?_⟩
    refine ⟨fun _ => ⟨b1, b2, jP (Q := fun y _ => y = 1) (j106 hP hj (r _) (r _)) hd k fun _ _ h => ⟨b1, b2, h⟩⟩, ?_⟩
    refine ⟨fun _ => ⟨b1, b2, jP (Q := fun y _ => y = 1) (j107 hP hj (r _) (r _)) hd k fun _ _ h => ⟨b1, b2, h⟩⟩, ?_⟩
    refine ⟨fun _ => ⟨b1, b2, jP (Q := fun y _ => y = 1) (j108 hP hj (r _) (r _)) hd k fun _ _ h => ⟨b1, b2, h⟩⟩, ?_⟩
    refine ⟨fun _ => ⟨b1, b2, b3, jP (Q := fun y _ => y = 1) (j109 hP hj (r _) (r _) (r _)) hd k fun _ _ h => ⟨b1, b2, b3, h⟩⟩, ?_⟩
    refine ⟨fun _ => ⟨b1, b2, jP (Q := fun y _ => y = 1) (j110 hP hj (r _) (r _)) hd k fun _ _ h => ⟨b1, b2, h⟩⟩, ?_⟩
    refine ⟨fun _ => ⟨b1, b2, b3, jP (Q := fun y _ => y = 1) (j111 hP hj (r _) (r _) (r _)) hd k fun _ _ h => ⟨b1, b2, b3, h⟩⟩, ?_⟩
    refine ⟨fun _ => jP (Q := fun y _ => y = 1) (j112 hP hj) hd k fun _ _ h => h, ?_⟩
    refine ⟨fun _ => ⟨b1, b2, jP (Q := fun y _ => y = 1) (j113 hP hj (r _) (r _)) hd k fun _ _ h => ⟨b1, b2, h⟩⟩, ?_⟩
    refine ⟨fun _ => ⟨b1, jP (Q := fun y _ => y = 1) (j114 hP hj (r _)) hd k fun _ _ h => ⟨b1, h⟩⟩, ?_⟩
    refine ⟨fun _ => ⟨b1, jP (Q := fun y _ => y = 1) (j115 hP hj (r _)) hd k fun _ _ h => ⟨b1, h⟩⟩, ?_⟩
    refine ⟨fun _ => jP (Q := fun y _ => y = 1) (j116 hP hj) hd k fun _ _ h => h, ?_⟩
    refine ⟨fun _ => ⟨b1, b2, jP (Q := fun y _ => y = 1) (j117 hP hj (r _) (r _)) hd k fun _ _ h => ⟨b1, b2, h⟩⟩, ?_⟩
    refine ⟨fun _ => ⟨b1, b2, jP (Q := fun y _ => y = 1) (j118 hP hj (r _) (r _)) hd k fun _ _ h => ⟨b1, b2, h⟩⟩, ?_⟩
    refine ⟨fun _ => ⟨b1, b2, b3, jP (Q := fun y _ => y = 1) (j119 hP hj (r _) (r _) (r _)) hd k fun _ _ h => ⟨b1, b2, b3, h⟩⟩, ?_⟩
    refine ⟨fun _ => ⟨b1, jP (Q := fun y _ => y = 1) (j120 hP hj (r _)) hd k fun _ _ h => ⟨b1, h⟩⟩, ?_⟩
    refine ⟨fun _ => ⟨b1, b2, jP (Q := fun y _ => y = 1) (j121 hP hj (r _) (r _)) hd k fun _ _ h => ⟨b1, b2, h⟩⟩, ?_⟩
    refine ⟨fun _ => ⟨b1, jP (Q := fun y _ => y = 1) (j122 hP hj (r _)) hd k fun _ _ h => ⟨b1, h⟩⟩, ?_⟩
    refine ⟨fun _ => ⟨b1, jP (Q := fun y _ => y = 1) (j123 hP hj (r _)) hd k fun _ _ h => ⟨b1, h⟩⟩, ?_⟩
    refine ⟨fun _ => ⟨b1, jP (Q := fun y _ => y = 1) (j124 hP hj (r _)) hd k fun _ _ h => ⟨b1, h⟩⟩, ?_⟩
    refine ⟨fun _ => ⟨b1, r _, b2, r _, b3, r _, b4, r _, jPl (Q := fun y _ => y = 1) (j125 hP hj xlor_r xlor_r) hd k fun _ _ h => ⟨b1, r _, b2, r _, b3, r _, b4, r _, h⟩⟩, ?_⟩
    exact fun _ => ⟨b1, jP (Q := fun y _ => y = 1) (j127 hP hj (r _)) hd k fun _ _ h => ⟨b1, h⟩⟩
end JT4
