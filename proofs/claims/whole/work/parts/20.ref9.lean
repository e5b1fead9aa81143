section REF9
variable {X : List Int32} {d : Nat} {F : XF}
theorem c263 {r c t cl f s k : Int} {Q : XF → Prop} (hP : xPT F) (hd : 1 < d) (hr : 0 ≤ r ∧ r ≤ 132) (hc : 0 ≤ c ∧ c < 30) (hb : -200000 ≤ F 140 (r + c) ∧ F 140 (r + c) ≤ 200000) (hL : 1 ≤ F 132 (78 + c) ∧ F 132 (78 + c) ≤ 30) (h0 : 10 ≤ F 132 0 ∧ F 132 0 ≤ 1000) (q : ∀ G, xPT G → (∀ p i, ¬ (p = 140 ∧ i = r + 131) → G p i = F p i) → G 140 (r + 131) = F 140 (r + 131) + (if F 132 0 ≤ F 140 (r + c) - F 132 (78 + c) then 1 else 0) → Q G) : xW X d 178 263 [.ref 131, vi r, vi c, vi t, vi cl, vi f, vi s, vi k] [] F (xqv Q) := by
  refine s178_263 hP ⟨⟨by omega, by omega⟩, 1, hd, p172 hP (by omega) hr hc ⟨⟨by omega, by omega⟩, ⟨by omega, by omega⟩⟩ fun y hy => ⟨hy.r, fun c1 => ⟨⟨by omega, by omega⟩, fun hG => q _ hG (fun p i hn => xup_n hn) ?_⟩, fun c1 => ⟨⟨by omega, by omega⟩, fun hG => q _ hG (fun p i hn => xup_n hn) ?_⟩⟩⟩
  · rw [xup_s, if_neg (hy.f c1)]
  · rw [xup_s, if_pos (hy.t c1)]
theorem c221 {r c t cl f s k : Int} {E : Int → Int} {Q : XF → Prop} (hP : xPT F) (hd : 2 < d) (hT : mT (F 132)) (hS : mSA (F 132 5).toNat F) (hr : 0 ≤ r ∧ r ≤ 132) (hc : 0 ≤ c ∧ c < F 132 5) (hf : F 140 (r + c) = f) (hfb : -100000 ≤ f ∧ f ≤ 100000) (hg : -100000 ≤ f + F 131 21 ∧ f + F 131 21 ≤ 100000) (hE : r = 0 → mEq F E) (q : ∀ G, xPT G → mKt r F G → mRow G r = mRw (F 132) (mRow F r) c (F 131 21, F 131 22) → (r = 0 → mEq G (mTell (F 132) (mL (F 132) (F 132 5).toNat) (f + F 131 21) c f t E)) → Q G) : xW X d 178 221 [.ref 131, vi r, vi c, vi t, vi cl, vi f, vi s, vi k] [] F (xqv Q) := by
  have hT' := hT
  obtain ⟨h0, _, _, _, _, h5, _, _, _, _, hl, _⟩ := hT'
  have hlc := hl c hc.1 hc.2
  have key : ∀ H : XF, xPT H → (∀ p i, ¬ p = 141 → ¬ (p = 131 ∧ i = 20) → H p i = xup (xup F 140 ((r + 30) + c) (F 131 22)) 140 (r + c) (((xup F 140 ((r + 30) + c) (F 131 22)) 140 (r + c)) + (F 131 21)) p i) → (¬ r = 0 → (∀ i, H 141 i = F 141 i) ∧ H 131 20 = F 131 20) → (r = 0 → mEq H (mTell (F 132) (mL (F 132) (F 132 5).toNat) (f + F 131 21) c f t E)) → xW X d 178 263 [.ref 131, vi r, vi c, vi t, vi cl, vi f, vi s, vi k] [] H (xqv Q) := by
    intro H hH k1 k2 k3
    have e1 : H 132 = F 132 := funext fun i => by rw [k1 132 i (by decide) (by omega), xup_o (by decide), xup_o (by decide)]
    have e2 : H 140 (r + c) = f + F 131 21 := by rw [k1 140 _ (by decide) (by omega), xup_s, xup_i (by omega), hf]
    have e3 : H 140 (r + 30 + c) = F 131 22 := by rw [k1 140 _ (by decide) (by omega), xup_i (by omega), xup_s]
    have e4 : ∀ i, ¬ i = r + c → ¬ i = r + 30 + c → H 140 i = F 140 i := fun i a b => by rw [k1 140 _ (by decide) (by omega), xup_i a, xup_i b]
    refine c263 hH (by omega) hr (by omega) (by rw [e2]; omega) (by rw [e1]; exact hlc) (by rw [e1]; exact h0) fun G hG g1 g2 => q G hG ?_ ?_ fun h => ?_
    · refine ⟨fun p i a b c => ?_, fun i a b c => ?_, fun i a => ?_, fun h => ⟨fun i => ?_, ?_⟩⟩
      · rw [g1 p i (by omega), k1 p i c (by omega), xup_o b, xup_o b]
      · rw [g1 131 i (by omega), k1 131 i (by decide) (by omega), xup_o (by decide), xup_o (by decide)]
      · rw [g1 140 i (by omega), e4 i (by omega) (by omega)]
      · rw [g1 141 i (by omega), (k2 h).1 i]
      · rw [g1 131 20 (by omega), (k2 h).2]
    · refine mRow_eq (fun i a b => ?_) (mZ_rw mZ_row (by omega))
      unfold mRw
      by_cases i1 : i = 131
      · rw [if_pos i1, i1, g2, e1, e2, e4 _ (by omega) (by omega), mRow_at (by omega), mRow_at (by omega), hf]
      · rw [if_neg i1, g1 140 _ (by omega)]
        by_cases i2 : i = c
        · rw [if_pos i2, i2, e2, mRow_at (by omega), hf]
        · rw [if_neg i2]
          by_cases i3 : i = 30 + c
          · rw [if_pos i3, i3, show r + (30 + c) = r + 30 + c by omega, e3]
          · rw [if_neg i3, e4 _ (by omega) (by omega), mRow_at (by omega)]
    · obtain ⟨m1, m2, m3⟩ := k3 h
      exact ⟨by rw [g1 131 20 (by omega)]; exact m1, fun i a b => by rw [g1 141 i (by omega)]; exact m2 i a b, m3⟩
  refine s178_221 hP ⟨⟨by omega, by omega⟩, ⟨by omega, by omega⟩, ⟨by omega, by omega⟩, ⟨by omega, by omega⟩, fun c1 hG => ?_, fun c1 => ?_⟩
  · exact key _ hG (fun _ _ _ _ => rfl) (fun _ => ⟨fun i => by rw [xup_o (by decide), xup_o (by decide)], by rw [xup_o (by decide), xup_o (by decide)]⟩) (fun h => absurd h c1)
  · have r0 : r = 0 := by omega
    subst r0
    have hG1 : xPT (xup (xup F 140 ((0 + 30) + c) (F 131 22)) 140 (0 + c) (((xup F 140 ((0 + 30) + c) (F 131 22)) 140 (0 + c)) + (F 131 21))) := xPT_arr (xPT_arr hP (by decide)) (by decide)
    have e1 : ∀ p : Nat, ¬ p = 140 → (xup (xup F 140 ((0 + 30) + c) (F 131 22)) 140 (0 + c) (((xup F 140 ((0 + 30) + c) (F 131 22)) 140 (0 + c)) + (F 131 21))) p = F p := fun p h => funext fun i => by rw [xup_o h, xup_o h]
    have e2 : (xup (xup F 140 ((0 + 30) + c) (F 131 22)) 140 (0 + c) (((xup F 140 ((0 + 30) + c) (F 131 22)) 140 (0 + c)) + (F 131 21))) 140 c = f + F 131 21 := by
      rw [← hf]
      simp only [Int.zero_add]
      rw [xup_s, xup_i (by omega)]
    have hE1 : mEq (xup (xup F 140 ((0 + 30) + c) (F 131 22)) 140 (0 + c) (((xup F 140 ((0 + 30) + c) (F 131 22)) 140 (0 + c)) + (F 131 21))) E := by
      obtain ⟨m1, m2, m3⟩ := hE rfl
      exact ⟨by rw [e1 131 (by decide)]; exact m1, fun i a b => by rw [e1 141 (by decide)]; exact m2 i a b, m3⟩
    refine ⟨2, hd, p180 (E := E) hG1 (by omega) (by rw [e1 132 (by decide)]; exact hT) (by rw [e1 132 (by decide)]; exact hS.of (e1 132 (by decide)) ⟨e1 136 (by decide), e1 137 (by decide), e1 138 (by decide), e1 139 (by decide), by rw [e1 131 (by decide)]⟩) (by rw [e1 132 (by decide)]; exact hc) hfb (by rw [e2]; exact hg) hE1 fun G hG k1 k2 _ => ?_⟩
    rw [e1 132 (by decide), e2] at k2
    exact key G hG (fun p i a b => k1 p i a b) (fun h => absurd rfl h) (fun _ => k2)
theorem mKg.kt {r : Int} {F G : XF} (a : mKg F G) : mKt r F G := ⟨fun p i h1 h2 h3 => a p i (by omega), fun i h1 h2 h3 => a 131 i (by omega), fun i h => a 140 i (by omega), fun h => ⟨fun i => a 141 i (by omega), a 131 20 (by omega)⟩⟩
theorem p178 {r c t cl : Int} {E : Int → Int} {Q : XF → Prop} (hP : xPT F) (hd : 3 < d) (hT : mT (F 132)) (hS : mSA (F 132 5).toNat F) (hr : 0 ≤ r ∧ r ≤ 132) (hc : 0 ≤ c ∧ c < F 132 5) (ht : 0 ≤ t ∧ t ≤ 10000) (hcl : cl = 0 ∨ cl = 1) (hR : mFr (F 132) (mRow F r)) (hg : -100000 ≤ mRow F r c + (mGo (F 132) (mL (F 132) (F 132 5).toNat) (mRow F r) t cl c).1 ∧ mRow F r c + (mGo (F 132) (mL (F 132) (F 132 5).toNat) (mRow F r) t cl c).1 ≤ 100000) (hE : r = 0 → mEq F E) (q : ∀ G, xPT G → mKt r F G → mRow G r = mRw (F 132) (mRow F r) c (mGo (F 132) (mL (F 132) (F 132 5).toNat) (mRow F r) t cl c) → (r = 0 → mEq G (mTell (F 132) (mL (F 132) (F 132 5).toNat) (mRow F r c + (mGo (F 132) (mL (F 132) (F 132 5).toNat) (mRow F r) t cl c).1) c (mRow F r c) t E)) → Q G) : xMV X d 178 [.ref 131, vi r, vi c, vi t, vi cl] F Q := by
  have hT' := hT
  obtain ⟨h0, h1, h2, _, h4, h5, h6, _, hX, _, hl, _⟩ := hT'
  have hlc := hl c hc.1 hc.2
  have hSb := hS.b hT (by omega)
  have s1 := hS.2.1 c hc.1 (by omega)
  have sb := hSb.2.2 c hc.1 hc.2
  have s3 := hS.2.2 (F 136 c) sb.1 (by have := hS.1; omega)
  have sb2 := hSb.2.1 (F 136 c) sb.1 sb.2
  have hn := hSb.1
  have hRc := hR c hc.1 hc.2
  have efc : mRow F r c = F 140 (r + c) := mRow_at (by omega)
  have ga := mGo2_b (S := mL (F 132) (F 132 5).toNat) (f := mRow F r c) (t := t) (cl := cl) (c := c) hT hRc
  -- the last stretch
  have stage3 : ∀ (G : XF) (k : Int), xPT G → mKg F G → (G 131 21, G 131 22) = mGo (F 132) (mL (F 132) (F 132 5).toNat) (mRow F r) t cl c → xW X d 178 221 [.ref 131, vi r, vi c, vi t, vi cl, vi (F 140 (r + c)), vi (F 136 c), vi k] [] G (xqv Q) := by
    intro G k hG kg ea
    have e : G 132 = F 132 := kg.c (by decide)
    have e0 : G 140 = F 140 := kg.c (by decide)
    have e21 : G 131 21 = (mGo (F 132) (mL (F 132) (F 132 5).toNat) (mRow F r) t cl c).1 := by rw [← ea]
    have er : mRow G r = mRow F r := mRow_of fun i _ _ => by rw [e0]
    refine c221 (E := E) hG (by omega) (by rw [e]; exact hT) (by rw [e]; exact hS.of e (kg.kt (r := r)).s) hr (by rw [e]; exact hc) (by rw [e0]) (by rw [← efc]; exact hRc) (by rw [e21, ← efc]; exact hg) (fun h => ?_) fun H hH k1 k2 k3 => ?_
    · obtain ⟨m1, m2, m3⟩ := hE h
      exact ⟨by rw [kg 131 20 (by omega)]; exact m1, fun i a b => by rw [kg 141 i (by omega)]; exact m2 i a b, m3⟩
    · rw [e, er, ea] at k2
      rw [e, e21, ← efc] at k3
      exact q H hH (kg.kt.trans k1) k2 k3
  have stage2 : ∀ (G : XF) (k : Int), xPT G → mKg F G → (G 131 21, G 131 22) = mGo2 (F 132) (mL (F 132) (F 132 5).toNat) (mRow F r c) t cl c → xW X d 178 182 [.ref 131, vi r, vi c, vi t, vi cl, vi (F 140 (r + c)), vi (F 136 c), vi k] [] G (xqv Q) := by
    intro G k hG kg ea
    have e : G 132 = F 132 := kg.c (by decide)
    have e0 : G 140 = F 140 := kg.c (by decide)
    have b := ga
    rw [← ea] at b
    unfold mAb at b
    dsimp only at b
    have no : ¬ (0 < c ∧ mRow F r (c - 1) - F 132 (78 + (c - 1)) < F 132 0) → (G 131 21, G 131 22) = mGo (F 132) (mL (F 132) (F 132 5).toNat) (mRow F r) t cl c := fun h => by
      unfold mGo
      rw [if_neg h]
      exact ea
    by_cases hc0 : c ≤ 0
    · exact s178_182 hG ⟨⟨by omega, by omega⟩, fun _ _ => stage3 G k hG kg (no (by omega)), fun c1 => absurd hc0 c1⟩
    · have hRd := hR (c - 1) (by omega) (by omega)
      have hld := hl (c - 1) (by omega) (by omega)
      have efd : mRow F r (c - 1) = F 140 (r + (c - 1)) := mRow_at (by omega)
      rw [efd] at hRd no
      refine s178_182 hG ⟨⟨by omega, by omega⟩, fun c1 => absurd c1 hc0, fun _ => ⟨3, hd, p172 hG (by omega) hr (by omega) (by rw [e, e0]; exact ⟨⟨by omega, by omega⟩, ⟨by omega, by omega⟩⟩) fun y hy => ⟨hy.r, fun c1 _ => stage3 G k hG kg (no ?_), fun c1 => ⟨3, hd, p171 hG hr (by omega) ⟨3, hd, p177 hG (by rw [e, e0, ← efc]; constructor <;> omega) ⟨by omega, by omega⟩ ⟨by omega, by omega⟩ (by omega) fun H hH k1 e1 _ => stage3 H k hH (kg.trans fun p i h => k1 p i h) ?_⟩⟩⟩⟩⟩
      · have := hy.t c1
        rw [e, e0] at this
        omega
      · have := hy.f (by omega)
        rw [e, e0] at this
        rw [e1, e, e0, ea]
        unfold mGo
        rw [if_pos (by rw [efd]; omega), efd, ← efc]
  have ec : ∀ v w : Int, mKg F (xup (xup F 131 21 v) 131 22 w) := fun v w p i h => by rw [xup_n (by omega), xup_n (by omega)]
  have stage1 : ∀ (G : XF), xPT G → mKg F G → (G 131 21, G 131 22) = (if c = 0 ∧ cl = 0 then mG (F 132) (mRow F r c) (F 132 6).toNat 0 (F 132 1, 3) else (F 132 1, 3)) → xW X d 178 101 [.ref 131, vi r, vi c, vi t, vi cl, vi (F 140 (r + c)), vi (F 136 c), vi 0] [] G (xqv Q) := by
    intro G hG kg ea
    have e : G 132 = F 132 := kg.c (by decide)
    have e7 : G 137 = F 137 := kg.c (by decide)
    have e9 : G 139 = F 139 := kg.c (by decide)
    have a0 : mAb (F 132 1, 3) 4 := by unfold mAb; dsimp only; omega
    have a1 : mAb (G 131 21, G 131 22) 5 := by
      rw [ea]
      have : mAb (if c = 0 ∧ cl = 0 then mG (F 132) (mRow F r c) (F 132 6).toNat 0 (F 132 1, 3) else (F 132 1, 3)) 4 := by
        split
        · exact mG_b hT hRc _ _ _ (by omega) (by omega) a0
        · exact a0
      unfold mAb at *; omega
    refine l178b (t := t) (cl := cl) (r := r) (c := c) (f := F 140 (r + c)) (s := F 136 c) (by omega) G (by rw [e]; exact hT) (by omega) (by omega) ht (by rw [← efc]; exact hRc) (by rw [e7]; constructor <;> omega) (by rw [e9]; omega) (mGo2 (F 132) (mL (F 132) (F 132 5).toNat) (mRow F r c) t cl c) (fun H k hH k1 e1 => stage2 H k hH (kg.trans k1) e1) (F 132 4).toNat 0 G _ hG (by rw [e]; omega) (fun _ _ _ => rfl) rfl a1 ?_
    rw [ea, e, e7, e9]
    unfold mGo2
    rw [← s1, ← s3.1, ← s3.2.2, ← efc]
    rfl
  have st : ∀ G : XF, G = xup (xup F 131 21 (F 132 1)) 131 22 3 → (G 131 21, G 131 22) = (F 132 1, 3) := fun G h => by rw [h, xup_s, xup_i (by omega), xup_s]
  refine m178 hP ⟨⟨by omega, by omega⟩, ⟨by omega, by omega⟩, fun c1 => ⟨by omega, fun hG => stage1 _ hG (ec _ _) ?_⟩, fun c1 => ⟨by constructor <;> omega, fun c2 => ⟨by omega, fun hG => stage1 _ hG (ec _ _) ?_⟩, fun c2 hG => ?_⟩⟩
  · rw [if_neg (by omega)]
    exact st _ rfl
  · rw [if_neg (by omega)]
    exact st _ rfl
  · have e := (ec (F 132 1) 3).c (p := 132) (by decide)
    have e6 := (ec (F 132 1) 3).c (p := 136) (by decide)
    refine l178a (cl := cl) (r := r) (c := c) (t := t) (f := F 140 (r + c)) (by omega) _ (by rw [e]; exact hT) (by omega) (by rw [← efc]; exact hRc) (mG (F 132) (mRow F r c) (F 132 6).toNat 0 (F 132 1, 3)) (fun H hH k1 e1 => ?_) (F 132 6).toNat 0 _ _ _ hG (by rw [e]; omega) (fun _ _ _ => rfl) rfl ?_ ?_
    · rw [e6]
      exact stage1 H hH ((ec _ _).trans k1) (by rw [if_pos (by omega)]; exact e1)
    · rw [st _ rfl]
      unfold mAb; dsimp only; omega
    · rw [st _ rfl, e, ← efc]
      rfl
end REF9
