section CL8
variable {X : List Int32} {d : Nat} {F : XF}
section PU
variable {T R E : Int → Int} {S : Nat → Int → Int} {t cl : Int}
/-- cars that are out or not yet under way -/
theorem mK_q (hT : mT T) (hJ : mJ T R) : ∀ k : Nat, (k : Int) ≤ T 5 → ((k : Int) ≤ R 131 ∨ t < T 3) → (∀ i, mK T S t cl R k i = if 30 ≤ i ∧ i < 30 + k then (if i < 30 + R 131 then 0 else 1) else R i) ∧ mKE T S t cl R E k = E
  | 0, _, _ => ⟨fun i => by rw [if_neg (by omega)]; rfl, rfl⟩
  | k + 1, hk, h => by
    have h5 := hT.2.2.2.2.2.1
    obtain ⟨a, b⟩ := mK_q hT hJ k (by omega) (by omega)
    have j4 := hJ.2.2.2 k (by omega) (by omega)
    have ek : mK T S t cl R k k = R k := by rw [a, if_neg (by omega)]
    unfold mK mKE mCar mCarE
    rw [ek, b]
    by_cases q : T 0 ≤ R k - T (78 + (k : Int))
    · rw [if_pos q, if_pos q]
      refine ⟨fun i => ?_, rfl⟩
      have kl := j4.mp q
      by_cases e : i = 30 + k
      · rw [e, mSet_s, if_pos (by omega), if_pos (by omega)]
      · rw [mSet_n e, a]
        by_cases e2 : 30 ≤ i ∧ i < 30 + (k : Int)
        · rw [if_pos e2, if_pos (show 30 ≤ i ∧ i < 30 + ((k + 1 : Nat) : Int) by omega)]
        · rw [if_neg e2, if_neg (by omega)]
    · have kl : ¬ (k : Int) < R 131 := fun z => q (j4.mpr z)
      have ts : t < T 3 := by omega
      rw [if_neg q, if_neg q, if_pos ts, if_pos ts]
      refine ⟨fun i => ?_, rfl⟩
      by_cases e : i = 30 + k
      · rw [e, mSet_s, if_pos (by omega), if_neg (by omega)]
      · rw [mSet_n e, a]
        by_cases e2 : 30 ≤ i ∧ i < 30 + (k : Int)
        · rw [if_pos e2, if_pos (show 30 ≤ i ∧ i < 30 + ((k + 1 : Nat) : Int) by omega)]
        · rw [if_neg e2, if_neg (by omega)]
end PU
theorem cKm.trans {r : Nat} {F G H : XF} (a : cKm r F G) (b : cKm r G H) : cKm r F H := fun p i h => (b p i h).trans (a p i h)
/-- whether a car was stopped by a crossing -/
def cS5 (F0 G : XF) (r : Nat) (K : Int → Int) (k : Int) : Prop := G r 5 = 1 ↔ F0 r 5 = 1 ∨ ∃ c, 0 ≤ c ∧ c < k ∧ K (30 + c) = 5
theorem cKm.refl {r : Nat} {F : XF} : cKm r F F := fun _ _ _ => rfl
section MC
variable {T R : Int → Int} {r t : Nat} {Q : XF → Prop} {tick cl : Int} {E : Int → Int}
theorem l60b (F0 : XF) (hr : xob 6 r) (ht : xob 9 t) (hT : mT T) (hdis : t + 17 ≤ r ∨ r + 28 ≤ t) (hw : cTw F0 t T) (h0 : F0 r 0 = (t : Int)) (o : Int) (w2 w3 : Value) (q : ∀ G, xPT G → (∀ p i, ¬ p = r + 8 → G p i = F0 p i) → (∀ c, 0 ≤ c → c < T 5 → G (r + 8) c = if c < o then F0 (r + 8) c else 1) → Q G) : ∀ (n : Nat) (c : Int) (G : XF), xPT G → 0 ≤ c → o ≤ c → c + n = T 5 → (∀ p i, ¬ p = r + 8 → G p i = F0 p i) → (∀ k, G (r + 8) k = if o ≤ k ∧ k < c then 1 else F0 (r + 8) k) → xW X d 60 47 [.ref r, vi c, w2, w3] [] G (xqv Q) := by
  have h5 := hT.2.2.2.2.2.1
  intro n
  induction n with
  | zero =>
    intro c G hP hc ho hn hk hv
    have gw : cTw G t T := hw.of hT fun p i z => hk p i (by omega)
    refine s60_47 hP hr ⟨t, by rw [hk r 0 (by omega)]; exact h0, ht, ⟨by omega, by omega⟩, by rw [gw.1.2.2.2.2.2.1]; constructor <;> omega, fun _ _ => q G hP hk fun k a b => ?_, fun z => absurd (by rw [gw.1.2.2.2.2.2.1]; omega) z⟩
    rw [hv k]
    by_cases z : k < o
    · rw [if_neg (by omega), if_pos z]
    · rw [if_pos (by omega), if_neg z]
  | succ n ih =>
    intro c G hP hc ho hn hk hv
    have gw : cTw G t T := hw.of hT fun p i z => hk p i (by omega)
    have e6 := gw.1.2.2.2.2.2.1
    refine s60_47 hP hr ⟨t, by rw [hk r 0 (by omega)]; exact h0, ht, ⟨by omega, by omega⟩, by rw [e6]; constructor <;> omega, fun z => absurd z (by omega), fun _ => ⟨by omega, fun hG => ih (c + 1) _ hG (by omega) (by omega) (by omega) (fun p i z => by rw [xup_o z]; exact hk p i z) fun k => ?_⟩⟩
    by_cases z : k = c
    · rw [z, xup_s, if_pos (by omega)]
    · rw [xup_i z, hv k]
      by_cases y : o ≤ k ∧ k < c
      · rw [if_pos y, if_pos (by omega)]
      · rw [if_neg y, if_neg (by omega)]
/-- the cars from k on -/
theorem l60c (F0 : XF) (hd : 2 < d) (hr : xob 6 r) (ht : xob 9 t) (hT : mT T) (hdis : t + 17 ≤ r ∨ r + 28 ≤ t) (hw : cTw F0 t T) (hJ : mJ T R) (h12 : F0 r 2 = tick) (htk : 0 ≤ tick ∧ tick ≤ 100000) (hst : T 3 ≤ tick) (x1 : Int) (hbr : cBr T (T 7) tick x1) (y : Int) (hy : y = 0 ∨ y = 1) (hy2 : T 6 = 0 ∨ 0 < R 131 ∨ (y = 0 ↔ cl = 0)) (q : ∀ G, xPT G → cKm r F0 G → cCo G r t T (mK T (mS T) tick cl R (T 5).toNat) → cWh G r T (mK T (mS T) tick cl R (T 5).toNat) → cEv G r (mKE T (mS T) tick cl R E (T 5).toNat) → mEn (mKE T (mS T) tick cl R E (T 5).toNat) → (G r 4 = 0 ∨ G r 4 = 1) → (G r 4 = 0 → ∀ c, 0 ≤ c → c < T 5 → mK T (mS T) tick cl R (T 5).toNat c = R c) → (G r 5 = 0 ∨ G r 5 = 1) → cS5 F0 G r (mK T (mS T) tick cl R (T 5).toNat) (T 5) → Q G) : ∀ (n k : Nat) (G : XF), xPT G → (k : Int) + n = T 5 → R 131 ≤ (k : Int) → cKm r F0 G → cCo G r t T (mK T (mS T) tick cl R k) → (∀ c, 0 ≤ c → c < (k : Int) → G (r + 8) c = mK T (mS T) tick cl R k (30 + c)) → cEv G r (mKE T (mS T) tick cl R E k) → mEn (mKE T (mS T) tick cl R E k) → (G r 4 = 0 ∨ G r 4 = 1) → (G r 4 = 0 → ∀ c, 0 ≤ c → c < (k : Int) → mK T (mS T) tick cl R k c = R c) → (G r 5 = 0 ∨ G r 5 = 1) → cS5 F0 G r (mK T (mS T) tick cl R k) k → xW X d 60 94 [.ref r, vi x1, vi y, vi k] [] G (xqv Q) := by
  have hT' := hT
  obtain ⟨h0, h1, h2, h3, h4, h5, h6, h7, hX, hO, hL, _⟩ := hT'
  intro n
  induction n with
  | zero =>
    intro k G hP hn ho hK hC hW hE hEn h4 h4' h5' h55
    have gw : cTw G t T := hw.of hT fun p i z => hK p i (by omega)
    have e6 := gw.1.2.2.2.2.2.1
    rw [show (T 5).toNat = k by omega] at q
    exact s60_94 hP hr ⟨t, hC.1, ht, ⟨by omega, by omega⟩, by rw [e6]; constructor <;> omega, fun _ _ => q G hP hK hC (fun c a b => hW c a (by omega)) hE hEn h4 (fun z c a b => h4' z c a (by omega)) h5' (by rw [show T 5 = (k : Int) by omega]; exact h55), fun z => absurd (by omega) z⟩
  | succ n ih =>
    intro k G hP hn ho hK hC hW hE hEn h4 h4' h5' h55
    have gw : cTw G t T := hw.of hT fun p i z => hK p i (by omega)
    have e6 := gw.1.2.2.2.2.2.1
    have Jk := mK_J (S := mS T) (t := tick) (cl := cl) hT hJ k (by omega)
    have rk := mK_r (S := mS T) (t := tick) (cl := cl) hT hJ k (by omega)
    have ek : mK T (mS T) tick cl R k k = R k := rk.1 k (by omega)
    have no : ¬ T 0 ≤ R k - T (78 + (k : Int)) := fun z => by have := (hJ.2.2.2 k (by omega) (by omega)).mp z; omega
    have cr := mCar_r (S := mS T) (t := tick) (cl := cl) (c := k) hT Jk (by omega)
    have xb := xbit' (v := x1) (k := (k : Int)) (by omega) (by omega)
    have bk := hbr k (by omega)
    rw [show ((k : Int)).toNat = k by omega] at xb
    have step : mK T (mS T) tick cl R (k + 1) = mCar T (mS T) tick cl k (mK T (mS T) tick cl R k) := rfl
    have stepE : mKE T (mS T) tick cl R E (k + 1) = mCarE T (mS T) tick cl k (mK T (mS T) tick cl R k) (mKE T (mS T) tick cl R E k) := rfl
    obtain ⟨K, hKe⟩ : ∃ K, K = mK T (mS T) tick cl R k := ⟨_, rfl⟩
    obtain ⟨KE, hKE⟩ : ∃ K, K = mKE T (mS T) tick cl R E k := ⟨_, rfl⟩
    have old : ∀ c, 0 ≤ c → c < (k : Int) → mCar T (mS T) tick cl k K (30 + c) = K (30 + c) ∧ mCar T (mS T) tick cl k K c = K c := fun c a b => by
      rw [hKe]
      exact ⟨cr.1 _ (by omega) (by omega) (by omega), cr.1 _ (by omega) (by omega) (by omega)⟩
    rw [← hKe] at hC hW h4' h55 Jk ek cr step stepE
    rw [← hKE] at hE hEn stepE
    unfold mCar at step
    unfold mCarE at stepE
    rw [ek, if_neg no, if_neg (by omega)] at step stepE
    refine s60_94 hP hr ⟨t, hC.1, ht, ⟨by omega, by omega⟩, by rw [e6]; constructor <;> omega, fun z => absurd z (by omega), fun _ => ⟨xand_r, fun z => ⟨2, hd, ?_⟩, fun z => ⟨by omega, fun hG => ?_⟩⟩⟩
    · have nb : ¬ mBrk T k tick := fun w => by
        rw [bk.mpr w] at xb
        rw [if_pos rfl] at xb
        omega
      rw [if_neg (by rw [mV_f nb]; decide)] at step stepE
      clear xb bk z
      have clk : mGo T (mS T) K tick y k = mGo T (mS T) K tick cl k := mGo_cl (by omega)
      refine k62 (cl := y) (tick := tick) (E := KE) hP (by omega) hr ht hT hdis gw hC Jk (by omega) (by rw [hK r 2 (by omega)]; exact h12) htk (by rw [ek]; omega) (by rcases hy with hy | hy <;> rw [hy] <;> exact ⟨by decide, by decide⟩) h5' hE hEn fun H hH kH cH wH oH eH nH m4 m5 hH2 => ?_
      rw [clk] at cH wH m4 m5
      rw [clk, ek] at eH nH
      obtain ⟨a, ea⟩ : ∃ a, a = mGo T (mS T) K tick cl k := ⟨_, rfl⟩
      have ga := mGo_c (S := mS T) (t := tick) (cl := cl) hT (Jk.ch (c := k) (by omega))
      rw [← ea] at ga cH wH eH nH m4 m5 step stepE
      unfold mAc at ga
      have at_k : mK T (mS T) tick cl R (k + 1) k = R k + a.1 := by rw [step]; unfold mRw; rw [if_neg (by omega), if_pos rfl, ek]
      have at_w : mK T (mS T) tick cl R (k + 1) (30 + k) = a.2 := by rw [step]; unfold mRw; rw [if_neg (by omega), if_neg (by omega), if_pos rfl]
      have at_o : ∀ c, 0 ≤ c → c < (k : Int) → mK T (mS T) tick cl R (k + 1) (30 + c) = K (30 + c) ∧ mK T (mS T) tick cl R (k + 1) c = K c := fun c p q => by
        rw [hKe]; rw [hKe] at old
        exact old c p q
      refine ih (k + 1) H hH2 (by omega) (by omega) (hK.trans kH) (by rw [step]; exact cH) (fun c p q => ?_) (by rw [stepE]; exact eH) (by rw [stepE]; exact nH) ?_ (fun z c p q => ?_) ?_ ?_
      · by_cases e : c = k
        · rw [e, at_w]; exact wH
        · rw [oH c e, (at_o c p (by omega)).1]
          exact hW c p (by omega)
      · rw [m4]
        by_cases e : 0 < a.1
        · rw [if_pos e]; exact Or.inr rfl
        · rw [if_neg e]; exact h4
      · rw [m4] at z
        by_cases e : 0 < a.1
        · rw [if_pos e] at z; omega
        · rw [if_neg e] at z
          by_cases e2 : c = k
          · rw [e2, at_k]; omega
          · rw [(at_o c p (by omega)).2]
            exact h4' z c p (by omega)
      · rw [m5]
        by_cases e : a.2 = 5
        · rw [if_pos e]; exact Or.inr rfl
        · rw [if_neg e]; exact h5'
      · unfold cS5 at h55 ⊢
        rw [m5]
        by_cases e : a.2 = 5
        · rw [if_pos e]
          exact ⟨fun _ => Or.inr ⟨k, by omega, by omega, by rw [at_w]; exact e⟩, fun _ => rfl⟩
        · rw [if_neg e, h55]
          constructor
          · rintro (z | ⟨c, p, q, u⟩)
            · exact Or.inl z
            · exact Or.inr ⟨c, p, by omega, by rw [(at_o c p q).1]; exact u⟩
          · rintro (z | ⟨c, p, q, u⟩)
            · exact Or.inl z
            · by_cases e2 : c = k
              · rw [e2, at_w] at u; exact absurd u e
              · exact Or.inr ⟨c, p, by omega, by rw [← (at_o c p (by omega)).1]; exact u⟩
    · have yb : mBrk T k tick := by
        apply bk.mp
        apply Classical.byContradiction
        intro w
        rw [if_neg w] at xb
        exact z xb
      rw [if_pos (mV_t yb)] at step stepE
      have at_i : ∀ i, ¬ i = 30 + (k : Int) → mK T (mS T) tick cl R (k + 1) i = K i := fun i p => by rw [step, mSet_n p]
      have at_w : mK T (mS T) tick cl R (k + 1) (30 + k) = 2 := by rw [step, mSet_s]
      refine ih (k + 1) _ hG (by omega) (by omega) (fun p i w => by rw [xup_o (by omega)]; exact hK p i w) (hC.of hT (fun p i w => xup_o (by omega)) fun i w => at_i i (by omega)) (fun c p q => ?_) (by rw [stepE]; exact hE.of fun p i w => xup_o (by omega)) (by rw [stepE]; exact hEn) (by rw [xup_o (by omega)]; exact h4) (fun z c p q => ?_) (by rw [xup_o (by omega)]; exact h5') ?_
      · by_cases e : c = k
        · rw [e, xup_s, at_w]
        · rw [xup_i e, at_i _ (by omega)]
          exact hW c p (by omega)
      · rw [xup_o (by omega)] at z
        rw [at_i c (by omega)]
        by_cases e : c = k
        · rw [e]; exact ek
        · exact h4' z c p (by omega)
      · unfold cS5 at h55 ⊢
        rw [xup_o (by omega), h55]
        constructor
        · rintro (z | ⟨c, p, q, u⟩)
          · exact Or.inl z
          · exact Or.inr ⟨c, p, by omega, by rw [at_i _ (by omega)]; exact u⟩
        · rintro (z | ⟨c, p, q, u⟩)
          · exact Or.inl z
          · by_cases e2 : c = k
            · rw [e2, at_w] at u; omega
            · exact Or.inr ⟨c, p, by omega, by rw [← at_i _ (by omega)]; exact u⟩
theorem k60 (hP : xPT F) (hd : 3 < d) (hr : xob 6 r) (ht : xob 9 t) (hT : mT T) (hdis : t + 17 ≤ r ∨ r + 28 ≤ t) (hw : cTw F t T) (h : cCo F r t T R) (hJ : mJ T R) (h12 : F r 2 = tick) (htk : 0 ≤ tick ∧ tick ≤ 100000) (h15 : F r 5 = 0 ∨ F r 5 = 1) (hE : cEv F r E) (hEn : mEn E) (hcl : cl = mV (mClo T R)) (q : ∀ G, xPT G → cKm r F G → cCo G r t T (mK T (mS T) tick cl R (T 5).toNat) → cWh G r T (mK T (mS T) tick cl R (T 5).toNat) → cEv G r (mKE T (mS T) tick cl R E (T 5).toNat) → mEn (mKE T (mS T) tick cl R E (T 5).toNat) → (G r 4 = 0 ∨ G r 4 = 1) → (G r 4 = 0 → ∀ c, 0 ≤ c → c < T 5 → mK T (mS T) tick cl R (T 5).toNat c = R c) → (G r 5 = 0 ∨ G r 5 = 1) → cS5 F G r (mK T (mS T) tick cl R (T 5).toNat) (T 5) → Q G) : xMV X d 60 [.ref r] F Q := by
  have hT' := hT
  obtain ⟨h0, h1, h2, h3, h4, h5, h6, h7, hX, hO, hL, _⟩ := hT'
  have j3 := hJ.2.2.1
  have loop : ∀ (n : Nat) (c : Int) (G : XF) (w2 w3 : Value), xPT G → 0 ≤ c → c + n = R 131 → (∀ p i, ¬ p = r + 8 → ¬ (p = r ∧ i = 4) → G p i = F p i) → G r 4 = 0 → (∀ k, 0 ≤ k → k < c → G (r + 8) k = 0) → xW X d 60 7 [.ref r, vi c, w2, w3] [] G (xqv Q) := by
    intro n
    induction n with
    | zero =>
      intro c G w2 w3 hG hc hn hk h4' hv
      have gw : cTw G t T := hw.of hT fun p i z => hk p i (by omega) (by omega)
      have gC : cCo G r t T R := h.of hT (fun p i z => hk p i (by omega) (by omega)) fun _ _ => rfl
      have gE : cEv G r E := hE.of fun p i z => hk p i (by omega) (by omega)
      have gK : cKm r F G := fun p i z => hk p i (by omega) (by omega)
      have g2 : G r 2 = tick := by rw [hk r 2 (by omega) (by omega)]; exact h12
      have g3 : G r 3 = R 131 := gC.2.2.2.2.1
      have g5 : G r 5 = F r 5 := hk r 5 (by omega) (by omega)
      refine s60_7 hG hr ?_
      rw [g3, g2]
      refine ⟨⟨by omega, by omega⟩, ⟨by omega, by omega⟩, fun _ => ⟨t, gC.1, ht, ?_⟩, fun z => absurd (by omega) z⟩
      rw [gw.1.2.2.2.1]
      refine ⟨⟨by omega, by omega⟩, ⟨by omega, by omega⟩, fun z => ⟨t, gC.1, ht, 3, hd, k75 hG ht hT gw ⟨by omega, by omega⟩ fun v hv' => ⟨3, hd, k61 hG (by omega) hr ht hT gw gC hJ fun y hy hy2 _ => ?_⟩⟩, fun z _ => ?_⟩
      · have mq := mK_q (S := mS T) (t := tick) (cl := cl) (E := E) hT hJ (R 131).toNat (by omega) (Or.inl (by omega))
        rw [g3]
        have := l60c (X := X) (d := d) (Q := Q) (R := R) (cl := cl) (E := E) G (by omega) hr ht hT hdis gw hJ g2 htk z v hv' y hy (by
          rcases hy2 with a | a | a
          · exact Or.inl a
          · exact Or.inr (Or.inl a)
          · refine Or.inr (Or.inr ?_)
            rw [a.v, hcl]) (fun H hH kH a b c e f g i j => q H hH (gK.trans kH) a b c e f g i (by unfold cS5 at j ⊢; rw [← g5]; exact j)) (T 5 - R 131).toNat (R 131).toNat G hG (by omega) (by omega) cKm.refl (gC.of hT (fun _ _ _ => rfl) fun i w => by rw [mq.1, if_neg (by omega)]) (fun k a b => by rw [mq.1, if_pos (by omega), if_pos (by omega)]; exact hv k a (by omega)) (by rw [mq.2]; exact gE) (by rw [mq.2]; exact hEn) (Or.inl h4') (fun _ k a b => by rw [mq.1, if_neg (by omega)]) (by rw [g5]; exact h15) ⟨fun u => Or.inl u, fun u => by
            rcases u with u | ⟨k, a, b, e⟩
            · exact u
            · rw [mq.1, if_pos (by omega), if_pos (by omega)] at e; omega⟩
        rw [show (((R 131).toNat : Nat) : Int) = R 131 by omega] at this
        exact this
      · have mq := mK_q (S := mS T) (t := tick) (cl := cl) (E := E) hT hJ (T 5).toNat (by omega) (Or.inr (by omega))
        refine l60b G hr ht hT hdis gw gC.1 (R 131) w2 w3 (fun H hH kH vH => q H hH (gK.trans fun p i w => kH p i (by omega)) (gC.of hT (fun p i w => kH p i (by omega)) fun i w => by rw [mq.1, if_neg (by omega)]) (fun k a b => ?_) (by rw [mq.2]; exact gE.of fun p i w => kH p i (by omega)) (by rw [mq.2]; exact hEn) (Or.inl (by rw [kH r 4 (by omega)]; exact h4')) (fun _ k a b => by rw [mq.1, if_neg (by omega)]) (by rw [kH r 5 (by omega), g5]; exact h15) ?_) (T 5 - R 131).toNat (R 131) G hG (by omega) (by omega) (by omega) (fun _ _ _ => rfl) fun k => by rw [if_neg (by omega)]
        · rw [vH k a b, mq.1, if_pos (show 30 ≤ 30 + k ∧ 30 + k < 30 + ((T 5).toNat : Int) by omega)]
          by_cases e : k < R 131
          · rw [if_pos e, if_pos (by omega)]; exact hv k a (by omega)
          · rw [if_neg e, if_neg (by omega)]
        · unfold cS5
          rw [kH r 5 (by omega), g5]
          refine ⟨fun u => Or.inl u, fun u => ?_⟩
          rcases u with u | ⟨k, a, b, e⟩
          · exact u
          · rw [mq.1, if_pos (by omega)] at e
            by_cases e2 : 30 + k < 30 + R 131
            · rw [if_pos e2] at e; omega
            · rw [if_neg e2] at e; omega
    | succ n ih =>
      intro c G w2 w3 hG hc hn hk h4' hv
      have g3 : G r 3 = R 131 := by rw [hk r 3 (by omega) (by omega)]; exact h.2.2.2.2.1
      refine s60_7 hG hr ?_
      rw [g3]
      refine ⟨⟨by omega, by omega⟩, ⟨by omega, by omega⟩, fun z => absurd z (by omega), fun _ => ⟨by omega, fun hH => ih (c + 1) _ w2 w3 hH (by omega) (by omega) (fun p i a b => by rw [xup_o a]; exact hk p i a b) (by rw [xup_o (by omega)]; exact h4') fun k a b => ?_⟩⟩
      by_cases z : k = c
      · rw [z, xup_s]
      · rw [xup_i z]; exact hv k a (by omega)
  exact m60 hP hr fun hG => loop (R 131).toNat 0 _ _ _ hG (by omega) (by omega) (fun p i a b => xup_n (by omega)) xup_s fun k a b => by omega
end MC
end CL8
