section CL29
variable {X : List Int32} {d : Nat} {F : XF}
/-! the class's reader: 18 holds taped (0), fault (1), its place (2), the end of the text (6), a token: kind (8: 0 none, 1 number, 2 word, 3 other), where it begins (9), its value (10), where the next begins (11); 19 the tape -/
theorem k33 {c : Int} {Q : Int → XF → Prop} (hP : xPT F) (hc : inR c) (q : ∀ y, mB y (48 ≤ c ∧ c ≤ 57) → Q y F) : xMI X d 33 [vi c] F Q :=
  m33 hP ⟨hc, fun z _ => q 0 (mB.i0 fun w => by omega), fun z => ⟨hc, fun z1 _ => q 0 (mB.i0 fun w => by omega), fun z1 _ => q 1 (mB.i1 ⟨by omega, by omega⟩)⟩⟩
theorem k34 {c : Int} {Q : Int → XF → Prop} (hP : xPT F) (hc : inR c) (q : ∀ y, mB y (97 ≤ c ∧ c ≤ 122) → Q y F) : xMI X d 34 [vi c] F Q :=
  m34 hP ⟨hc, fun z _ => q 0 (mB.i0 fun w => by omega), fun z => ⟨hc, fun z1 _ => q 0 (mB.i0 fun w => by omega), fun z1 _ => q 1 (mB.i1 ⟨by omega, by omega⟩)⟩⟩
theorem k31 {f p : Int} {Q : XF → Prop} (hP : xPT F) (hf : inR (F 18 1)) (q : ∀ G, xPT G → (∀ o i, ¬ (o = 18 ∧ (i = 1 ∨ i = 2)) → G o i = F o i) → (F 18 1 = 0 → G 18 1 = f ∧ G 18 2 = p) → (¬ F 18 1 = 0 → G 18 1 = F 18 1 ∧ G 18 2 = F 18 2) → Q G) : xMV X d 31 [.ref 18, vi f, vi p] F Q :=
  m31 hP ⟨hf, fun z _ => q F hP (fun _ _ _ => rfl) (fun w => absurd w z) (fun _ => ⟨rfl, rfl⟩), fun z hG => q _ hG (fun o i w => by rw [xup_n (by omega), xup_n (by omega)]) (fun _ => ⟨by rw [xup_i (by decide), xup_s], xup_s⟩) (fun w => absurd w z)⟩
end CL29
