section CL30
variable {X : List Int32} {d : Nat} {F : XF}
/-- a town is cleared -/
theorem k71 {t : Nat} {T : Int → Int} {Q : XF → Prop} (hP : xPT F) (ht : xob 9 t) (q : ∀ G, xPT G → (∀ p i, ¬ p = t → G p i = F p i) → cTw G t (rT0 T) → Q G) : xMV X d 71 [.ref t] F Q := by
  have r0 : rT0 T 0 = 100 := rfl
  have r1 : rT0 T 1 = 10 := rfl
  have r2 : rT0 T 2 = 2 := rfl
  have z : ∀ i, 3 ≤ i → i < 163 → rT0 T i = 0 := fun i a b => rT0_z ⟨a, b⟩
  have z4 := z 4 (by omega) (by omega)
  have z5 := z 5 (by omega) (by omega)
  have z6 := z 6 (by omega) (by omega)
  have z7 := z 7 (by omega) (by omega)
  refine m71 hP ht fun hG => q _ hG (fun p i w => by rw [xup_o w, xup_o w, xup_o w, xup_o w, xup_o w, xup_o w, xup_o w, xup_o w, xup_o w]) ⟨⟨?_, ?_, ?_, ?_, ?_, ?_, ?_, ?_⟩, fun x a b => by omega, fun x a b => by omega, fun c hc => ?_, fun k a b => by omega, fun k a b => by omega⟩
  · rw [r0, xup_i (by decide), xup_i (by decide), xup_i (by decide), xup_i (by decide), xup_i (by decide), xup_i (by decide), xup_i (by decide), xup_i (by decide), xup_s]
  · rw [r1, xup_i (by decide), xup_i (by decide), xup_i (by decide), xup_i (by decide), xup_i (by decide), xup_i (by decide), xup_i (by decide), xup_s]
  · rw [r2, xup_i (by decide), xup_i (by decide), xup_i (by decide), xup_i (by decide), xup_i (by decide), xup_i (by decide), xup_s]
  · rw [z 3 (by omega) (by omega), xup_i (by decide), xup_i (by decide), xup_i (by decide), xup_i (by decide), xup_i (by decide), xup_s]
  · rw [z4, xup_i (by decide), xup_i (by decide), xup_i (by decide), xup_i (by decide), xup_s]
  · rw [z5, xup_i (by decide), xup_i (by decide), xup_i (by decide), xup_s]
  · rw [z6, xup_i (by decide), xup_s]
  · rw [z7, xup_s]
  · rw [z _ (by omega) (by omega), xup_i (by decide), xup_i (by decide), xup_s, mbit_0, if_neg (by decide)]
end CL30
