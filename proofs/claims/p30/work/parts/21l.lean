/-! THE REFERENCE: value -/
theorem bs0 (n : Nat) : BS n 0 (fun _ _ => 0) := ⟨rfl, rfl, fun _ => (show fits .byte (.int 0) = true from by decide +kernel)⟩
/-- what is, is a number -/
theorem ntz8 : ∀ i : Nat, i < 256 → bcF (nI i) = 1 → ∃ j : Nat, j < 8 ∧ nI i = (1 : Int32) <<< (nI j &&& 31) := by
  have h : ∀ i : Nat, i < 256 → bcF (nI i) = 1 → (nI i = (1 : Int32) <<< (nI 0 &&& 31) ∨ nI i = (1 : Int32) <<< (nI 1 &&& 31) ∨ nI i = (1 : Int32) <<< (nI 2 &&& 31) ∨ nI i = (1 : Int32) <<< (nI 3 &&& 31) ∨ nI i = (1 : Int32) <<< (nI 4 &&& 31) ∨ nI i = (1 : Int32) <<< (nI 5 &&& 31) ∨ nI i = (1 : Int32) <<< (nI 6 &&& 31) ∨ nI i = (1 : Int32) <<< (nI 7 &&& 31)) := by decide +kernel
  intro i hi hb
  rcases h i hi hb with e | e | e | e | e | e | e | e
  · exact ⟨0, by decide, e⟩
  · exact ⟨1, by decide, e⟩
  · exact ⟨2, by decide, e⟩
  · exact ⟨3, by decide, e⟩
  · exact ⟨4, by decide, e⟩
  · exact ⟨5, by decide, e⟩
  · exact ⟨6, by decide, e⟩
  · exact ⟨7, by decide, e⟩
