/-! SIDE BY SIDE: how many choices there are with a number -/
section JD
variable {am g : Nat → Nat} {a1 a2 a3 a4 : Int32} {σ τ : Mem} {nF : Nat} {n : Int64} {v : Value}
theorem qe_ct {nL nC f : Nat} {p : Int32} (h : CI σ nF nL nC) : QE σ (ctR nF nL σ f p) := by
  refine ⟨fun p hp => ?_, ?_, ctR_best.2 4 (by decide), ctR_best.2 5 (by decide)⟩
  · by_cases e : p = 21
    · subst e; exact ctR_best.1
    · exact ctR_fr (by unfold chK; omega) (by omega) _ _ _
  · rw [ctR_fr (by unfold chK; omega) (by decide)]; exact h.2.2.2.2.1
end JD
