/-! SIDE BY SIDE: commit, wave, patch, absorb, knock -/
section JG
variable {am g : Nat → Nat} {a1 a2 a3 a4 : Int32} {σ τ : Mem} {nF : Nat} {n : Int64} {v : Value}
theorem RR.w (h : RR σ g τ nF) {ρ : Mem} (w : WE τ ρ) : RR σ g ρ nF := h.q (fun _ _ => rfl) ⟨h.ci.2.2.2.2.1, rfl, rfl⟩ w
end JG
