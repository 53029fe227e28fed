/-! THE DIGEST, the reference's way -/
def Dg (τ ρ : Mem) (s : Int64) : Prop := WE τ ρ ∧ ρ 0 0 = 0 ∧ dl64 (ρ 0 14) (ρ 0 15) = s
theorem mlg_14 {τ : Mem} {x : Int64} : dl64 (mlg τ 0 14 x 0 14) (mlg τ 0 14 x 0 15) = x := by
  unfold mlg
  rw [mst_eq, upd_ne (by decide), mst_eq, upd_eq, upd_eq]
  exact dl64_ok x
theorem Dg.mv {τ ρ χ : Mem} {s : Int64} (h : Dg τ ρ s) (w : WY ρ χ) : Dg τ χ s := ⟨h.1.trans w.1, w.z.trans h.2.1, by rw [w.2 14 (Or.inr (Nat.le_refl _)), w.2 15 (Or.inr (by decide))]; exact h.2.2⟩
section JG7
variable {am g : Nat → Nat} {a1 a2 a3 a4 : Int32} {σ τ : Mem} {nF : Nat} {n : Int64} {v : Value}
end JG7
