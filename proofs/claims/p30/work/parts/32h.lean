/-! THE CLASS: what is only asked leaves all but its trials -/
def QE (σ σ' : Mem) : Prop := (∀ p : Nat, (p ≤ 13 ∨ p = 17 ∨ 21 ≤ p) → σ' p = σ p) ∧ bz (σ' 14 2) ∧ σ' 18 4 = σ 18 4 ∧ σ' 18 5 = σ 18 5
abbrev KQ (σ : Mem) (post : Int32 → Mem → Int64 → Value → Prop) : Prop := ∀ (k : Int32) (σ' : Mem) (n : Int64) (v : Value), QE σ σ' → post k σ' n v
theorem qe_rf {σ : Mem} {nF nL nC : Nat} (h : CI σ nF nL nC) : QE σ σ := ⟨fun _ _ => rfl, h.2.2.2.2.1, rfl, rfl⟩
theorem qe_ae {σ τ : Mem} {nF nL nC : Nat} (h : CI σ nF nL nC) (ha : AE σ τ) : QE σ τ := ⟨fun p hp => ha.1 p (by omega) (by omega), ha.2, by rw [ha.1 18 (by decide) (by decide)], by rw [ha.1 18 (by decide) (by decide)]⟩
section KQW
variable {post : Int32 → Mem → Int64 → Value → Prop} {σ : Mem} {nF nL nC : Nat} {a1 a2 a3 a4 : Int32} {n : Int64} {v : Value}
end KQW
/-! THE LOOP'S INVARIANT: side by side -/
theorem tI_5 : ∀ m : Nat, m < 6 → tI 5 m = -1 := by decide +kernel
theorem tI_6 : ∀ i : Nat, i < 30 → tI 6 i = -1 := by decide +kernel
theorem sI_26 : ∀ m : Nat, m < 6 → sI 26 m = -1 := by decide +kernel
theorem sI_39 : ∀ m : Nat, m < 6 → ∀ f : Nat, f < 5 → sI (39 + m) f = -1 := by decide +kernel
theorem sI_22 : ∀ f : Nat, f < 5 → sI 22 f = -1 := by decide +kernel
theorem sI_21 : ∀ f : Nat, f < 5 → sI 21 f = -1 := by decide +kernel
theorem sI_lo : ∀ p : Nat, p ≤ 17 → ∀ j : Nat, sI p j = 0 := fun p hp j => by
  have e : ∀ p : Nat, p ≤ 17 → (Nat.beq p 18 = false) ∧ ((Nat.beq p 21 || Nat.beq p 22 || Nat.ble 39 p) = false) ∧ Nat.beq p 26 = false := by decide +kernel
  obtain ⟨e1, e2, e3⟩ := e p hp
  unfold sI
  rw [e1, e2, e3]
  rfl
theorem tI_z : ∀ p : Nat, p ≠ 5 → p ≠ 6 → ∀ j : Nat, tI p j = 0 := fun p h5 h6 j => by
  have e1 : Nat.beq p 5 = false := by
    cases hh : Nat.beq p 5 with
    | false => rfl
    | true => exact absurd (Nat.eq_of_beq_eq_true hh) h5
  have e2 : Nat.beq p 6 = false := by
    cases hh : Nat.beq p 6 with
    | false => rfl
    | true => exact absurd (Nat.eq_of_beq_eq_true hh) h6
  unfold tI
  rw [e1, e2]
  rfl
theorem ci_0 : CI sI 0 0 0 := by
  refine ⟨⟨by decide, by decide, rfl, rfl, fun j hj => absurd hj (Nat.not_lt_zero j)⟩, by decide, rfl, bz0, bz0, fun i => ?_, fun m hm => Or.inl (sI_26 m hm)⟩
  by_cases hi : i < 5
  · exact Or.inl (show fl_row 5 (-1) (fun _ => 0) i = -1 from if_pos hi)
  · exact Or.inr ⟨0, by decide, (show fl_row 5 (-1) (fun _ => 0) i = 0 from if_neg hi)⟩
