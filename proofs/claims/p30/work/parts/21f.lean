/-! THE REFERENCE: defaults, and what follows: that they end, and change only the rows of sets -/
def SE (τ ρ : Mem) : Prop := ∀ p : Nat, p ≠ 7 → ρ p = τ p
theorem SE.rf {τ : Mem} : SE τ τ := fun _ _ => rfl
theorem SE.trans {τ ρ χ : Mem} (h : SE τ ρ) (h2 : SE ρ χ) : SE τ χ := fun p hp => (h2 p hp).trans (h p hp)
theorem SE.te {τ ρ : Mem} (h : SE τ ρ) : TE τ ρ := ⟨by rw [h 0 (by decide)], fun p hp => h p (by omega)⟩
theorem SE.etm {n : Nat} {τ ρ : Mem} (h : SE τ ρ) : tm n ρ = tm n τ := h.te.etm
theorem SE.lv {n nF : Nat} {τ ρ : Mem} (h : SE τ ρ) (hL : LV (tm n τ) nF n) : LV (tm n ρ) nF n := by rw [h.etm]; exact hL
theorem put_se {d : Nat} {m : Mw} {τ : Mem} : SE τ (put d m τ) := fun _ hp => put_ne hp
/-- where a default stands -/
def ky (τ : Mem) (j : Nat) : Int := -((τ (100 + j) 4).toInt * 1099511627776) + (τ (100 + j) 3).toInt * 64 + (j : Int)
theorem ky_se {τ ρ : Mem} (h : SE τ ρ) (j : Nat) : ky ρ j = ky τ j := by unfold ky; rw [h (100 + j) (by omega)]
theorem i32_b (x : Int32) : -2147483648 ≤ x.toInt ∧ x.toInt < 2147483648 := ⟨Int32.le_toInt x, Int32.toInt_lt x⟩
theorem ky_lt {τ : Mem} {j : Nat} (hj : j < 30) : ky τ j < 4722366482869645213696 := by
  unfold ky
  have h1 := i32_b (τ (100 + j) 4)
  have h2 := i32_b (τ (100 + j) 3)
  omega
theorem ky_lo {τ : Mem} {j : Nat} : -4722366482869645213696 < ky τ j := by
  unfold ky
  have h1 := i32_b (τ (100 + j) 4)
  have h2 := i32_b (τ (100 + j) 3)
  omega
