/-! THE REFERENCE: a meeting -/
theorem or_c {x r : Int32} {c : Bool} (hr : bl (c = true) r) (y : Int32) (hy : y = x ||| r) : (y = 0 ↔ x = 0 ∧ c = false) := by
  rw [hy, or_0]
  constructor
  · rintro ⟨h1, h2⟩
    refine ⟨h1, ?_⟩
    cases hc : c with
    | false => rfl
    | true => exact absurd hc (hr.f h2)
  · rintro ⟨h1, h2⟩
    refine ⟨h1, Classical.byContradiction fun z => ?_⟩
    have := hr.t z
    rw [h2] at this
    exact absurd this (by decide)
/-- all lines that count, met -/
def aM (σ : Mem) (nF nL : Nat) : Mw := mtF σ (stF σ nL 0 0) nF nL full
def aC (σ : Mem) (nF nL : Nat) : Int32 := mtC σ (stF σ nL 0 0) nF nL full
theorem aM_RW {σ : Mem} {nF nL : Nat} (h : LV σ nF nL) : RW (aM σ nF nL) := mt_RW h full_RW
theorem aC_01 (σ : Mem) (nF nL : Nat) : aC σ nF nL = 0 ∨ aC σ nF nL = 1 := emC_01 _ _ _ _ (Or.inl rfl)
