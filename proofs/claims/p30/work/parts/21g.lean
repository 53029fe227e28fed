/-! THE REFERENCE: choosers: that they end, and leave what is told -/
def WE (τ ρ : Mem) : Prop := (∀ i : Nat, (1 ≤ i ∧ i < 12 ∨ 16 ≤ i) → ρ 0 i = τ 0 i) ∧ ∀ p : Nat, (1 ≤ p ∧ p < 7 ∨ 10 ≤ p) → ρ p = τ p
theorem WE.rf {τ : Mem} : WE τ τ := ⟨fun _ _ => rfl, fun _ _ => rfl⟩
theorem WE.trans {τ ρ χ : Mem} (h : WE τ ρ) (h2 : WE ρ χ) : WE τ χ := ⟨fun i hi => (h2.1 i hi).trans (h.1 i hi), fun p hp => (h2.2 p hp).trans (h.2 p hp)⟩
theorem WE.te {τ ρ : Mem} (h : WE τ ρ) : TE τ ρ := ⟨h.1 3 (by omega), fun p hp => h.2 p (by omega)⟩
theorem WE.etm {n : Nat} {τ ρ : Mem} (h : WE τ ρ) : tm n ρ = tm n τ := h.te.etm
theorem WE.lv {n nF nL : Nat} {τ ρ : Mem} (h : WE τ ρ) (hL : LV (tm n τ) nF nL) : LV (tm n ρ) nF nL := by rw [h.etm]; exact hL
theorem SE.we {τ ρ : Mem} (h : SE τ ρ) : WE τ ρ := ⟨fun i _ => by rw [h 0 (by decide)], fun p hp => h p (by omega)⟩
theorem put_we {d : Nat} {m : Mw} {τ : Mem} : WE τ (put d m τ) := put_se.we
theorem mst0_we {τ : Mem} {i : Nat} {x : Int32} (hi : i = 0 ∨ i = 12 ∨ i = 13 ∨ i = 14 ∨ i = 15) : WE τ (mst τ 0 i x) := ⟨fun j hj => by rw [mst_eq, upd_ne (by omega)], fun p hp => mst_ne (by omega)⟩
theorem mstp_we {τ : Mem} {p i : Nat} {x : Int32} (hp : 7 ≤ p ∧ p < 10) : WE τ (mst τ p i x) := ⟨fun j hj => by rw [mst_ne (by omega)], fun q hq => mst_ne (by omega)⟩
theorem mup_we {τ : Mem} {p : Nat} {f : Nat → Int32} (hp : 7 ≤ p ∧ p < 10) : WE τ (mup τ p f) := ⟨fun j hj => by rw [mup_ne (by omega)], fun q hq => mup_ne (by omega)⟩
theorem mlg_we {τ : Mem} {x : Int64} : WE τ (mlg τ 0 14 x) := (mst0_we (by omega)).trans (mst0_we (by omega))
theorem row_e7 {d : Nat} {τ ρ : Mem} (h : ρ 7 = τ 7) : row d ρ = row d τ := by unfold row; rw [h]
theorem nI_m1 {d : Nat} (h : 1 ≤ d) : nI d - 1 = nI (d - 1) := by
  have := nI_1 (d - 1)
  rw [show d - 1 + 1 = d by omega] at this
  rw [← this]
  exact Int32.add_sub_cancel _ _
