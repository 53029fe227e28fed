/-! THE REFERENCE: what is told, as the class keeps it -/
def tm (n : Nat) (τ : Mem) : Mem := fun p j =>
  if p = 1 then (if j = 9 then τ 0 3 else if j = 10 then nI n else 0) else if p = 2 then τ 1 j else if p = 3 then τ 2 j else if p = 4 then τ (100 + j) 0 else if p = 5 then τ (100 + j) 1 else if p = 6 then τ (100 + j) 2 else if p = 7 then τ (100 + j) 3 else if p = 8 then τ (100 + j) 4 else if p = 9 then τ (100 + j) 5 else if p = 10 then τ (100 + j) 6 else 0
/-- two memories of the reference that tell the same -/
def TE (τ ρ : Mem) : Prop := ρ 0 3 = τ 0 3 ∧ (∀ p : Nat, (p = 1 ∨ p = 2 ∨ 100 ≤ p) → ρ p = τ p)
theorem TE.etm {τ ρ : Mem} {n : Nat} (h : TE τ ρ) : tm n ρ = tm n τ := by
  funext p j
  unfold tm
  rw [h.1, h.2 1 (by omega), h.2 2 (by omega), h.2 (100 + j) (by omega)]
theorem TE.rf {τ : Mem} : TE τ τ := ⟨rfl, fun _ _ => rfl⟩
theorem TE.trans {τ ρ χ : Mem} (h : TE τ ρ) (h2 : TE ρ χ) : TE τ χ := ⟨h2.1.trans h.1, fun p hp => (h2.2 p hp).trans (h.2 p hp)⟩
theorem TE.mup {τ : Mem} {p : Nat} {f : Nat → Int32} (hp : 2 < p ∧ p < 100) : TE τ (mup τ p f) := ⟨by rw [mup_ne (by omega)], fun q hq => mup_ne (by omega)⟩
theorem TE.mst0 {τ : Mem} {i : Nat} {x : Int32} (hi : i ≠ 3) : TE τ (mst τ 0 i x) := ⟨by rw [mst_eq, upd_ne (Ne.symm hi)], fun q hq => mst_ne (by omega)⟩
theorem TE.mst {τ : Mem} {p i : Nat} {x : Int32} (hp : 2 < p ∧ p < 100) : TE τ (mst τ p i x) := ⟨by rw [mst_ne (by omega)], fun q hq => mst_ne (by omega)⟩
theorem nfm {n nF nL : Nat} {τ : Mem} (h : LV (tm n τ) nF nL) : τ 0 3 = nI nF := h.nf
/-- from 0 to n - 1 -/
theorem is_vin {x : Int32} {n : Nat} (hn : n < 2 ^ 30) : (¬ x < 0 ∧ ¬ (nI n - 1) < x) ↔ vp_in x n := by
  have h31 : n < 2 ^ 31 := by omega
  have e : (nI n - 1).toInt = (n : Int) - 1 := by
    rcases Nat.eq_zero_or_pos n with z | z
    · subst z; decide
    · have h1 := nI_1 (n - 1)
      rw [show n - 1 + 1 = n by omega] at h1
      rw [← h1, show nI (n - 1) + 1 - 1 = nI (n - 1) from Int32.add_sub_cancel _ _, nI_toInt (by omega)]
      omega
  constructor
  · rintro ⟨h1, h2⟩
    refine vin_lo h31 h1 (fun z => h2 ?_)
    rw [Int32.le_iff_toInt_le, nI_toInt h31] at z
    rw [Int32.lt_iff_toInt_lt, e]
    omega
  · intro h
    obtain ⟨j, hj, rfl⟩ := vin_ex h31 h
    refine ⟨nI_pos0 (by omega), fun z => ?_⟩
    rw [Int32.lt_iff_toInt_lt, e, nI_toInt (by omega)] at z
    omega
theorem kd5 {x : Int32} (h : vp_in x 6) : (5 ≤ x → x = 5) ∧ (¬ 5 ≤ x → ¬ x = 5) := by
  obtain ⟨j, hj, rfl⟩ := vin_ex (by decide) h
  refine ⟨fun q => ?_, fun q e => q (by rw [e]; decide)⟩
  have := (nI_leI (a := 5) (b := j) (by decide) (by omega)).mp q
  rw [show j = 5 by omega]
  rfl
