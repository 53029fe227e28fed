/-! A CONTRADICTION, AND NONE -/
section EM
variable {nF : Nat}
/-- a contradiction leaves nothing; without one nothing is empty -/
theorem em_all {m : Mw} : ∀ (d f : Nat), emC m d f 0 = 0 → ∀ i : Nat, f ≤ i → i < f + d → ¬ m i = 0 := by
  intro d
  induction d with
  | zero => intro f _ i h1 h2; omega
  | succ d ih =>
    intro f he i h1 h2
    unfold emC at he
    by_cases q : m f = 0
    · rw [if_pos q, emC_1] at he
      exact absurd he (by decide)
    · rw [if_neg q] at he
      by_cases e : i = f
      · subst e; exact q
      · exact ih (f + 1) he i (by omega) (by omega)
theorem mt_no {ρ : Mem} {set : Int32} {nL f : Nat} {m : Mw} (hf : f < 5) (h : ¬ mtC ρ set nF nL m = 0) : mtF ρ set nF nL m f = 0 := by
  unfold mtF finM
  rw [if_neg (by exact h)]
  exact if_pos hf
theorem mt_some {ρ : Mem} {set : Int32} {nL f : Nat} {m : Mw} (hf : f < nF) (h : mtC ρ set nF nL m = 0) : ¬ mtF ρ set nF nL m f = 0 := by
  unfold mtF finM
  rw [if_pos (by exact h)]
  exact em_all nF 0 h f (Nat.zero_le _) (by omega)
end EM
