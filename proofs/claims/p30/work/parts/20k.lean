/-! STRING BUILDERS: letters behind letters, none too many -/
def BS (n c : Nat) (τ : Mem) : Prop := τ 0 1 = 0 ∧ τ 0 3 = nI c ∧ sb_Fit (τ 1)
theorem cap_ok {c n : Nat} (h : c + 1 ≤ n) (hn : n ≤ 64) : nI (c + 1) - ((nI n) >>> ((0 : Int32) &&& 31)) ≤ 0 := by
  have h0 : ∀ n : Nat, n < 65 → (nI n) >>> ((0 : Int32) &&& 31) = nI n := by decide +kernel
  rw [h0 n (by omega)]
  have h1 : ∀ n : Nat, n < 65 → ∀ c : Nat, c < 65 → c ≤ n → nI c - nI n ≤ 0 := by decide +kernel
  exact h1 n (by omega) (c + 1) (by omega) h
theorem fit_upd {f : Nat → Int32} {j : Nat} {x : Int32} (h : sb_Fit f) (hx : fits .byte (.int x) = true) : sb_Fit (upd f j x) := by
  intro i
  by_cases e : i = j
  · subst e; rw [upd_eq]; exact hx
  · rw [upd_ne e]; exact h i
theorem dig_fit : ∀ d : Nat, d < 8 → fits .byte (.int (vp_nar .byte (nI (48 + ((-(-(nI d))).toNatClampNeg) % 10)))) = true := by decide +kernel
theorem dig_a : ∀ d : Nat, d < 8 → ¬ (-(nI d) ≤ (-10 : Int32)) ∧ ((-100 : Int32) < -(nI d)) ∧ ((-9 : Int32) ≤ -(nI d)) ∧ ¬ (-(-(nI d)) < 0) ∧ (-(-(nI d))).toNatClampNeg < 100 ∧ (0 : Int32) ≤ nI d := by decide +kernel
