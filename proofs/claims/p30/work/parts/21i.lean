/-! THE REFERENCE: lines and commits told -/
abbrev GP : Type := Int32 → (Nat → Nat) → (Nat → Nat) → Mem → Prop
theorem vin_6n (j : Nat) (h : j < 6) : vp_in (nI j) 6 := vin_j h (by decide)
theorem k_no {j k : Nat} (h : nI j = nI k) (hj : j < 2 ^ 31) (hk : k < 2 ^ 31) (hn : j ≠ k) : False := hn (nI_inj hj hk h)
theorem s8_nI : ∀ j : Nat, j < 256 → nI j &&& 255 = nI j := by decide +kernel
theorem one_s8 : ∀ j : Nat, j < 8 → ((1 : Int32) <<< (nI j &&& 31)) &&& 255 = (1 : Int32) <<< (nI j &&& 31) := by decide +kernel
