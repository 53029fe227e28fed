/-! THE REFERENCE: whether one is chosen, and how many choices there are -/
theorem bS_none {P : (Nat → Nat) → Prop} {w : Nat → Nat} {nF : Nat} (h : ∀ y : Nat → Nat, cv_Ok nF y → ¬ P y) : cv_bS P w nF = (1000, fun _ => 0) := by
  unfold cv_bS
  split
  · rfl
  · exact bf_stay nF 0 _ _ (Nat.zero_add _) (fun f hf => absurd hf (Nat.not_lt_zero f)) (fun y _ ho hP => absurd hP (h y ho))
theorem al_RW {F N : Nat} (hF : F < 5) (hN : N < 8) : RW (cv_al F N) := upd_RW full_RW hF (b1_255 N hN)
theorem full_b1 : ∀ N : Nat, N < 8 → (255 : Int32) &&& ((1 : Int32) <<< (nI N &&& 31)) = (1 : Int32) <<< (nI N &&& 31) := by decide +kernel
