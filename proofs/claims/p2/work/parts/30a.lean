abbrev IV : NXT := fun _ _ _ _ _ _ => True
theorem iv_step : STEP IV := sorry
theorem iv_start : ∀ (h8 : Nat) (u8 : Nat → Nat), IV sI 0 .null (amI h8 u8) (fun _ => 0) tI := fun _ _ => trivial
