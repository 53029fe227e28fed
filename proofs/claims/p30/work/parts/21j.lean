/-! THE REFERENCE: what is only asked -/
/-- all that a question may leave -/
abbrev WQ (τ : Mem) (post : Int32 → Mem → Prop) : Prop := ∀ (r : Int32) (ρ : Mem), WE τ ρ → post r ρ
theorem WQ.at {τ ρ : Mem} {post : Int32 → Mem → Prop} (h : WQ τ post) (w : WE τ ρ) : WQ ρ post := fun r χ w2 => h r χ (w.trans w2)
