/-! SIDE BY SIDE: field and the five that tell lines -/
theorem RR.ref {σ τ : Mem} {g : Nat → Nat} {nF : Nat} {x y : Int32} (h : RR σ g τ nF) : RR σ g (mst (mst τ 0 0 y) 0 0 x) nF := h.q (fun _ _ => rfl) ⟨h.ci.2.2.2.2.1, rfl, rfl⟩ rf_we
theorem bl_ne {c : Prop} {r : Int32} (h : bl c r) : ¬ r = 0 ↔ c := ⟨h.t, fun a b => h.f b a⟩
theorem two_no {kd : Int32} (h : ¬ two kd) {p q r : Prop} : (p ∧ (two kd → q)) ↔ p := ⟨fun z => z.1, fun z => ⟨z, fun t => absurd t h⟩⟩
section XW
variable {am g : Nat → Nat} {post : GP} {a1 a2 a3 a4 : Int32} {τ : Mem} {nF : Nat}
end XW
section JW
variable {am g : Nat → Nat} {a1 a2 a3 a4 : Int32} {σ τ : Mem} {nF : Nat} {n : Int64} {v : Value}
/-- what may come of a word that both are told -/
abbrev J1 (g : Nat → Nat) (K : Int32 → Mem → Int64 → Value → Int32 → Mem → Prop) : Prop := ∀ (k : Int32) (σ2 : Mem) (n3 : Int64) (v4 : Value) (r5 : Int32) (τ6 : Mem) (nF' : Nat), RR σ2 g τ6 nF' → τ6 0 0 = k → (k = 0 → n3 = r5.toInt64) → K k σ2 n3 v4 r5 τ6
theorem no1 {k : Int32} (h : ¬ k = 0) {p : Prop} : k = 0 → p := fun z => absurd z h
end JW
