/-! SIDE BY SIDE: what is asked of a field -/
section JO
variable {am g : Nat → Nat} {a1 a2 a3 a4 : Int32} {σ τ : Mem} {nF : Nat} {n : Int64} {v : Value}
theorem may_eq (h : RR σ g τ nF) (h0 : 0 < nF) : aM (tm (g 0) τ) nF (g 0) = σ 13 := by
  rw [(h.oi.2.2.2 h0).1, (ag_a h.ag h.ci.lv).1]
end JO
