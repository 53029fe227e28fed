/-! SIDE BY SIDE: machines, what they have, commits asked -/
theorem sv_no {x : Int32} {n : Nat} (hn : n < 2 ^ 31) (h : vp_in x n) : ¬ sw_out x n := by
  obtain ⟨j, hj, rfl⟩ := vin_ex hn h
  unfold sw_out
  rw [nI_toInt (by omega)]
  omega
theorem sv_yes {x : Int32} {n : Nat} (h : ¬ vp_in x n) (hn : n < 2 ^ 31) : sw_out x n := by
  rcases sw_in x n hn with q | ⟨j, hj, rfl⟩
  · exact q
  · exact absurd (vin_j hj (by omega)) h
section JQ
variable {am g : Nat → Nat} {a1 a2 a3 a4 : Int32} {σ τ : Mem} {nF : Nat} {n : Int64} {v : Value}
theorem h00 (h : RR σ g τ nF) : RR σ g (mst τ 0 0 0) nF ∧ mst τ 0 0 0 0 0 = 0 := ⟨h.w (mst0_we (by omega)), by rw [mst_eq, upd_eq]⟩
end JQ
