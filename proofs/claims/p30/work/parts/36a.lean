/-! SIDE BY SIDE: the best choice, what a field is, when it changed -/
section JB
variable {am g : Nat → Nat} {a1 a2 a3 a4 : Int32} {σ τ : Mem} {nF : Nat} {n : Int64} {v : Value}
theorem wt_w (h : RR σ g τ nF) : ∀ f : Nat, f < nF → τ 2 f = nI (σ 3 f).toNatClampNeg ∧ (σ 3 f).toNatClampNeg ≤ 9 := fun f hf => by
  have h5 := h.lv.1
  have e : σ 3 f = τ 2 f := h.ag 3 f (by decide) (by decide) (by omega)
  obtain ⟨c, hc, ec⟩ := vin_ex (by decide) (h.bw.1 f hf)
  rw [← e, ec, nI_clamp (by omega)]
  exact ⟨rfl, by omega⟩
theorem bS_eq (h : RR σ g τ nF) : cv_bS (cv_P (tm (g 0) τ) (stF (tm (g 0) τ) (g 0) 0 0) (g 0) nF full) (fun f => (σ 3 f).toNatClampNeg) nF = cv_bS (cv_P σ (stF σ (g 0) 0 0) (g 0) nF full) (fun f => (σ 3 f).toNatClampNeg) nF := by
  rw [← ag_st h.ag h.ci.lv (g 0) 0 0 (Nat.zero_add _), ← P_ag h.ag h.lv.2.1]
theorem best_none (h : RR σ g τ nF) (e : σ 18 4 = -1) : ∀ f : Nat, f < 5 → σ 21 f = -1 := by
  rcases h.bw.2.2 with ⟨-, -, z⟩ | ⟨z, z2, -⟩
  · exact z
  · exact absurd (by rw [← z2]; exact e) (m1_nI z)
theorem best_may (h : RR σ g τ nF) (e : ¬ σ 18 4 = -1) : ∀ f : Nat, f < nF → ∃ j : Nat, j < 8 ∧ σ 21 f = nI j ∧ hasB (σ 13 f) (nI j) := fun f hf => by
  have h5 := h.lv.1
  have hL := h.ci.lv
  obtain ⟨b1, b2, b3⟩ := h.bw
  have k := bf_has (P := cv_P σ (stF σ (g 0) 0 0) (g 0) nF full) (w := fun f => (σ 3 f).toNatClampNeg) (nF := nF) nF 0 (fun _ => 0) (1000, fun _ => 0) (Nat.zero_add _) (fun i hi => absurd hi (Nat.not_lt_zero i)) (fun y _ ho => cs_1000 h5 (fun i hi => (wt_w h i hi).2) ho) (Or.inl rfl)
  have e0 : cv_bS (cv_P σ (stF σ (g 0) 0 0) (g 0) nF full) (fun f => (σ 3 f).toNatClampNeg) nF = cv_bf (cv_P σ (stF σ (g 0) 0 0) (g 0) nF full) (fun f => (σ 3 f).toNatClampNeg) nF nF 0 (fun _ => 0) (1000, fun _ => 0) := if_neg (by omega)
  rw [← e0] at k
  generalize cv_bS (cv_P σ (stF σ (g 0) 0 0) (g 0) nF full) (fun f => (σ 3 f).toNatClampNeg) nF = S at b3 k
  rcases b3 with ⟨-, e2, -⟩ | ⟨e1, e2, e3, -⟩
  · exact absurd e2 e
  · rcases k with k | ⟨-, kP, ko⟩
    · omega
    · refine ⟨S.2 f, ko f hf, e3 f hf, ?_⟩
      rw [(h.oi.2.2.2 (by omega)).1]
      exact (mt_in hL ko kP.1 full_RW kP.2).2 f hf
end JB
