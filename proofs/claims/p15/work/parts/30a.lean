/-! THE INVARIANT: what is told is in order on both sides, and both were refused as often -/
def IV : NXT := fun σ _ _ _ g τ => (∃ nF nL nC : Nat, CI σ nF nL nC) ∧ RG (g 0) (g 2) τ ∧ σ 0 3 = τ 0 8
theorem LV.sm0 {σ : Mem} {nF nL i : Nat} {x : Int32} (h : LV σ nF nL) : LV (mst σ 0 i x) nF nL := by
  unfold LV at h ⊢
  rw [mst_ne (by decide), mst_ne (by decide), mst_ne (by decide), mst_ne (by decide), mst_ne (by decide)]
  exact h
theorem iv_0 : ∀ (a1 a2 a3 a4 : Int32) (σ : Mem) (n : Int64) (v : Value) (am g : Nat → Nat) (τ : Mem), gk g → IV σ n v am g τ → q_case_0 IV a1 a2 a3 a4 σ n v am g τ := by
  intro a1 a2 a3 a4 σ n v am g τ hk hI
  obtain ⟨⟨nF, nL, nC, h⟩, hR, he⟩ := hI
  have hc : g 2 ≤ 12 := hk.1.2.2.2.1
  unfold q_case_0
  exact k_field h (fun k1 σ' n' v' ck => r_field hR (fun r ρ hr h8 => ⟨ck.1, hr, ck.2.trans (he.trans h8.symm)⟩))
theorem iv_1 : ∀ (a1 a2 a3 a4 : Int32) (σ : Mem) (n : Int64) (v : Value) (am g : Nat → Nat) (τ : Mem), gk g → IV σ n v am g τ → q_case_1 IV a1 a2 a3 a4 σ n v am g τ := by
  intro a1 a2 a3 a4 σ n v am g τ hk hI
  obtain ⟨⟨nF, nL, nC, h⟩, hR, he⟩ := hI
  have hc : g 2 ≤ 12 := hk.1.2.2.2.1
  unfold q_case_1
  exact k_oneOf h (fun k1 σ' n' v' ck => r_oneOf hk hR (fun r ad2 g2 ρ e gk2 hr h8 => ⟨e, gk2, ck.1, hr, ck.2.trans (he.trans h8.symm)⟩))
theorem iv_2 : ∀ (a1 a2 a3 a4 : Int32) (σ : Mem) (n : Int64) (v : Value) (am g : Nat → Nat) (τ : Mem), gk g → IV σ n v am g τ → q_case_2 IV a1 a2 a3 a4 σ n v am g τ := by
  intro a1 a2 a3 a4 σ n v am g τ hk hI
  obtain ⟨⟨nF, nL, nC, h⟩, hR, he⟩ := hI
  have hc : g 2 ≤ 12 := hk.1.2.2.2.1
  unfold q_case_2
  exact ⟨fun _ => k_bound h (fun k1 σ' n' v' ck => r_bound hk hR (fun r ad2 g2 ρ e gk2 hr h8 => ⟨e, gk2, ck.1, hr, ck.2.trans (he.trans h8.symm)⟩)), fun _ => k_bound h (fun k1 σ' n' v' ck => r_bound hk hR (fun r ad2 g2 ρ e gk2 hr h8 => ⟨e, gk2, ck.1, hr, ck.2.trans (he.trans h8.symm)⟩))⟩
theorem iv_3 : ∀ (a1 a2 a3 a4 : Int32) (σ : Mem) (n : Int64) (v : Value) (am g : Nat → Nat) (τ : Mem), gk g → IV σ n v am g τ → q_case_3 IV a1 a2 a3 a4 σ n v am g τ := by
  intro a1 a2 a3 a4 σ n v am g τ hk hI
  obtain ⟨⟨nF, nL, nC, h⟩, hR, he⟩ := hI
  have hc : g 2 ≤ 12 := hk.1.2.2.2.1
  unfold q_case_3
  exact k_more h (fun k1 σ' n' v' ck => r_more hk hR (fun r ad2 g2 ρ e gk2 hr h8 => ⟨e, gk2, ck.1, hr, ck.2.trans (he.trans h8.symm)⟩))
theorem iv_4 : ∀ (a1 a2 a3 a4 : Int32) (σ : Mem) (n : Int64) (v : Value) (am g : Nat → Nat) (τ : Mem), gk g → IV σ n v am g τ → q_case_4 IV a1 a2 a3 a4 σ n v am g τ := by
  intro a1 a2 a3 a4 σ n v am g τ hk hI
  obtain ⟨⟨nF, nL, nC, h⟩, hR, he⟩ := hI
  have hc : g 2 ≤ 12 := hk.1.2.2.2.1
  unfold q_case_4
  exact k_unlike h (fun k1 σ' n' v' ck => r_unlike hk hR (fun r ad2 g2 ρ e gk2 hr h8 => ⟨e, gk2, ck.1, hr, ck.2.trans (he.trans h8.symm)⟩))
theorem iv_5 : ∀ (a1 a2 a3 a4 : Int32) (σ : Mem) (n : Int64) (v : Value) (am g : Nat → Nat) (τ : Mem), gk g → IV σ n v am g τ → q_case_5 IV a1 a2 a3 a4 σ n v am g τ := by
  intro a1 a2 a3 a4 σ n v am g τ hk hI
  obtain ⟨⟨nF, nL, nC, h⟩, hR, he⟩ := hI
  have hc : g 2 ≤ 12 := hk.1.2.2.2.1
  unfold q_case_5
  exact k_preset h (fun k1 σ' n' v' ck => r_preset hk hR (fun r ad2 g2 ρ e gk2 hr h8 => ⟨e, gk2, ck.1, hr, ck.2.trans (he.trans h8.symm)⟩))
theorem iv_6 : ∀ (a1 a2 a3 a4 : Int32) (σ : Mem) (n : Int64) (v : Value) (am g : Nat → Nat) (τ : Mem), gk g → IV σ n v am g τ → q_case_6 IV a1 a2 a3 a4 σ n v am g τ := by
  intro a1 a2 a3 a4 σ n v am g τ hk hI
  obtain ⟨⟨nF, nL, nC, h⟩, hR, he⟩ := hI
  have hc : g 2 ≤ 12 := hk.1.2.2.2.1
  unfold q_case_6
  exact ⟨fun _ => k_approve h (fun k1 σ' n' v' ck => r_approve hR bz0 (fun r ρ hr h8 => ⟨ck.1, hr, ck.2.trans (he.trans h8.symm)⟩)), fun _ => k_approve h (fun k1 σ' n' v' ck => r_approve hR bz1 (fun r ρ hr h8 => ⟨ck.1, hr, ck.2.trans (he.trans h8.symm)⟩))⟩
theorem iv_7 : ∀ (a1 a2 a3 a4 : Int32) (σ : Mem) (n : Int64) (v : Value) (am g : Nat → Nat) (τ : Mem), gk g → IV σ n v am g τ → q_case_7 IV a1 a2 a3 a4 σ n v am g τ := by
  intro a1 a2 a3 a4 σ n v am g τ hk hI
  obtain ⟨⟨nF, nL, nC, h⟩, hR, he⟩ := hI
  have hc : g 2 ≤ 12 := hk.1.2.2.2.1
  unfold q_case_7
  exact ⟨fun _ => k_withdraw h (fun k1 σ' n' v' ck => r_withdraw hR bz0 (fun r ρ hr h8 => ⟨ck.1, hr, ck.2.trans (he.trans h8.symm)⟩)), fun _ => k_withdraw h (fun k1 σ' n' v' ck => r_withdraw hR bz1 (fun r ρ hr h8 => ⟨ck.1, hr, ck.2.trans (he.trans h8.symm)⟩))⟩
theorem iv_8 : ∀ (a1 a2 a3 a4 : Int32) (σ : Mem) (n : Int64) (v : Value) (am g : Nat → Nat) (τ : Mem), gk g → IV σ n v am g τ → q_case_8 IV a1 a2 a3 a4 σ n v am g τ := by
  intro a1 a2 a3 a4 σ n v am g τ hk hI
  obtain ⟨⟨nF, nL, nC, h⟩, hR, he⟩ := hI
  have hc : g 2 ≤ 12 := hk.1.2.2.2.1
  unfold q_case_8
  exact k_weight h (fun k1 σ' n' v' ck => r_weight hR (fun r ρ hr h8 => ⟨ck.1, hr, ck.2.trans (he.trans h8.symm)⟩))
theorem iv_9 : ∀ (a1 a2 a3 a4 : Int32) (σ : Mem) (n : Int64) (v : Value) (am g : Nat → Nat) (τ : Mem), gk g → IV σ n v am g τ → q_case_9 IV a1 a2 a3 a4 σ n v am g τ := by
  intro a1 a2 a3 a4 σ n v am g τ hk hI
  obtain ⟨⟨nF, nL, nC, h⟩, hR, he⟩ := hI
  have hc : g 2 ≤ 12 := hk.1.2.2.2.1
  unfold q_case_9
  exact k_commit h (fun k1 σ' n' v' ck => r_commit hk hR (fun r ad2 g2 ρ e gk2 hr h8 => ⟨e, gk2, ck.1, hr, ck.2.trans (he.trans h8.symm)⟩))
theorem iv_10 : ∀ (a1 a2 a3 a4 : Int32) (σ : Mem) (n : Int64) (v : Value) (am g : Nat → Nat) (τ : Mem), gk g → IV σ n v am g τ → q_case_10 IV a1 a2 a3 a4 σ n v am g τ := by
  intro a1 a2 a3 a4 σ n v am g τ hk hI
  obtain ⟨⟨nF, nL, nC, h⟩, hR, he⟩ := hI
  have hc : g 2 ≤ 12 := hk.1.2.2.2.1
  unfold q_case_10
  exact k_wave h (fun k1 σ' n' v' ck => r_wave hR hc (fun r ρ hr h8 => ⟨ck.1, hr, ck.2.trans (he.trans h8.symm)⟩))
theorem iv_11 : ∀ (a1 a2 a3 a4 : Int32) (σ : Mem) (n : Int64) (v : Value) (am g : Nat → Nat) (τ : Mem), gk g → IV σ n v am g τ → q_case_11 IV a1 a2 a3 a4 σ n v am g τ := by
  intro a1 a2 a3 a4 σ n v am g τ hk hI
  obtain ⟨⟨nF, nL, nC, h⟩, hR, he⟩ := hI
  have hc : g 2 ≤ 12 := hk.1.2.2.2.1
  unfold q_case_11
  exact k_patch h (fun k1 σ' n' v' ck => r_patch hR (fun r ρ hr h8 => ⟨ck.1, hr, ck.2.trans (he.trans h8.symm)⟩))
theorem iv_12 : ∀ (a1 a2 a3 a4 : Int32) (σ : Mem) (n : Int64) (v : Value) (am g : Nat → Nat) (τ : Mem), gk g → IV σ n v am g τ → q_case_12 IV a1 a2 a3 a4 σ n v am g τ := by
  intro a1 a2 a3 a4 σ n v am g τ hk hI
  obtain ⟨⟨nF, nL, nC, h⟩, hR, he⟩ := hI
  have hc : g 2 ≤ 12 := hk.1.2.2.2.1
  unfold q_case_12
  exact k_absorb h (fun k1 σ' n' v' ck => r_absorb hk hR (fun r ad2 g2 ρ e gk2 hr h8 => ⟨e, gk2, ck.1, hr, ck.2.trans (he.trans h8.symm)⟩))
theorem iv_13 : ∀ (a1 a2 a3 a4 : Int32) (σ : Mem) (n : Int64) (v : Value) (am g : Nat → Nat) (τ : Mem), gk g → IV σ n v am g τ → q_case_13 IV a1 a2 a3 a4 σ n v am g τ := by
  intro a1 a2 a3 a4 σ n v am g τ hk hI
  obtain ⟨⟨nF, nL, nC, h⟩, hR, he⟩ := hI
  have hc : g 2 ≤ 12 := hk.1.2.2.2.1
  unfold q_case_13
  refine s_X5_knock (r_knock hR (fun ρ hr h8 => ⟨fun _ => ⟨⟨nF, nL, nC, ?_⟩, hr, ?_⟩, fun z => absurd (by rw [he]) z⟩))
  · obtain ⟨h1, h2, h3, h4, h5, h6, h7⟩ := h
    exact ⟨h1.sm0, h2, by rw [mst_ne (by decide)]; exact h3, by rw [mst_ne (by decide)]; exact h4, by rw [mst_ne (by decide)]; exact h5, by rw [mst_ne (by decide)]; exact h6, by rw [mst_ne (by decide)]; exact h7⟩
  · rw [mst_eq, upd_eq, h8, he]
theorem iv_14 : ∀ (a1 a2 a3 a4 : Int32) (σ : Mem) (n : Int64) (v : Value) (am g : Nat → Nat) (τ : Mem), gk g → IV σ n v am g τ → q_case_14 IV a1 a2 a3 a4 σ n v am g τ := by
  intro a1 a2 a3 a4 σ n v am g τ hk hI
  obtain ⟨⟨nF, nL, nC, h⟩, hR, he⟩ := hI
  have hc : g 2 ≤ 12 := hk.1.2.2.2.1
  unfold q_case_14
  exact k_ofField h (fun k1 σ' n' v' ck => r_ofField hR hc (fun r ρ w => ⟨ck.1, w.rg hR, ck.2.trans (he.trans (w.1 8 (by omega)).symm)⟩))
theorem iv_15 : ∀ (a1 a2 a3 a4 : Int32) (σ : Mem) (n : Int64) (v : Value) (am g : Nat → Nat) (τ : Mem), gk g → IV σ n v am g τ → q_case_15 IV a1 a2 a3 a4 σ n v am g τ := by
  intro a1 a2 a3 a4 σ n v am g τ hk hI
  obtain ⟨⟨nF, nL, nC, h⟩, hR, he⟩ := hI
  have hc : g 2 ≤ 12 := hk.1.2.2.2.1
  unfold q_case_15
  exact k_ofLine h (fun k1 σ' n' v' ck => r_ofLine hR (fun r ρ w => ⟨ck.1, w.rg hR, ck.2.trans (he.trans (w.1 8 (by omega)).symm)⟩))
theorem iv_16 : ∀ (a1 a2 a3 a4 : Int32) (σ : Mem) (n : Int64) (v : Value) (am g : Nat → Nat) (τ : Mem), gk g → IV σ n v am g τ → q_case_16 IV a1 a2 a3 a4 σ n v am g τ := by
  intro a1 a2 a3 a4 σ n v am g τ hk hI
  obtain ⟨⟨nF, nL, nC, h⟩, hR, he⟩ := hI
  have hc : g 2 ≤ 12 := hk.1.2.2.2.1
  unfold q_case_16
  exact k_ofMachine h (fun k1 σ' n' v' ck => r_ofMachine hR hc (fun r ρ w => ⟨ck.1, w.rg hR, ck.2.trans (he.trans (w.1 8 (by omega)).symm)⟩))
theorem iv_17 : ∀ (a1 a2 a3 a4 : Int32) (σ : Mem) (n : Int64) (v : Value) (am g : Nat → Nat) (τ : Mem), gk g → IV σ n v am g τ → q_case_17 IV a1 a2 a3 a4 σ n v am g τ := by
  intro a1 a2 a3 a4 σ n v am g τ hk hI
  obtain ⟨⟨nF, nL, nC, h⟩, hR, he⟩ := hI
  have hc : g 2 ≤ 12 := hk.1.2.2.2.1
  unfold q_case_17
  exact k_has h (fun k1 σ' n' v' ck => r_has hR (fun r ρ w => ⟨ck.1, w.rg hR, ck.2.trans (he.trans (w.1 8 (by omega)).symm)⟩))
theorem iv_18 : ∀ (a1 a2 a3 a4 : Int32) (σ : Mem) (n : Int64) (v : Value) (am g : Nat → Nat) (τ : Mem), gk g → IV σ n v am g τ → q_case_18 IV a1 a2 a3 a4 σ n v am g τ := by
  intro a1 a2 a3 a4 σ n v am g τ hk hI
  obtain ⟨⟨nF, nL, nC, h⟩, hR, he⟩ := hI
  have hc : g 2 ≤ 12 := hk.1.2.2.2.1
  unfold q_case_18
  exact k_ofCommit h (fun k1 σ' n' v' ck => r_ofCommit hR hc (fun r ρ w => ⟨ck.1, w.rg hR, ck.2.trans (he.trans (w.1 8 (by omega)).symm)⟩))
theorem iv_19 : ∀ (a1 a2 a3 a4 : Int32) (σ : Mem) (n : Int64) (v : Value) (am g : Nat → Nat) (τ : Mem), gk g → IV σ n v am g τ → q_case_19 IV a1 a2 a3 a4 σ n v am g τ := by
  intro a1 a2 a3 a4 σ n v am g τ hk hI
  obtain ⟨⟨nF, nL, nC, h⟩, hR, he⟩ := hI
  have hc : g 2 ≤ 12 := hk.1.2.2.2.1
  unfold q_case_19
  exact k_house h (fun k1 σ' n' v' ck => r_house hR hc (fun r ρ w => ⟨ck.1, w.rg hR, ck.2.trans (he.trans (w.1 8 (by omega)).symm)⟩))
theorem iv_20 : ∀ (a1 a2 a3 a4 : Int32) (σ : Mem) (n : Int64) (v : Value) (am g : Nat → Nat) (τ : Mem), gk g → IV σ n v am g τ → q_case_20 IV a1 a2 a3 a4 σ n v am g τ := by
  intro a1 a2 a3 a4 σ n v am g τ hk hI
  obtain ⟨⟨nF, nL, nC, h⟩, hR, he⟩ := hI
  have hc : g 2 ≤ 12 := hk.1.2.2.2.1
  unfold q_case_20
  exact k_value h (fun k1 σ' n' v' ck => r_value hR (fun r ρ w => ⟨ck.1, w.rg hR, ck.2.trans (he.trans (w.1 8 (by omega)).symm)⟩))
theorem iv_21 : ∀ (a1 a2 a3 a4 : Int32) (σ : Mem) (n : Int64) (v : Value) (am g : Nat → Nat) (τ : Mem), gk g → IV σ n v am g τ → q_case_21 IV a1 a2 a3 a4 σ n v am g τ := by
  intro a1 a2 a3 a4 σ n v am g τ hk hI
  obtain ⟨⟨nF, nL, nC, h⟩, hR, he⟩ := hI
  have hc : g 2 ≤ 12 := hk.1.2.2.2.1
  unfold q_case_21
  exact k_reason h (fun k1 σ' n' v' ck => r_reason hR (fun r ρ w => ⟨ck.1, w.rg hR, ck.2.trans (he.trans (w.1 8 (by omega)).symm)⟩))
theorem iv_22 : ∀ (a1 a2 a3 a4 : Int32) (σ : Mem) (n : Int64) (v : Value) (am g : Nat → Nat) (τ : Mem), gk g → IV σ n v am g τ → q_case_22 IV a1 a2 a3 a4 σ n v am g τ := by
  intro a1 a2 a3 a4 σ n v am g τ hk hI
  obtain ⟨⟨nF, nL, nC, h⟩, hR, he⟩ := hI
  have hc : g 2 ≤ 12 := hk.1.2.2.2.1
  unfold q_case_22
  exact k_met h (fun k1 σ' n' v' ck => r_met hR (fun r ρ w => ⟨ck.1, w.rg hR, ck.2.trans (he.trans (w.1 8 (by omega)).symm)⟩))
theorem iv_23 : ∀ (a1 a2 a3 a4 : Int32) (σ : Mem) (n : Int64) (v : Value) (am g : Nat → Nat) (τ : Mem), gk g → IV σ n v am g τ → q_case_23 IV a1 a2 a3 a4 σ n v am g τ := by
  intro a1 a2 a3 a4 σ n v am g τ hk hI
  obtain ⟨⟨nF, nL, nC, h⟩, hR, he⟩ := hI
  have hc : g 2 ≤ 12 := hk.1.2.2.2.1
  unfold q_case_23
  exact k_choices h (fun k1 σ' n' v' ck => r_choices hR (fun r ρ w => ⟨ck.1, w.rg hR, ck.2.trans (he.trans (w.1 8 (by omega)).symm)⟩))
theorem iv_24 : ∀ (a1 a2 a3 a4 : Int32) (σ : Mem) (n : Int64) (v : Value) (am g : Nat → Nat) (τ : Mem), gk g → IV σ n v am g τ → q_case_24 IV a1 a2 a3 a4 σ n v am g τ := by
  intro a1 a2 a3 a4 σ n v am g τ hk hI
  obtain ⟨⟨nF, nL, nC, h⟩, hR, he⟩ := hI
  have hc : g 2 ≤ 12 := hk.1.2.2.2.1
  unfold q_case_24
  exact k_isNarrower h (fun k1 σ' n' v' ck => r_isNarrower hR (fun r ρ w => ⟨ck.1, w.rg hR, ck.2.trans (he.trans (w.1 8 (by omega)).symm)⟩))
theorem iv_25 : ∀ (a1 a2 a3 a4 : Int32) (σ : Mem) (n : Int64) (v : Value) (am g : Nat → Nat) (τ : Mem), gk g → IV σ n v am g τ → q_case_25 IV a1 a2 a3 a4 σ n v am g τ := by
  intro a1 a2 a3 a4 σ n v am g τ hk hI
  obtain ⟨⟨nF, nL, nC, h⟩, hR, he⟩ := hI
  have hc : g 2 ≤ 12 := hk.1.2.2.2.1
  unfold q_case_25
  exact w_isSound h (fun k1 σ' ha => r_isSound hR hc (fun r ρ w => ⟨(ck_ae h ha).1, w.rg hR, (ck_ae h ha).2.trans (he.trans (w.1 8 (by omega)).symm)⟩))
theorem iv_26 : ∀ (a1 a2 a3 a4 : Int32) (σ : Mem) (n : Int64) (v : Value) (am g : Nat → Nat) (τ : Mem), gk g → IV σ n v am g τ → q_case_26 IV a1 a2 a3 a4 σ n v am g τ := by
  intro a1 a2 a3 a4 σ n v am g τ hk hI
  obtain ⟨⟨nF, nL, nC, h⟩, hR, he⟩ := hI
  have hc : g 2 ≤ 12 := hk.1.2.2.2.1
  unfold q_case_26
  exact w_digest h (fun k1 σ' ha => r_digest hR hc (fun r ρ w => ⟨(ck_ae h ha).1, w.rg hR, (ck_ae h ha).2.trans (he.trans (w.1 8 (by omega)).symm)⟩))
theorem iv_step : STEP IV := ⟨iv_0, iv_1, iv_2, iv_3, iv_4, iv_5, iv_6, iv_7, iv_8, iv_9, iv_10, iv_11, iv_12, iv_13, iv_14, iv_15, iv_16, iv_17, iv_18, iv_19, iv_20, iv_21, iv_22, iv_23, iv_24, iv_25, iv_26⟩
theorem tI_5 : ∀ m : Nat, m < 6 → tI 5 m = -1 := by decide +kernel
theorem sI_26 : ∀ m : Nat, m < 6 → sI 26 m = -1 := by decide +kernel
theorem iv_start : ∀ (h8 : Nat) (u8 : Nat → Nat), IV sI 0 .null (amI h8 u8) (fun _ => 0) tI := fun _ _ => by
  refine ⟨⟨0, 0, 0, ⟨by decide, by decide, rfl, rfl, fun j hj => absurd hj (Nat.not_lt_zero j)⟩, by decide, rfl, bz0, bz0, fun i => ?_, fun m hm => Or.inl (sI_26 m hm)⟩, ⟨⟨0, by decide, by decide, rfl, rfl, fun j hj => absurd hj (Nat.not_lt_zero j)⟩, fun m hm => Or.inl (tI_5 m hm)⟩, rfl⟩
  by_cases hi : i < 5
  · exact Or.inl (show fl_row 5 (-1) (fun _ => 0) i = -1 from if_pos hi)
  · exact Or.inr ⟨0, by decide, (show fl_row 5 (-1) (fun _ => 0) i = 0 from if_neg hi)⟩
