/-! THE STEPS OF THE LOOP -/
theorem iv_0 : ∀ (a1 a2 a3 a4 : Int32) (σ : Mem) (n : Int64) (v : Value) (am g : Nat → Nat) (τ : Mem), gk g → IV σ n v am g τ → q_case_0 IV a1 a2 a3 a4 σ n v am g τ := by
  intro a1 a2 a3 a4 σ n v am g τ hk hI
  obtain ⟨nF, hR⟩ := hI
  have hc : g 2 ≤ 12 := hk.1.2.2.2.1
  unfold q_case_0
  exact j_field hR (fun k σ2 n3 v4 r5 τ6 nF1 R z e => ⟨nF1, R⟩)
theorem iv_1 : ∀ (a1 a2 a3 a4 : Int32) (σ : Mem) (n : Int64) (v : Value) (am g : Nat → Nat) (τ : Mem), gk g → IV σ n v am g τ → q_case_1 IV a1 a2 a3 a4 σ n v am g τ := by
  intro a1 a2 a3 a4 σ n v am g τ hk hI
  obtain ⟨nF, hR⟩ := hI
  have hc : g 2 ≤ 12 := hk.1.2.2.2.1
  unfold q_case_1
  exact j_oneOf hk hR (fun k σ2 n3 v4 r5 am6 g7 τ8 nF1 e1 gk1 R z e => ⟨e1, gk1, ⟨nF1, R⟩⟩)
theorem iv_2 : ∀ (a1 a2 a3 a4 : Int32) (σ : Mem) (n : Int64) (v : Value) (am g : Nat → Nat) (τ : Mem), gk g → IV σ n v am g τ → q_case_2 IV a1 a2 a3 a4 σ n v am g τ := by
  intro a1 a2 a3 a4 σ n v am g τ hk hI
  obtain ⟨nF, hR⟩ := hI
  have hc : g 2 ≤ 12 := hk.1.2.2.2.1
  unfold q_case_2
  exact ⟨fun _ => j_bound hk hR (fun k σ2 n3 v4 r5 am6 g7 τ8 nF1 e1 gk1 R z e => ⟨e1, gk1, ⟨nF1, R⟩⟩), fun _ => j_bound hk hR (fun k σ2 n3 v4 r5 am6 g7 τ8 nF1 e1 gk1 R z e => ⟨e1, gk1, ⟨nF1, R⟩⟩)⟩
theorem iv_3 : ∀ (a1 a2 a3 a4 : Int32) (σ : Mem) (n : Int64) (v : Value) (am g : Nat → Nat) (τ : Mem), gk g → IV σ n v am g τ → q_case_3 IV a1 a2 a3 a4 σ n v am g τ := by
  intro a1 a2 a3 a4 σ n v am g τ hk hI
  obtain ⟨nF, hR⟩ := hI
  have hc : g 2 ≤ 12 := hk.1.2.2.2.1
  unfold q_case_3
  exact j_more hk hR (fun k σ2 n3 v4 r5 am6 g7 τ8 nF1 e1 gk1 R z e => ⟨e1, gk1, ⟨nF1, R⟩⟩)
theorem iv_4 : ∀ (a1 a2 a3 a4 : Int32) (σ : Mem) (n : Int64) (v : Value) (am g : Nat → Nat) (τ : Mem), gk g → IV σ n v am g τ → q_case_4 IV a1 a2 a3 a4 σ n v am g τ := by
  intro a1 a2 a3 a4 σ n v am g τ hk hI
  obtain ⟨nF, hR⟩ := hI
  have hc : g 2 ≤ 12 := hk.1.2.2.2.1
  unfold q_case_4
  exact j_unlike hk hR (fun k σ2 n3 v4 r5 am6 g7 τ8 nF1 e1 gk1 R z e => ⟨e1, gk1, ⟨nF1, R⟩⟩)
theorem iv_5 : ∀ (a1 a2 a3 a4 : Int32) (σ : Mem) (n : Int64) (v : Value) (am g : Nat → Nat) (τ : Mem), gk g → IV σ n v am g τ → q_case_5 IV a1 a2 a3 a4 σ n v am g τ := by
  intro a1 a2 a3 a4 σ n v am g τ hk hI
  obtain ⟨nF, hR⟩ := hI
  have hc : g 2 ≤ 12 := hk.1.2.2.2.1
  unfold q_case_5
  exact j_preset hk hR (fun k σ2 n3 v4 r5 am6 g7 τ8 nF1 e1 gk1 R z e => ⟨e1, gk1, ⟨nF1, R⟩⟩)
theorem iv_6 : ∀ (a1 a2 a3 a4 : Int32) (σ : Mem) (n : Int64) (v : Value) (am g : Nat → Nat) (τ : Mem), gk g → IV σ n v am g τ → q_case_6 IV a1 a2 a3 a4 σ n v am g τ := by
  intro a1 a2 a3 a4 σ n v am g τ hk hI
  obtain ⟨nF, hR⟩ := hI
  have hc : g 2 ≤ 12 := hk.1.2.2.2.1
  unfold q_case_6
  exact ⟨fun _ => j_approve hR bz0 (by decide) (fun k σ2 n3 v4 r5 τ6 nF1 R z e => ⟨nF1, R⟩), fun _ => j_approve hR bz1 (by decide) (fun k σ2 n3 v4 r5 τ6 nF1 R z e => ⟨nF1, R⟩)⟩
theorem iv_7 : ∀ (a1 a2 a3 a4 : Int32) (σ : Mem) (n : Int64) (v : Value) (am g : Nat → Nat) (τ : Mem), gk g → IV σ n v am g τ → q_case_7 IV a1 a2 a3 a4 σ n v am g τ := by
  intro a1 a2 a3 a4 σ n v am g τ hk hI
  obtain ⟨nF, hR⟩ := hI
  have hc : g 2 ≤ 12 := hk.1.2.2.2.1
  unfold q_case_7
  exact ⟨fun _ => j_withdraw hR bz0 (by decide) (fun k σ2 n3 v4 r5 τ6 nF1 R z e => ⟨nF1, R⟩), fun _ => j_withdraw hR bz1 (by decide) (fun k σ2 n3 v4 r5 τ6 nF1 R z e => ⟨nF1, R⟩)⟩
theorem iv_8 : ∀ (a1 a2 a3 a4 : Int32) (σ : Mem) (n : Int64) (v : Value) (am g : Nat → Nat) (τ : Mem), gk g → IV σ n v am g τ → q_case_8 IV a1 a2 a3 a4 σ n v am g τ := by
  intro a1 a2 a3 a4 σ n v am g τ hk hI
  obtain ⟨nF, hR⟩ := hI
  have hc : g 2 ≤ 12 := hk.1.2.2.2.1
  unfold q_case_8
  exact j_weight hR (fun k σ2 n3 v4 r5 τ6 nF1 R z e => ⟨nF1, R⟩)
theorem iv_9 : ∀ (a1 a2 a3 a4 : Int32) (σ : Mem) (n : Int64) (v : Value) (am g : Nat → Nat) (τ : Mem), gk g → IV σ n v am g τ → q_case_9 IV a1 a2 a3 a4 σ n v am g τ := by
  intro a1 a2 a3 a4 σ n v am g τ hk hI
  obtain ⟨nF, hR⟩ := hI
  have hc : g 2 ≤ 12 := hk.1.2.2.2.1
  unfold q_case_9
  exact j_commit hk hR (fun k σ2 n3 v4 r5 am6 g7 τ8 nF1 e1 gk1 R z e => ⟨e1, gk1, ⟨nF1, R⟩⟩)
theorem iv_10 : ∀ (a1 a2 a3 a4 : Int32) (σ : Mem) (n : Int64) (v : Value) (am g : Nat → Nat) (τ : Mem), gk g → IV σ n v am g τ → q_case_10 IV a1 a2 a3 a4 σ n v am g τ := by
  intro a1 a2 a3 a4 σ n v am g τ hk hI
  obtain ⟨nF, hR⟩ := hI
  have hc : g 2 ≤ 12 := hk.1.2.2.2.1
  unfold q_case_10
  exact j_wave hR (fun k σ2 n3 v4 r5 τ6 nF1 R z e => ⟨nF1, R⟩)
theorem iv_11 : ∀ (a1 a2 a3 a4 : Int32) (σ : Mem) (n : Int64) (v : Value) (am g : Nat → Nat) (τ : Mem), gk g → IV σ n v am g τ → q_case_11 IV a1 a2 a3 a4 σ n v am g τ := by
  intro a1 a2 a3 a4 σ n v am g τ hk hI
  obtain ⟨nF, hR⟩ := hI
  have hc : g 2 ≤ 12 := hk.1.2.2.2.1
  unfold q_case_11
  exact j_patch hR (fun k σ2 n3 v4 r5 τ6 nF1 R z e => ⟨nF1, R⟩)
theorem iv_12 : ∀ (a1 a2 a3 a4 : Int32) (σ : Mem) (n : Int64) (v : Value) (am g : Nat → Nat) (τ : Mem), gk g → IV σ n v am g τ → q_case_12 IV a1 a2 a3 a4 σ n v am g τ := by
  intro a1 a2 a3 a4 σ n v am g τ hk hI
  obtain ⟨nF, hR⟩ := hI
  have hc : g 2 ≤ 12 := hk.1.2.2.2.1
  unfold q_case_12
  exact j_absorb hk hR (fun k σ2 n3 v4 r5 am6 g7 τ8 nF1 e1 gk1 R z e => ⟨e1, gk1, ⟨nF1, R⟩⟩)
theorem iv_13 : ∀ (a1 a2 a3 a4 : Int32) (σ : Mem) (n : Int64) (v : Value) (am g : Nat → Nat) (τ : Mem), gk g → IV σ n v am g τ → q_case_13 IV a1 a2 a3 a4 σ n v am g τ := by
  intro a1 a2 a3 a4 σ n v am g τ hk hI
  obtain ⟨nF, hR⟩ := hI
  have hc : g 2 ≤ 12 := hk.1.2.2.2.1
  unfold q_case_13
  refine s_X5_knock ?_
  unfold q_X8_knock
  rintro _ rfl _ rfl
  exact ⟨nF, rr_knock hR⟩
theorem iv_14 : ∀ (a1 a2 a3 a4 : Int32) (σ : Mem) (n : Int64) (v : Value) (am g : Nat → Nat) (τ : Mem), gk g → IV σ n v am g τ → q_case_14 IV a1 a2 a3 a4 σ n v am g τ := by
  intro a1 a2 a3 a4 σ n v am g τ hk hI
  obtain ⟨nF, hR⟩ := hI
  have hc : g 2 ≤ 12 := hk.1.2.2.2.1
  unfold q_case_14
  exact kq_ofField hR.ci (fun k σ2 n3 v4 qe => r_ofField hR.rg hc (fun r ρ w => ⟨nF, hR.q qe.1 qe.2 w⟩))
theorem iv_15 : ∀ (a1 a2 a3 a4 : Int32) (σ : Mem) (n : Int64) (v : Value) (am g : Nat → Nat) (τ : Mem), gk g → IV σ n v am g τ → q_case_15 IV a1 a2 a3 a4 σ n v am g τ := by
  intro a1 a2 a3 a4 σ n v am g τ hk hI
  obtain ⟨nF, hR⟩ := hI
  have hc : g 2 ≤ 12 := hk.1.2.2.2.1
  unfold q_case_15
  exact kq_ofLine hR.ci (fun k σ2 n3 v4 qe => r_ofLine hR.rg (fun r ρ w => ⟨nF, hR.q qe.1 qe.2 w⟩))
theorem iv_16 : ∀ (a1 a2 a3 a4 : Int32) (σ : Mem) (n : Int64) (v : Value) (am g : Nat → Nat) (τ : Mem), gk g → IV σ n v am g τ → q_case_16 IV a1 a2 a3 a4 σ n v am g τ := by
  intro a1 a2 a3 a4 σ n v am g τ hk hI
  obtain ⟨nF, hR⟩ := hI
  have hc : g 2 ≤ 12 := hk.1.2.2.2.1
  unfold q_case_16
  exact kq_ofMachine hR.ci (fun k σ2 n3 v4 qe => r_ofMachine hR.rg hc (fun r ρ w => ⟨nF, hR.q qe.1 qe.2 w⟩))
theorem iv_17 : ∀ (a1 a2 a3 a4 : Int32) (σ : Mem) (n : Int64) (v : Value) (am g : Nat → Nat) (τ : Mem), gk g → IV σ n v am g τ → q_case_17 IV a1 a2 a3 a4 σ n v am g τ := by
  intro a1 a2 a3 a4 σ n v am g τ hk hI
  obtain ⟨nF, hR⟩ := hI
  have hc : g 2 ≤ 12 := hk.1.2.2.2.1
  unfold q_case_17
  exact kq_has hR.ci (fun k σ2 n3 v4 qe => r_has hR.rg (fun r ρ w => ⟨nF, hR.q qe.1 qe.2 w⟩))
theorem iv_18 : ∀ (a1 a2 a3 a4 : Int32) (σ : Mem) (n : Int64) (v : Value) (am g : Nat → Nat) (τ : Mem), gk g → IV σ n v am g τ → q_case_18 IV a1 a2 a3 a4 σ n v am g τ := by
  intro a1 a2 a3 a4 σ n v am g τ hk hI
  obtain ⟨nF, hR⟩ := hI
  have hc : g 2 ≤ 12 := hk.1.2.2.2.1
  unfold q_case_18
  exact kq_ofCommit hR.ci (fun k σ2 n3 v4 qe => r_ofCommit hR.rg hc (fun r ρ w => ⟨nF, hR.q qe.1 qe.2 w⟩))
theorem iv_19 : ∀ (a1 a2 a3 a4 : Int32) (σ : Mem) (n : Int64) (v : Value) (am g : Nat → Nat) (τ : Mem), gk g → IV σ n v am g τ → q_case_19 IV a1 a2 a3 a4 σ n v am g τ := by
  intro a1 a2 a3 a4 σ n v am g τ hk hI
  obtain ⟨nF, hR⟩ := hI
  have hc : g 2 ≤ 12 := hk.1.2.2.2.1
  unfold q_case_19
  exact kq_house hR.ci (fun k σ2 n3 v4 qe => r_house hR.rg hc (fun r ρ w => ⟨nF, hR.q qe.1 qe.2 w⟩))
theorem iv_20 : ∀ (a1 a2 a3 a4 : Int32) (σ : Mem) (n : Int64) (v : Value) (am g : Nat → Nat) (τ : Mem), gk g → IV σ n v am g τ → q_case_20 IV a1 a2 a3 a4 σ n v am g τ := by
  intro a1 a2 a3 a4 σ n v am g τ hk hI
  obtain ⟨nF, hR⟩ := hI
  have hc : g 2 ≤ 12 := hk.1.2.2.2.1
  unfold q_case_20
  exact kq_value hR.ci (fun k σ2 n3 v4 qe => r_value hR.rg (fun r ρ w => ⟨nF, hR.q qe.1 qe.2 w⟩))
theorem iv_21 : ∀ (a1 a2 a3 a4 : Int32) (σ : Mem) (n : Int64) (v : Value) (am g : Nat → Nat) (τ : Mem), gk g → IV σ n v am g τ → q_case_21 IV a1 a2 a3 a4 σ n v am g τ := by
  intro a1 a2 a3 a4 σ n v am g τ hk hI
  obtain ⟨nF, hR⟩ := hI
  have hc : g 2 ≤ 12 := hk.1.2.2.2.1
  unfold q_case_21
  exact kq_reason hR.ci (fun k σ2 n3 v4 qe => r_reason hR.rg (fun r ρ w => ⟨nF, hR.q qe.1 qe.2 w⟩))
theorem iv_22 : ∀ (a1 a2 a3 a4 : Int32) (σ : Mem) (n : Int64) (v : Value) (am g : Nat → Nat) (τ : Mem), gk g → IV σ n v am g τ → q_case_22 IV a1 a2 a3 a4 σ n v am g τ := by
  intro a1 a2 a3 a4 σ n v am g τ hk hI
  obtain ⟨nF, hR⟩ := hI
  have hc : g 2 ≤ 12 := hk.1.2.2.2.1
  unfold q_case_22
  exact kq_met hR.ci (fun k σ2 n3 v4 qe => r_met hR.rg (fun r ρ w => ⟨nF, hR.q qe.1 qe.2 w⟩))
theorem iv_23 : ∀ (a1 a2 a3 a4 : Int32) (σ : Mem) (n : Int64) (v : Value) (am g : Nat → Nat) (τ : Mem), gk g → IV σ n v am g τ → q_case_23 IV a1 a2 a3 a4 σ n v am g τ := by
  intro a1 a2 a3 a4 σ n v am g τ hk hI
  obtain ⟨nF, hR⟩ := hI
  have hc : g 2 ≤ 12 := hk.1.2.2.2.1
  unfold q_case_23
  exact kq_choices hR.ci (fun k σ2 n3 v4 qe => r_choices hR.rg (fun r ρ w => ⟨nF, hR.q qe.1 qe.2 w⟩))
theorem iv_24 : ∀ (a1 a2 a3 a4 : Int32) (σ : Mem) (n : Int64) (v : Value) (am g : Nat → Nat) (τ : Mem), gk g → IV σ n v am g τ → q_case_24 IV a1 a2 a3 a4 σ n v am g τ := by
  intro a1 a2 a3 a4 σ n v am g τ hk hI
  obtain ⟨nF, hR⟩ := hI
  have hc : g 2 ≤ 12 := hk.1.2.2.2.1
  unfold q_case_24
  exact kq_isNarrower hR.ci (fun k σ2 n3 v4 qe => r_isNarrower hR.rg (fun r ρ w => ⟨nF, hR.q qe.1 qe.2 w⟩))
theorem iv_25 : ∀ (a1 a2 a3 a4 : Int32) (σ : Mem) (n : Int64) (v : Value) (am g : Nat → Nat) (τ : Mem), gk g → IV σ n v am g τ → q_case_25 IV a1 a2 a3 a4 σ n v am g τ := by
  intro a1 a2 a3 a4 σ n v am g τ hk hI
  obtain ⟨nF, hR⟩ := hI
  have hc : g 2 ≤ 12 := hk.1.2.2.2.1
  unfold q_case_25
  exact w_isSound hR.ci (fun k σ2 ha => r_isSound hR.rg hc (fun r ρ w => ⟨nF, hR.q (qe_ae hR.ci ha).1 (qe_ae hR.ci ha).2 w⟩))
theorem iv_26 : ∀ (a1 a2 a3 a4 : Int32) (σ : Mem) (n : Int64) (v : Value) (am g : Nat → Nat) (τ : Mem), gk g → IV σ n v am g τ → q_case_26 IV a1 a2 a3 a4 σ n v am g τ := by
  intro a1 a2 a3 a4 σ n v am g τ hk hI
  obtain ⟨nF, hR⟩ := hI
  have hc : g 2 ≤ 12 := hk.1.2.2.2.1
  unfold q_case_26
  exact s_digest hR (fun χ ha => x_digest hR (fun ρ w z => ⟨fun _ => ⟨nF, (hR.ae ha).w w⟩, fun q => q rfl⟩))
theorem iv_step : STEP IV := ⟨iv_0, iv_1, iv_2, iv_3, iv_4, iv_5, iv_6, iv_7, iv_8, iv_9, iv_10, iv_11, iv_12, iv_13, iv_14, iv_15, iv_16, iv_17, iv_18, iv_19, iv_20, iv_21, iv_22, iv_23, iv_24, iv_25, iv_26⟩
