/-! THE CLASS: what it holds of what follows is what follows -/
def OI (σ : Mem) (nF nL : Nat) : Prop := (∀ i : Nat, 5 ≤ i → σ 13 i = 0 ∧ σ 17 i = 0) ∧ σ 12 2 = aC σ nF nL ∧ (∀ f : Nat, nF ≤ f → f < 5 → σ 22 f = -1) ∧ (0 < nF → σ 13 = aM σ nF nL ∧ σ 11 6 = stF σ nL 0 0 ∧ RW (σ 17) ∧ SetR σ (stF σ nL 0 0) nF nL nF 0 (aM σ nF nL) (σ 17) ∧ ∀ f : Nat, f < nF → σ 22 f = onF (σ 17 f) 8)
theorem agr_sm {σ τ : Mem} (e : ∀ p : Nat, p ≤ 10 → τ p = σ p) : Agr τ σ := fun p j _ h _ => by rw [e p h]
theorem fl_full {m : Mw} (h : ∀ i : Nat, 5 ≤ i → m i = 0) : fl_row 5 255 m = full := by
  funext i
  unfold fl_row full
  by_cases q : i < 5
  · rw [if_pos q, if_pos q]
  · rw [if_neg q, if_neg q, h i (by omega)]
theorem isF_22 : ∀ (d f : Nat) (σ : Mem) (i : Nat), (f ≤ i ∧ i < f + d → isF d f σ 22 i = onF (σ 17 i) 8) ∧ (¬ (f ≤ i ∧ i < f + d) → isF d f σ 22 i = σ 22 i) := by
  intro d
  induction d with
  | zero => intro f σ i; exact ⟨fun h => by omega, fun _ => rfl⟩
  | succ d ih =>
    intro f σ i
    obtain ⟨h1, h2⟩ := ih (f + 1) (mst σ 22 f (onF (σ 17 f) 8)) i
    rw [mst_ne (show (17 : Nat) ≠ 22 by decide)] at h1
    rw [mst_eq] at h2
    unfold isF
    refine ⟨fun h => ?_, fun h => ?_⟩
    · by_cases e : i = f
      · subst e
        rw [h2 (by omega), upd_eq]
      · exact h1 (by omega)
    · rw [h2 (by omega), upd_ne (by omega)]
theorem oi_rnw {τ : Mem} {nF nL : Nat} (hL : LV τ nF nL) (h13 : ∀ i : Nat, 5 ≤ i → τ 13 i = 0 ∧ τ 17 i = 0) (h22 : ∀ f : Nat, nF ≤ f → f < 5 → τ 22 f = -1) : OI (rnw nF nL τ) nF nL := by
  have h5 := hL.1
  -- the strict lines, the meeting of all
  have a0 : ∀ p : Nat, p ≤ 10 → (mst τ 11 6 (stF τ nL 0 0)) p = τ p := fun p hp => mst_ne (by omega)
  have r13 : rnw0 nF nL τ 13 = aM τ nF nL := by
    unfold rnw0 bgM
    rw [mst_ne (by decide), mup_eq, mst_ne (show (13 : Nat) ≠ 11 by decide), fl_full (fun i hi => (h13 i hi).1), mtF_sm a0]
    rfl
  have r12 : rnw0 nF nL τ 12 2 = aC τ nF nL := by
    unfold rnw0 bgM
    rw [mst_eq, upd_eq, mst_ne (show (13 : Nat) ≠ 11 by decide), fl_full (fun i hi => (h13 i hi).1), mtC_sm a0]
    rfl
  have r11 : rnw0 nF nL τ 11 6 = stF τ nL 0 0 := by
    unfold rnw0
    rw [bgM_fr (by decide) (by decide), mst_eq, upd_eq]
  -- the chooser changes nothing of these
  have f1 : ∀ p : Nat, p = 11 ∨ p = 12 ∨ p = 13 ∨ p = 17 → fbF nF nL (rnw0 nF nL τ) (stF τ nL 0 0) p = rnw0 nF nL τ p := fun p hp => fbF_fr (p := p) ⟨by omega, by omega, by omega⟩ (by omega) _ _
  have g13 : rnw1 nF nL τ 13 = aM τ nF nL := by
    unfold rnw1
    rw [cyM_fr (by decide) (by decide), f1 13 (by omega), r13]
  have g17 : rnw1 nF nL τ 17 = aM τ nF nL := by
    unfold rnw1 cyM
    rw [mst_ne (by decide), mup_eq, f1 13 (by omega), f1 17 (by omega), r13, rnw0_fr (by omega)]
    exact cp_row (aM_RW hL).1 (fun i hi => (h13 i hi).2)
  have g12 : rnw1 nF nL τ 12 2 = aC τ nF nL := by
    unfold rnw1
    rw [cyM_fr (by decide) (by decide), f1 12 (by omega), r12]
  have g11 : rnw1 nF nL τ 11 6 = stF τ nL 0 0 := by
    unfold rnw1
    rw [cyM_fr (by decide) (by decide), f1 11 (by omega), r11]
  have gt : ∀ p : Nat, p ≤ 10 → rnw1 nF nL τ p = τ p := fun p hp => rnw1_fr (by omega)
  have hL1 : LV (rnw1 nF nL τ) nF nL := hL.sm gt
  obtain ⟨m', s1, s2, s3⟩ := se_set hL1 nF 0 (aM τ nF nL) (rnw1 nF nL τ) (by omega) (aM_RW hL) ⟨fun _ _ => rfl, rfl, g17⟩
  rw [g11] at s1
  have k : ∀ p : Nat, p ≠ 22 → rnw nF nL τ p = seF nF nL nF 0 (rnw1 nF nL τ) p := fun p hp => by unfold rnw; exact isF_fr hp _ _ _
  have k17 : rnw nF nL τ 17 = m' := by rw [k 17 (by decide), s2.2.2]
  have kt : ∀ p : Nat, p ≤ 10 → rnw nF nL τ p = τ p := fun p hp => rnw_fr (by omega)
  have A : Agr (rnw nF nL τ) τ := agr_sm kt
  have hL9 : LV (rnw nF nL τ) nF nL := hL.sm kt
  obtain ⟨eM, eC⟩ := ag_a A hL9
  have eS : stF (rnw nF nL τ) nL 0 0 = stF τ nL 0 0 := ag_st A hL9 nL 0 0 (Nat.zero_add _)
  have q13 : rnw nF nL τ 13 = aM τ nF nL := by rw [k 13 (by decide), seF_fr (Or.inl (by decide)), g13]
  refine ⟨fun i hi => ⟨by rw [q13]; exact (aM_RW hL).1 i hi, by rw [k17]; exact s3.1 i hi⟩, ?_, fun f h1 h2 => ?_, fun _ => ⟨?_, ?_, ?_, ?_, fun f hf => ?_⟩⟩
  · rw [eC, k 12 (by decide), seF_fr (Or.inl (by decide)), g12]
  · unfold rnw
    rw [(isF_22 nF 0 _ f).2 (by omega), seF_fr (Or.inr (by decide)), rnw1_fr (by omega)]
    exact h22 f h1 h2
  · rw [eM, q13]
  · rw [eS, k 11 (by decide), seF_fr (Or.inl (by decide)), g11]
  · rw [k17]; exact s3
  · rw [eS, eM, k17]
    have A1 : Agr (rnw1 nF nL τ) (rnw nF nL τ) := fun p j _ hp _ => by rw [gt p hp, kt p hp]
    exact ag_set A1 hL1 _ _ _ _ s1
  · rw [k17]
    unfold rnw
    rw [(isF_22 nF 0 _ f).1 (by omega), s2.2.2]
theorem lv_00 {σ : Mem} {nL : Nat} (h : LV σ 0 nL) : nL = 0 := by
  rcases Nat.eq_zero_or_pos nL with z | z
  · exact z
  · obtain ⟨j, hj, -⟩ := vin_ex (by decide) (h.2.2.2.2 0 z).1
    omega
/-- kept where nothing of it is touched -/
theorem OI.sm {σ τ : Mem} {nF nL : Nat} (h : OI σ nF nL) (hL : LV σ nF nL) (e : ∀ p : Nat, (p ≤ 13 ∨ p = 17 ∨ p = 22) → p ≠ 0 → τ p = σ p) : OI τ nF nL := by
  obtain ⟨h1, h2, h3, h4⟩ := h
  have A : Agr σ τ := fun p j a b _ => by rw [e p (by omega) (by omega)]
  obtain ⟨eM, eC⟩ := ag_a A hL
  have eS : stF σ nL 0 0 = stF τ nL 0 0 := ag_st A hL nL 0 0 (Nat.zero_add _)
  refine ⟨fun i hi => by rw [e 13 (by omega) (by decide), e 17 (by omega) (by decide)]; exact h1 i hi, by rw [e 12 (by omega) (by decide), ← eC]; exact h2, by rw [e 22 (by omega) (by decide)]; exact h3, fun hp => ?_⟩
  obtain ⟨k1, k2, k3, k4, k5⟩ := h4 hp
  refine ⟨by rw [e 13 (by omega) (by decide), ← eM]; exact k1, by rw [e 11 (by omega) (by decide), ← eS]; exact k2, by rw [e 17 (by omega) (by decide)]; exact k3, ?_, by rw [e 22 (by omega) (by decide), e 17 (by omega) (by decide)]; exact k5⟩
  rw [e 17 (by omega) (by decide), ← eS, ← eM]
  exact ag_set A hL _ _ _ _ k4
