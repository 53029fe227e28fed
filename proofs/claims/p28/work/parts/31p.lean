/-! THE CLASS: its best is the best, weights are 0 to 9 -/
def BW (σ : Mem) (nF nL : Nat) : Prop := (∀ f : Nat, f < nF → vp_in (σ 3 f) 10) ∧ σ 18 5 = stF σ nL 0 0 ∧ cv_Rp nF σ (cv_bS (cv_P σ (stF σ nL 0 0) nL nF full) (fun f => (σ 3 f).toNatClampNeg) nF)
theorem cs_w {w v : Nat → Nat} : ∀ (k : Nat) (x : Nat → Nat), (∀ i : Nat, i < k → w i = v i) → cv_cs w k x = cv_cs v k x := by
  intro k
  induction k with
  | zero => intro x _; rfl
  | succ k ih =>
    intro x h
    unfold cv_cs
    rw [ih x (fun i hi => h i (by omega)), h k (by omega)]
theorem bf_w {P : (Nat → Nat) → Prop} {w v : Nat → Nat} {nF : Nat} (h : ∀ i : Nat, i < nF → w i = v i) : ∀ (d f : Nat) (x : Nat → Nat) (s : Sp), cv_bf P w nF d f x s = cv_bf P v nF d f x s := by
  intro d
  induction d with
  | zero =>
    intro f x s
    unfold cv_bf
    rw [cs_w nF x h]
  | succ d ih =>
    intro f x s
    unfold cv_bf
    have e : (fun (i : Nat) (s : Sp) => cv_bf P w nF d (f + 1) (cv_up x f i) s) = (fun (i : Nat) (s : Sp) => cv_bf P v nF d (f + 1) (cv_up x f i) s) := by
      funext i s
      exact ih _ _ _
    rw [e]
theorem bS_w {P : (Nat → Nat) → Prop} {w v : Nat → Nat} {nF : Nat} (h : ∀ i : Nat, i < nF → w i = v i) : cv_bS P w nF = cv_bS P v nF := by
  unfold cv_bS
  rw [bf_w h]
theorem BW.sm {σ τ : Mem} {nF nL : Nat} (h : BW σ nF nL) (hL : LV σ nF nL) (e : ∀ p : Nat, 1 ≤ p → p ≤ 10 → τ p = σ p) (e1 : τ 21 = σ 21) (e4 : τ 18 4 = σ 18 4) (e5 : τ 18 5 = σ 18 5) : BW τ nF nL := by
  obtain ⟨h1, h2, h3⟩ := h
  have A : Agr σ τ := fun p j a b _ => by rw [e p a b]
  have eS : stF σ nL 0 0 = stF τ nL 0 0 := ag_st A hL nL 0 0 (Nat.zero_add _)
  refine ⟨fun f hf => by rw [e 3 (by decide) (by decide)]; exact h1 f hf, by rw [e5, ← eS]; exact h2, ?_⟩
  rw [← eS, ← P_ag A hL.2.1, e 3 (by decide) (by decide)]
  unfold cv_Rp at h3 ⊢
  rw [e1, e4]
  exact h3
theorem bw_rnw {τ : Mem} {nF nL : Nat} (hL : LV τ nF nL) (hw : ∀ f : Nat, f < nF → vp_in (τ 3 f) 10) (h13 : ∀ i : Nat, 5 ≤ i → τ 13 i = 0) : BW (rnw nF nL τ) nF nL := by
  have a0 : ∀ p : Nat, p ≤ 10 → (mst τ 11 6 (stF τ nL 0 0)) p = τ p := fun p hp => mst_ne (by omega)
  have t0 : ∀ p : Nat, p ≤ 10 → rnw0 nF nL τ p = τ p := fun p hp => rnw0_fr (Or.inl (by omega))
  have hL0 : LV (rnw0 nF nL τ) nF nL := hL.sm t0
  have r13 : rnw0 nF nL τ 13 = mtF (rnw0 nF nL τ) (stF τ nL 0 0) nF nL full := by
    have z : rnw0 nF nL τ 13 = aM τ nF nL := by
      unfold rnw0 bgM
      rw [mst_ne (by decide), mup_eq, mst_ne (show (13 : Nat) ≠ 11 by decide), fl_full (fun i hi => h13 i hi), mtF_sm a0]
      rfl
    rw [z, mtF_sm t0]
    rfl
  obtain ⟨f1, f2⟩ := fb_rp (set := stF τ nL 0 0) hL0 (fun f hf => by rw [t0 3 (by decide)]; exact hw f hf) (fun f _ => by rw [← r13])
  have k : ∀ p : Nat, p = 18 ∨ p = 21 → rnw nF nL τ p = fbF nF nL (rnw0 nF nL τ) (stF τ nL 0 0) p := fun p hp => by
    unfold rnw
    rw [isF_fr (by omega), seF_fr (Or.inr (by omega))]
    unfold rnw1
    rw [cyM_fr (by omega) (by omega)]
  have kt : ∀ p : Nat, p ≤ 10 → rnw nF nL τ p = τ p := fun p hp => rnw_fr (by omega)
  have A : Agr (rnw nF nL τ) τ := agr_sm kt
  have hL9 : LV (rnw nF nL τ) nF nL := hL.sm kt
  have eS : stF (rnw nF nL τ) nL 0 0 = stF τ nL 0 0 := ag_st A hL9 nL 0 0 (Nat.zero_add _)
  refine ⟨fun f hf => by rw [kt 3 (by decide)]; exact hw f hf, by rw [k 18 (by omega), eS]; exact f2, ?_⟩
  rw [eS, P_sm kt, kt 3 (by decide)]
  rw [P_sm t0, t0 3 (by decide)] at f1
  unfold cv_Rp at f1 ⊢
  rw [k 18 (by omega), k 21 (by omega)]
  exact f1
