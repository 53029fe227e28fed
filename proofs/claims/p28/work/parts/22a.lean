/-! THE CLASS: every word keeps its invariant, and how often it was refused -/
def CK (σ σ' : Mem) : Prop := (∃ nF nL nC : Nat, CI σ' nF nL nC) ∧ σ' 0 3 = σ 0 3
abbrev KP (σ : Mem) (post : Int32 → Mem → Int64 → Value → Prop) : Prop := ∀ (k : Int32) (σ' : Mem) (n : Int64) (v : Value), CK σ σ' → post k σ' n v
theorem ck_rf {σ : Mem} {nF nL nC : Nat} (h : CI σ nF nL nC) : CK σ σ := ⟨⟨_, _, _, h⟩, rfl⟩
theorem ck_ae {σ τ : Mem} {nF nL nC : Nat} (h : CI σ nF nL nC) (ha : AE σ τ) : CK σ τ := ⟨⟨_, _, _, ha.ci h⟩, by rw [ha.1 0 (by decide) (by decide)]⟩
theorem ck_rnw {σ τ : Mem} {nF nL nC nF' nL' : Nat} (h : CI σ nF nL nC) (hL : LV τ nF' nL') (e : ∀ p : Nat, 10 < p → τ p = σ p) (e0 : τ 0 = σ 0) : CK σ (rnw nF' nL' τ) := ⟨⟨_, _, _, h.rnw hL e⟩, by rw [rnw_fr (by omega), e0]⟩
theorem ck_ln {σ : Mem} {nF nL nC : Nat} {kd by_ ab sd bs : Int32} (h : CI σ nF nL nC) (hn : nL < 30) (hk : lnOk nF kd ab sd bs) : CK σ (rnw nF (nL + 1) (lnN nL kd by_ ab sd bs σ)) := ck_rnw h (lnN_lv h.lv hn hk) (fun p hp => lnN_hi (by omega)) (lnN_hi (by omega))
theorem ck_hi {σ τ : Mem} {nF nL nC : Nat} (h : CI σ nF nL nC) (e : ∀ p : Nat, p < 39 → τ p = σ p) : CK σ τ := by
  obtain ⟨h1, h2, h3, h4, h5, h6, h7⟩ := h
  refine ⟨⟨nF, nL, nC, h1.sm (fun p hp => e p (by omega)), h2, by rw [e 23 (by omega)]; exact h3, by rw [e 12 (by omega)]; exact h4, by rw [e 14 (by omega)]; exact h5, by rw [e 22 (by omega)]; exact h6, by rw [e 26 (by omega)]; exact h7⟩, by rw [e 0 (by omega)]⟩
section KW
variable {post : Int32 → Mem → Int64 → Value → Prop} {σ : Mem} {nF nL nC : Nat} {a1 a2 a3 a4 : Int32} {n : Int64} {v : Value}
theorem k_field (h : CI σ nF nL nC) (hp : KP σ post) : q_L_field post a1 n v σ := by
  unfold q_L_field
  exact s_X5_field h (fun _ => Or.inl ⟨rfl, hp _ _ _ _ (ck_rf h)⟩) (fun _ _ => Or.inr ⟨rfl, hp _ _ _ _ (ck_rf h)⟩) (fun hv hlt => hp _ _ _ _ (ck_rnw h (fdM_lv h.lv hlt) (fun p hp => fdM_hi hp) (by unfold fdM; rw [mst_ne (by decide), mst_ne (by decide), mst_ne (by decide)])))
theorem k_oneOf (h : CI σ nF nL nC) (hp : KP σ post) : q_L_oneOf post a1 a2 a3 n v σ := by
  unfold q_L_oneOf
  refine s_X5_oneOf h (fun _ => Or.inl ⟨rfl, hp _ _ _ _ (ck_rf h)⟩) (fun _ _ => Or.inr (Or.inl ⟨rfl, hp _ _ _ _ (ck_rf h)⟩)) (fun _ _ _ => Or.inr (Or.inr ⟨rfl, hp _ _ _ _ (ck_rf h)⟩)) (fun hv hs hn => hp _ _ _ _ (ck_ln h hn ⟨hv, vin_6 0 (by decide), fun k => by rcases k with k | k <;> exact absurd k (by decide), fun _ => ?_, fun k => by rcases k with k | k | k <;> exact absurd k (by decide), fun k => absurd k (by decide)⟩))
  obtain ⟨j, -, hj, ej⟩ := set_in hs.2.1 hs.2.2
  rw [ej]; exact and255 j hj
theorem k_bound (h : CI σ nF nL nC) (hp : KP σ post) : q_L_bound post a1 a2 a3 a4 n v σ := by
  unfold q_L_bound
  refine s_X5_bound h (fun _ => Or.inl ⟨rfl, hp _ _ _ _ (ck_rf h)⟩) (fun _ _ => Or.inr (Or.inl ⟨rfl, hp _ _ _ _ (ck_rf h)⟩)) (fun _ _ _ => Or.inr (Or.inr ⟨rfl, hp _ _ _ _ (ck_rf h)⟩)) (fun hv hs hn => hp _ _ _ _ (ck_ln h hn ?_))
  split
  · exact ⟨hv, vin_6 1 (by decide), fun k => by rcases k with k | k <;> exact absurd k (by decide), fun k => absurd k (by decide), fun _ => hs.2, fun k => absurd k (by decide)⟩
  · exact ⟨hv, vin_6 2 (by decide), fun k => by rcases k with k | k <;> exact absurd k (by decide), fun k => absurd k (by decide), fun _ => hs.2, fun k => absurd k (by decide)⟩
theorem k_more (h : CI σ nF nL nC) (hp : KP σ post) : q_L_more post a1 a2 a3 a4 n v σ := by
  unfold q_L_more
  exact s_X5_more h (fun _ => Or.inl ⟨rfl, hp _ _ _ _ (ck_rf h)⟩) (fun _ _ => Or.inr (Or.inl ⟨rfl, hp _ _ _ _ (ck_rf h)⟩)) (fun _ _ _ => Or.inr (Or.inr ⟨rfl, hp _ _ _ _ (ck_rf h)⟩)) (fun hv hs hn => hp _ _ _ _ (ck_ln h hn ⟨hv.1, vin_6 3 (by decide), fun _ => ⟨hv.2, fun z => hs.2.1 z.symm⟩, fun k => absurd k (by decide), fun k => by rcases k with k | k | k <;> exact absurd k (by decide), fun k => absurd k (by decide)⟩))
theorem k_unlike (h : CI σ nF nL nC) (hp : KP σ post) : q_L_unlike post a1 a2 a3 n v σ := by
  unfold q_L_unlike
  exact s_X5_unlike h (fun _ => Or.inl ⟨rfl, hp _ _ _ _ (ck_rf h)⟩) (fun _ _ => Or.inr (Or.inl ⟨rfl, hp _ _ _ _ (ck_rf h)⟩)) (fun _ _ _ => Or.inr (Or.inr ⟨rfl, hp _ _ _ _ (ck_rf h)⟩)) (fun hv hs hn => hp _ _ _ _ (ck_ln h hn ⟨hv.1, vin_6 4 (by decide), fun _ => ⟨hv.2, fun z => hs.2 z.symm⟩, fun k => absurd k (by decide), fun k => by rcases k with k | k | k <;> exact absurd k (by decide), fun k => absurd k (by decide)⟩))
theorem lo10 {x : Int32} (h1 : ¬ x < 0) (h2 : x ≤ 9) : vp_in x 10 := vin_lo (by decide) h1 (fun q => by
  rw [Int32.le_iff_toInt_le] at q h2
  have e1 : (9 : Int32).toInt = 9 := by decide
  have e2 : (nI 10).toInt = 10 := by decide
  omega)
theorem k_preset (h : CI σ nF nL nC) (hp : KP σ post) : q_L_preset post a1 a2 a3 a4 n v σ := by
  unfold q_L_preset
  exact s_X5_preset h (fun _ => Or.inl ⟨rfl, hp _ _ _ _ (ck_rf h)⟩) (fun _ _ => Or.inr (Or.inl ⟨rfl, hp _ _ _ _ (ck_rf h)⟩)) (fun _ _ _ => Or.inr (Or.inr ⟨rfl, hp _ _ _ _ (ck_rf h)⟩)) (fun hv hs hn => hp _ _ _ _ (ck_ln h hn ⟨hv, vin_6 5 (by decide), fun k => by rcases k with k | k <;> exact absurd k (by decide), fun k => absurd k (by decide), fun _ => hs.2.1, fun _ => lo10 hs.2.2.1 hs.2.2.2⟩))
theorem k_approve (h : CI σ nF nL nC) (hp : KP σ post) : q_L_approve post a1 a2 n v σ := by
  unfold q_L_approve
  refine s_X5_approve h (fun _ => ⟨rfl, hp _ _ _ _ (ck_rf h)⟩) (fun j hj _ r _ => ?_)
  have ck : CK σ (rnw nF nL (mst σ 9 j (vp_nar .boolean a2))) := ck_rnw h (h.lv.mst9 (by omega)) (fun p hp => mst_ne (by omega)) (mst_ne (by decide))
  exact ⟨fun _ => hp _ _ _ _ ck, fun _ => hp _ _ _ _ ck⟩
theorem k_withdraw (h : CI σ nF nL nC) (hp : KP σ post) : q_L_withdraw post a1 a2 n v σ := by
  unfold q_L_withdraw
  refine s_X5_withdraw h (fun _ => ⟨rfl, hp _ _ _ _ (ck_rf h)⟩) (fun j hj _ r _ => ?_)
  have ck : CK σ (rnw nF nL (mst σ 10 j (vp_nar .boolean a2))) := ck_rnw h (h.lv.mst9 (by omega)) (fun p hp => mst_ne (by omega)) (mst_ne (by decide))
  exact ⟨fun _ => hp _ _ _ _ ck, fun _ => hp _ _ _ _ ck⟩
theorem k_weight (h : CI σ nF nL nC) (hp : KP σ post) : q_L_weight post a1 a2 n v σ := by
  unfold q_L_weight
  exact s_X5_weight h (fun _ => Or.inl ⟨rfl, hp _ _ _ _ (ck_rf h)⟩) (fun _ _ => Or.inr ⟨rfl, hp _ _ _ _ (ck_rf h)⟩) (fun f _ _ _ => hp _ _ _ _ (ck_rnw h (h.lv.mst9 (by omega)) (fun p hp => mst_ne (by omega)) (mst_ne (by decide))))
theorem k_commit (h : CI σ nF nL nC) (hp : KP σ post) : q_L_commit post n v σ := by
  unfold q_L_commit
  refine s_X5_commit h (fun _ => ⟨rfl, hp _ _ _ _ (ck_rf h)⟩) (fun _ hlt => hp _ _ _ _ ?_)
  obtain ⟨h1, h2, h3, h4, h5, h6, h7⟩ := h
  have e : ∀ p : Nat, p ≠ 23 → (p < 27 ∨ 38 < p) → kpM nC σ p = σ p := fun p a b => by
    unfold kpM
    rw [mst_ne a, mup_ne (by omega)]
  refine ⟨⟨nF, nL, nC + 1, h1.sm (fun p hp => e p (by omega) (by omega)), by omega, ?_, by rw [e 12 (by decide) (by omega)]; exact h4, by rw [e 14 (by decide) (by omega)]; exact h5, by rw [e 22 (by decide) (by omega)]; exact h6, fun m hm => ?_⟩, by rw [e 0 (by decide) (by omega)]⟩
  · unfold kpM; rw [mst_eq, upd_eq]
  · rw [e 26 (by decide) (by omega)]
    exact (h7 m hm).imp id (fun z => vin_mono z (by omega))
theorem wv_26 {c : Nat} {set : Int32} {nC : Nat} (hc : c < nC) (h12 : nC ≤ 12) : ∀ (d m : Nat) (x : Int32) (σ : Mem), (∀ i : Nat, i < 6 → σ 26 i = -1 ∨ vp_in (σ 26 i) nC) → ∀ i : Nat, i < 6 → (wvF c set d m x σ).2 26 i = -1 ∨ vp_in ((wvF c set d m x σ).2 26 i) nC := by
  intro d
  induction d with
  | zero => intro m x σ h; exact h
  | succ d ih =>
    intro m x σ h
    unfold wvF
    split
    · exact ih _ _ _ h
    · refine ih _ _ _ (fun i hi => ?_)
      have e : brM σ m c 26 = upd (σ 26) m (nI c) := by
        unfold brM
        rw [mup_ne (by omega), mst_eq]
      rw [e]
      by_cases z : i = m
      · subst z; rw [upd_eq]; exact Or.inr (vin_j hc (by omega))
      · rw [upd_ne z]; exact h i hi
theorem k_wave (h : CI σ nF nL nC) (hp : KP σ post) : q_L_wave post a1 a2 n v σ := by
  unfold q_L_wave
  refine s_X5_wave h (fun _ => Or.inl ⟨rfl, hp _ _ _ _ (ck_rf h)⟩) (fun _ _ => Or.inr ⟨rfl, hp _ _ _ _ (ck_rf h)⟩) (fun c hc _ _ => hp _ _ _ _ ?_)
  obtain ⟨h1, h2, h3, h4, h5, h6, h7⟩ := h
  have e : ∀ p : Nat, p < 26 → (wvF c a2 6 0 0 σ).2 p = σ p := fun p hp => wvF_fr (Or.inl hp) _ _ _ _
  exact ⟨⟨nF, nL, nC, h1.sm (fun p hp => e p (by omega)), h2, by rw [e 23 (by decide)]; exact h3, by rw [e 12 (by decide)]; exact h4, by rw [e 14 (by decide)]; exact h5, by rw [e 22 (by decide)]; exact h6, wv_26 hc h2 6 0 0 σ h7⟩, by rw [e 0 (by decide)]⟩
theorem k_patch (h : CI σ nF nL nC) (hp : KP σ post) : q_L_patch post a1 a2 a3 n v σ := by
  unfold q_L_patch
  exact s_X5_patch h (fun _ => Or.inl ⟨rfl, hp _ _ _ _ (ck_rf h)⟩) (fun _ _ => Or.inr ⟨rfl, hp _ _ _ _ (ck_rf h)⟩) (fun m f _ _ _ _ _ => hp _ _ _ _ (ck_hi h (fun p hp => mup_ne (by omega))))
theorem k_absorb (h : CI σ nF nL nC) (hp : KP σ post) : q_L_absorb post a1 a2 n v σ := by
  unfold q_L_absorb
  refine s_X5_absorb h (fun _ => Or.inl ⟨rfl, hp _ _ _ _ (ck_rf h)⟩) (fun _ _ _ _ _ _ _ => Or.inr ⟨rfl, hp _ _ _ _ (ck_rf h)⟩) (fun m f hm hf _ _ _ hv hn => hp _ _ _ _ (ck_ln h hn ⟨vin_j hf (by have := h.lv.1; omega), vin_6 0 (by decide), fun k => by rcases k with k | k <;> exact absurd k (by decide), fun _ => ?_, fun k => by rcases k with k | k | k <;> exact absurd k (by decide), fun k => absurd k (by decide)⟩))
  obtain ⟨j, hj, ej⟩ := vin_ex (by decide) hv
  rw [ej]; exact one8 j hj
theorem k_ofField (h : CI σ nF nL nC) (hp : KP σ post) : q_L_ofField post a1 a2 n v σ := by
  unfold q_L_ofField
  exact s_X5_ofField h (fun _ => Or.inl ⟨rfl, hp _ _ _ _ (ck_rf h)⟩) (fun _ _ => Or.inr ⟨rfl, hp _ _ _ _ (ck_rf h)⟩) (fun _ _ _ _ _ _ => hp _ _ _ _ (ck_rf h))
theorem k_ofLine (h : CI σ nF nL nC) (hp : KP σ post) : q_L_ofLine post a1 a2 n v σ := by
  unfold q_L_ofLine
  refine s_X5_ofLine h (fun _ => Or.inl ⟨rfl, hp _ _ _ _ (ck_rf h)⟩) (fun _ _ => Or.inr ⟨rfl, hp _ _ _ _ (ck_rf h)⟩) (fun _ _ _ _ _ _ => hp _ _ _ _ ?_)
  split
  · exact ck_ae h (rsF_ae h.2.2.2.2.1)
  · exact ck_rf h
theorem k_ofMachine (h : CI σ nF nL nC) (hp : KP σ post) : q_L_ofMachine post a1 a2 n v σ := by
  unfold q_L_ofMachine
  exact s_X5_ofMachine h (fun _ => Or.inl ⟨rfl, hp _ _ _ _ (ck_rf h)⟩) (fun _ _ => Or.inr ⟨rfl, hp _ _ _ _ (ck_rf h)⟩) (fun _ _ _ _ _ _ => hp _ _ _ _ (ck_rf h))
theorem k_has (h : CI σ nF nL nC) (hp : KP σ post) : q_L_has post a1 a2 n v σ := by
  unfold q_L_has
  exact s_X5_has h (fun _ => ⟨rfl, hp _ _ _ _ (ck_rf h)⟩) (fun _ _ _ _ _ _ => hp _ _ _ _ (ck_rf h))
theorem k_ofCommit (h : CI σ nF nL nC) (hp : KP σ post) : q_L_ofCommit post a1 a2 n v σ := by
  unfold q_L_ofCommit
  exact s_X5_ofCommit h (fun _ => ⟨rfl, hp _ _ _ _ (ck_rf h)⟩) (fun _ _ _ _ _ _ => hp _ _ _ _ (ck_rf h))
theorem k_house (h : CI σ nF nL nC) (hp : KP σ post) : q_L_house post a1 n v σ := by
  unfold q_L_house
  exact s_X5_house h (fun _ => ⟨rfl, hp _ _ _ _ (ck_rf h)⟩) (fun _ _ _ => hp _ _ _ _ (ck_rf h))
theorem k_value (h : CI σ nF nL nC) (hp : KP σ post) : q_L_value post a1 n v σ := by
  unfold q_L_value
  exact s_X5_value h (fun _ => ⟨rfl, hp _ _ _ _ (ck_rf h)⟩) (fun _ _ => hp _ _ _ _ (ck_rf h))
theorem k_reason (h : CI σ nF nL nC) (hp : KP σ post) : q_L_reason post a1 n v σ := by
  unfold q_L_reason
  exact s_X5_reason h (fun _ => ⟨rfl, hp _ _ _ _ (ck_rf h)⟩) (fun _ => hp _ _ _ _ (ck_ae h (rsF_ae h.2.2.2.2.1)))
theorem k_met (h : CI σ nF nL nC) (hp : KP σ post) : q_L_met post a1 a2 n v σ := by
  unfold q_L_met
  exact s_X5_met h (fun _ => Or.inl ⟨rfl, hp _ _ _ _ (ck_rf h)⟩) (fun _ _ => Or.inr ⟨rfl, hp _ _ _ _ (ck_rf h)⟩) (fun _ _ _ _ => hp _ _ _ _ (ck_ae h bgM_ae))
theorem k_choices (h : CI σ nF nL nC) (hp : KP σ post) : q_L_choices post a1 a2 n v σ := by
  unfold q_L_choices
  refine s_X5_choices h (fun _ => Or.inl ⟨rfl, hp _ _ _ _ (ck_rf h)⟩) (fun _ _ => Or.inr ⟨rfl, hp _ _ _ _ (ck_rf h)⟩) (fun f _ _ _ => hp _ _ _ _ ⟨⟨_, _, _, h.sm (fun p hp => ctR_fr (by unfold chK; omega) (by omega) _ _ _) ?_ ?_⟩, ?_⟩)
  · rw [ctR_fr (by unfold chK; omega) (by decide)]; exact h.2.2.2.1
  · rw [ctR_fr (by unfold chK; omega) (by decide)]; exact h.2.2.2.2.1
  · rw [ctR_fr (by unfold chK; omega) (by decide)]
theorem k_isNarrower (h : CI σ nF nL nC) (hp : KP σ post) : q_L_isNarrower post a1 a2 n v σ := by
  unfold q_L_isNarrower
  exact s_X5_isNarrower h (fun _ => ⟨rfl, hp _ _ _ _ (ck_rf h)⟩) (fun _ _ _ _ _ _ r _ => ⟨fun _ => hp _ _ _ _ (ck_rf h), fun _ => hp _ _ _ _ (ck_rf h)⟩)
end KW
