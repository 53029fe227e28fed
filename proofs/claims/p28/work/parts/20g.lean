/-! THE CLASS: its invariant, what is told -/
def CI (σ : Mem) (nF nL nC : Nat) : Prop := LV σ nF nL ∧ nC ≤ 12 ∧ σ 23 3 = nI nC ∧ bz (σ 12 2) ∧ bz (σ 14 2) ∧ (∀ i : Nat, isR (σ 22 i)) ∧ (∀ m : Nat, m < 6 → σ 26 m = -1 ∨ vp_in (σ 26 m) nC)
theorem CI.lv {σ : Mem} {nF nL nC : Nat} (h : CI σ nF nL nC) : LV σ nF nL := h.1
theorem CI.nc {σ : Mem} {nF nL nC : Nat} (h : CI σ nF nL nC) : σ 23 3 = nI nC := h.2.2.1
/-- what the invariant looks at: places up to 10, 12, 14, 22, 23, 26 -/
theorem CI.sm {σ τ : Mem} {nF nL nC : Nat} (h : CI σ nF nL nC) (e : ∀ p : Nat, (p ≤ 10 ∨ 22 ≤ p) → τ p = σ p) (b2 : bz (τ 12 2)) (b4 : bz (τ 14 2)) : CI τ nF nL nC := by
  obtain ⟨h1, h2, h3, h4, h5, h6, h7⟩ := h
  refine ⟨h1.sm (fun p hp => e p (Or.inl hp)), h2, by rw [e 23 (by omega)]; exact h3, b2, b4, by rw [e 22 (by omega)]; exact h6, by rw [e 26 (by omega)]; exact h7⟩
theorem rnw_bz {nF nL : Nat} {σ : Mem} (hb4 : bz (σ 14 2)) : bz (rnw nF nL σ 12 2) ∧ bz (rnw nF nL σ 14 2) := by
  have h12 : bz (fbF nF nL (rnw0 nF nL σ) (stF σ nL 0 0) 12 2) := by
    rw [fbF_fr ⟨by decide, by decide, by decide⟩ (by decide)]
    unfold rnw0
    exact bgM_bz
  have b4 : bz (rnw1 nF nL σ 14 2) := by rw [rnw1_fr (by omega)]; exact hb4
  have b6 : bz (rnw1 nF nL σ 16 2) := by unfold rnw1; exact cyM_bz h12
  refine ⟨?_, ?_⟩
  · unfold rnw
    rw [isF_fr (by decide), seF_fr (Or.inl (by decide))]
    unfold rnw1
    rw [cyM_fr (by decide) (by decide)]
    exact h12
  · unfold rnw
    rw [isF_fr (by decide)]
    exact (seF_bz nF 0 _ b4 b6).1
theorem rnw_is {nF nL : Nat} {σ : Mem} (h : ∀ i : Nat, isR (σ 22 i)) : ∀ i : Nat, isR (rnw nF nL σ 22 i) := by
  unfold rnw
  refine isF_r _ _ _ ?_
  rw [seF_fr (Or.inr (by decide)), rnw1_fr (by omega)]
  exact h
/-- the invariant behind a call that changes the laws -/
theorem CI.rnw {σ τ : Mem} {nF nL nC nF' nL' : Nat} (h : CI σ nF nL nC) (hL : LV τ nF' nL') (e : ∀ p : Nat, 10 < p → τ p = σ p) : CI (rnw nF' nL' τ) nF' nL' nC := by
  obtain ⟨h1, h2, h3, h4, h5, h6, h7⟩ := h
  have b4 : bz (τ 14 2) := by rw [e 14 (by omega)]; exact h5
  refine ⟨hL.sm (fun p hp => rnw_fr (by omega)), h2, ?_, (rnw_bz b4).1, (rnw_bz b4).2, rnw_is (by rw [e 22 (by omega)]; exact h6), ?_⟩
  · rw [rnw_fr (by omega), e 23 (by omega)]; exact h3
  · rw [rnw_fr (by omega), e 26 (by omega)]; exact h7
theorem s_isField {post : Int32 → Mem → Prop} {σ : Mem} {nF nL : Nat} {x : Int32} (h : LV σ nF nL) (hp : ∀ r : Int32, bl (vp_in x nF) r → post r σ) : q_X5_isField post x σ := by
  have h5 := h.1
  unfold q_X5_isField q_X5_isField_19 q_X5_isField_20
  rw [h.nf]
  refine ⟨fun q => ⟨bz0, hp 0 (bl0 (fun z => z (Or.inl q)))⟩, fun q => ⟨fun q2 => ⟨bz0, hp 0 (bl0 (fun z => ?_))⟩, fun q2 => ⟨bz1, hp 1 (bl1 ?_)⟩⟩⟩
  · obtain ⟨j, hj, rfl⟩ := vin_ex (by omega) z
    exact absurd ((nI_leI (by omega) (by omega)).mp q2) (by omega)
  · rcases pk_ix x (n := nF) (by omega) with z | z | ⟨j, hj, rfl⟩
    · exact absurd z q
    · exact absurd z q2
    · exact vin_j hj (by omega)
theorem s_isLine {post : Int32 → Mem → Prop} {σ : Mem} {nF nL : Nat} {x : Int32} (h : LV σ nF nL) (hp : ∀ r : Int32, bl (vp_in x nL) r → post r σ) : q_X5_isLine post x σ := by
  have h5 := h.2.1
  unfold q_X5_isLine q_X5_isLine_19 q_X5_isLine_20
  rw [h.nl]
  refine ⟨fun q => ⟨bz0, hp 0 (bl0 (fun z => z (Or.inl q)))⟩, fun q => ⟨fun q2 => ⟨bz0, hp 0 (bl0 (fun z => ?_))⟩, fun q2 => ⟨bz1, hp 1 (bl1 ?_)⟩⟩⟩
  · obtain ⟨j, hj, rfl⟩ := vin_ex (by omega) z
    exact absurd ((nI_leI (by omega) (by omega)).mp q2) (by omega)
  · rcases pk_ix x (n := nL) (by omega) with z | z | ⟨j, hj, rfl⟩
    · exact absurd z q
    · exact absurd z q2
    · exact vin_j hj (by omega)
theorem s_isCommit {post : Int32 → Mem → Prop} {σ : Mem} {nC : Nat} {x : Int32} (hn : nC ≤ 12) (hc : σ 23 3 = nI nC) (hp : ∀ r : Int32, bl (vp_in x nC) r → post r σ) : q_X5_isCommit post x σ := by
  unfold q_X5_isCommit q_X5_isCommit_19 q_X5_isCommit_20
  rw [hc]
  refine ⟨fun q => ⟨bz0, hp 0 (bl0 (fun z => z (Or.inl q)))⟩, fun q => ⟨fun q2 => ⟨bz0, hp 0 (bl0 (fun z => ?_))⟩, fun q2 => ⟨bz1, hp 1 (bl1 ?_)⟩⟩⟩
  · obtain ⟨j, hj, rfl⟩ := vin_ex (by omega) z
    exact absurd ((nI_leI (by omega) (by omega)).mp q2) (by omega)
  · rcases pk_ix x (n := nC) (by omega) with z | z | ⟨j, hj, rfl⟩
    · exact absurd z q
    · exact absurd z q2
    · exact vin_j hj (by omega)
/-- between low numbers -/
theorem vin_lo {x : Int32} {n : Nat} (hn : n < 2 ^ 31) (h1 : ¬ x < 0) (h2 : ¬ nI n ≤ x) : vp_in x n := by
  rcases pk_ix x hn with z | z | ⟨j, hj, rfl⟩
  · exact absurd z h1
  · exact absurd z h2
  · exact vin_j hj (by omega)
theorem lo_vin {x : Int32} {n : Nat} (hn : n < 2 ^ 31) (h : vp_in x n) : ¬ x < 0 ∧ ¬ nI n ≤ x := by
  obtain ⟨j, hj, rfl⟩ := vin_ex hn h
  exact ⟨nI_pos0 (by omega), fun z => absurd ((nI_leI (by omega) (by omega)).mp z) (by omega)⟩
theorem lt_nI {a n : Nat} (ha : a < 2 ^ 31) (hn : n < 2 ^ 31) : nI a < nI n ↔ a < n := by
  rw [Int32.lt_iff_toInt_lt, nI_toInt ha, nI_toInt hn]
  omega
/-- a field more -/
def fdM (nF : Nat) (t : Int32) (σ : Mem) : Mem := mst (mst (mst σ 2 nF t) 3 nF 1) 1 9 (nI (nF + 1))
theorem fdM_hi {nF : Nat} {t : Int32} {σ : Mem} {p : Nat} (hp : 10 < p) : fdM nF t σ p = σ p := by
  unfold fdM
  rw [mst_ne (by omega), mst_ne (by omega), mst_ne (by omega)]
theorem fdM_lv {nF nL : Nat} {t : Int32} {σ : Mem} (h : LV σ nF nL) (hn : nF < 5) : LV (fdM nF t σ) (nF + 1) nL := by
  obtain ⟨h1, h2, h3, h4, h5⟩ := h
  have e : ∀ p : Nat, p ≠ 1 → p ≠ 2 → p ≠ 3 → fdM nF t σ p = σ p := fun p a b c => by
    unfold fdM
    rw [mst_ne a, mst_ne c, mst_ne b]
  refine ⟨by omega, h2, ?_, ?_, fun j hj => ?_⟩
  · unfold fdM; rw [mst_eq, upd_eq]
  · unfold fdM; rw [mst_eq, upd_ne (by decide), mst_ne (by decide), mst_ne (by decide)]; exact h4
  · rw [e 6 (by decide) (by decide) (by decide), e 4 (by decide) (by decide) (by decide), e 7 (by decide) (by decide) (by decide), e 8 (by decide) (by decide) (by decide)]
    obtain ⟨a, b, c, d⟩ := h5 j hj
    exact ⟨vin_mono a (by omega), b, fun k => ⟨vin_mono (c k).1 (by omega), (c k).2⟩, d⟩
theorem s_makeField {post : Int32 → Mem → Prop} {σ : Mem} {nF nL : Nat} {t : Int32} (h : LV σ nF nL) (hn : nF < 5) (hp : post (nI nF) (fdM nF t σ)) : q_X2_makeField post t σ := by
  have h5 := h.1
  have e : (nI nF).toNatClampNeg = nF := nI_clamp (by omega)
  have hv : vp_in (nI nF) 5 := vin_j hn (by decide)
  unfold q_X2_makeField
  rw [h.nf, e]
  refine ⟨fun _ => ⟨hv, ?_⟩, fun q => absurd ((lt_nI (n := 5) (by omega) (by decide)).mpr hn) q⟩
  rintro _ rfl
  rw [mst_ne (show (1 : Nat) ≠ 2 by decide), h.nf, e]
  refine ⟨hv, ?_⟩
  rintro _ rfl _ rfl
  rw [mst_ne (show (1 : Nat) ≠ 3 by decide), mst_ne (show (1 : Nat) ≠ 2 by decide), h.nf, mst_eq, upd_eq, nI_1]
  have e9 : nI (nF + 1) - 1 = nI nF := by rw [← nI_1]; exact Int32.add_sub_cancel _ _
  rw [e9]
  exact hp
/-- a line more -/
def lnN (nL : Nat) (kd by_ ab sd bs : Int32) (σ : Mem) : Mem := mst (mst (mst (mst (mst (mst σ 4 nL kd) 5 nL by_) 6 nL ab) 7 nL sd) 8 nL bs) 1 10 (nI (nL + 1))
theorem lnN_hi {nL : Nat} {kd by_ ab sd bs : Int32} {σ : Mem} {p : Nat} (hp : 8 < p ∨ p = 0 ∨ p = 2 ∨ p = 3) : lnN nL kd by_ ab sd bs σ p = σ p := by
  unfold lnN
  rw [mst_ne (by omega), mst_ne (by omega), mst_ne (by omega), mst_ne (by omega), mst_ne (by omega), mst_ne (by omega)]
theorem lnN_4 {nL : Nat} {kd by_ ab sd bs : Int32} {σ : Mem} : lnN nL kd by_ ab sd bs σ 4 = upd (σ 4) nL kd := by
  unfold lnN
  rw [mst_ne (by decide), mst_ne (by decide), mst_ne (by decide), mst_ne (by decide), mst_ne (by decide), mst_eq]
theorem lnN_5 {nL : Nat} {kd by_ ab sd bs : Int32} {σ : Mem} : lnN nL kd by_ ab sd bs σ 5 = upd (σ 5) nL by_ := by
  unfold lnN
  rw [mst_ne (by decide), mst_ne (by decide), mst_ne (by decide), mst_ne (by decide), mst_eq, mst_ne (by decide)]
theorem lnN_6 {nL : Nat} {kd by_ ab sd bs : Int32} {σ : Mem} : lnN nL kd by_ ab sd bs σ 6 = upd (σ 6) nL ab := by
  unfold lnN
  rw [mst_ne (by decide), mst_ne (by decide), mst_ne (by decide), mst_eq, mst_ne (by decide), mst_ne (by decide)]
theorem lnN_7 {nL : Nat} {kd by_ ab sd bs : Int32} {σ : Mem} : lnN nL kd by_ ab sd bs σ 7 = upd (σ 7) nL sd := by
  unfold lnN
  rw [mst_ne (by decide), mst_ne (by decide), mst_eq, mst_ne (by decide), mst_ne (by decide), mst_ne (by decide)]
theorem lnN_8 {nL : Nat} {kd by_ ab sd bs : Int32} {σ : Mem} : lnN nL kd by_ ab sd bs σ 8 = upd (σ 8) nL bs := by
  unfold lnN
  rw [mst_ne (by decide), mst_eq, mst_ne (by decide), mst_ne (by decide), mst_ne (by decide), mst_ne (by decide)]
theorem lnN_1 {nL : Nat} {kd by_ ab sd bs : Int32} {σ : Mem} : lnN nL kd by_ ab sd bs σ 1 = upd (σ 1) 10 (nI (nL + 1)) := by
  unfold lnN
  rw [mst_eq, mst_ne (by decide), mst_ne (by decide), mst_ne (by decide), mst_ne (by decide), mst_ne (by decide)]
/-- a line in order -/
def lnOk (nF : Nat) (kd ab sd bs : Int32) : Prop := vp_in ab nF ∧ vp_in kd 6 ∧ ((kd = 3 ∨ kd = 4) → vp_in sd nF ∧ ¬ sd = ab) ∧ (kd = 0 → sd &&& 255 = sd) ∧ ((kd = 1 ∨ kd = 2 ∨ kd = 5) → vp_in sd 8) ∧ (kd = 5 → vp_in bs 10)
theorem lnN_lv {nF nL : Nat} {kd by_ ab sd bs : Int32} {σ : Mem} (h : LV σ nF nL) (hn : nL < 30) (hk : lnOk nF kd ab sd bs) : LV (lnN nL kd by_ ab sd bs σ) nF (nL + 1) := by
  obtain ⟨h1, h2, h3, h4, h5⟩ := h
  refine ⟨h1, by omega, ?_, ?_, fun j hj => ?_⟩
  · rw [lnN_1, upd_ne (by decide)]; exact h3
  · rw [lnN_1, upd_eq]
  · rw [lnN_4, lnN_6, lnN_7, lnN_8]
    by_cases e : j = nL
    · subst e
      rw [upd_eq, upd_eq, upd_eq, upd_eq]
      exact hk
    · rw [upd_ne e, upd_ne e, upd_ne e, upd_ne e]
      exact h5 j (by omega)
theorem s_tell {post : Int32 → Mem → Prop} {σ : Mem} {nF nL nC : Nat} {kd by_ ab sd bs : Int32} (h : CI σ nF nL nC) (hn : nL < 30) (hk : lnOk nF kd ab sd bs) (hp : post (nI nL) (rnw nF (nL + 1) (lnN nL kd by_ ab sd bs σ))) : q_X5_tell post kd by_ ab sd bs σ := by
  have hL := h.lv
  have e : (nI nL).toNatClampNeg = nL := nI_clamp (by omega)
  have hv : vp_in (nI nL) 30 := vin_j hn (by decide)
  unfold q_X5_tell q_X2_makeLine
  rw [hL.nl, e]
  refine ⟨fun _ => ⟨hv, ?_⟩, fun q => absurd ((lt_nI (by omega) (by decide)).mpr hn) q⟩
  rintro _ rfl
  rw [mst_ne (show (1 : Nat) ≠ 4 by decide), hL.nl, e]
  refine ⟨hv, ?_⟩
  rintro _ rfl
  rw [mst_ne (show (1 : Nat) ≠ 5 by decide), mst_ne (show (1 : Nat) ≠ 4 by decide), hL.nl, e]
  refine ⟨hv, ?_⟩
  rintro _ rfl
  rw [mst_ne (show (1 : Nat) ≠ 6 by decide), mst_ne (show (1 : Nat) ≠ 5 by decide), mst_ne (show (1 : Nat) ≠ 4 by decide), hL.nl, e]
  refine ⟨hv, ?_⟩
  rintro _ rfl
  rw [mst_ne (show (1 : Nat) ≠ 7 by decide), mst_ne (show (1 : Nat) ≠ 6 by decide), mst_ne (show (1 : Nat) ≠ 5 by decide), mst_ne (show (1 : Nat) ≠ 4 by decide), hL.nl, e]
  refine ⟨hv, ?_⟩
  rintro _ rfl _ rfl
  rw [mst_ne (show (1 : Nat) ≠ 8 by decide), mst_ne (show (1 : Nat) ≠ 7 by decide), mst_ne (show (1 : Nat) ≠ 6 by decide), mst_ne (show (1 : Nat) ≠ 5 by decide), mst_ne (show (1 : Nat) ≠ 4 by decide), hL.nl, mst_eq, upd_eq, nI_1]
  have e9 : nI (nL + 1) - 1 = nI nL := by rw [← nI_1]; exact Int32.add_sub_cancel _ _
  rw [e9]
  change q_X4_renew _ (lnN nL kd by_ ab sd bs σ)
  refine s_renew (lnN_lv hL hn hk) ?_ hp
  rw [lnN_hi (by omega)]
  exact h.2.2.2.2.1
