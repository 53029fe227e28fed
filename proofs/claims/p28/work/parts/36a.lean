/-! SIDE BY SIDE: the best choice, what a field is, when it changed -/
section JB
variable {am g : Nat → Nat} {a1 a2 a3 a4 : Int32} {σ τ : Mem} {nF : Nat} {n : Int64} {v : Value}
theorem wt_w (h : RR σ g τ nF) : ∀ f : Nat, f < nF → τ 2 f = nI (σ 3 f).toNatClampNeg ∧ (σ 3 f).toNatClampNeg ≤ 9 := fun f hf => by
  have h5 := h.lv.1
  have e : σ 3 f = τ 2 f := h.ag 3 f (by decide) (by decide) (by omega)
  obtain ⟨c, hc, ec⟩ := vin_ex (by decide) (h.bw.1 f hf)
  rw [← e, ec, nI_clamp (by omega)]
  exact ⟨rfl, by omega⟩
theorem bS_eq (h : RR σ g τ nF) : cv_bS (cv_P (tm (g 0) τ) (stF (tm (g 0) τ) (g 0) 0 0) (g 0) nF full) (fun f => (σ 3 f).toNatClampNeg) nF = cv_bS (cv_P σ (stF σ (g 0) 0 0) (g 0) nF full) (fun f => (σ 3 f).toNatClampNeg) nF := by
  rw [← ag_st h.ag h.ci.lv (g 0) 0 0 (Nat.zero_add _), ← P_ag h.ag h.lv.2.1]
theorem x_best {post : Int32 → Mem → Prop} (h : RR σ g τ nF) (hp : ∀ (r : Int32) (ρ : Mem), WY τ ρ → bl (¬ σ 18 4 = -1) r → (¬ σ 18 4 = -1 → ρ 0 12 = σ 18 4 ∧ ∀ f : Nat, f < nF → ρ 9 f = σ 21 f) → post r ρ) : q_X8_isChosen (g 0) (g 2) post τ := by
  obtain ⟨b1, b2, b3⟩ := h.bw
  refine x_isChosen (w := fun f => (σ 3 f).toNatClampNeg) h.lv (wt_w h) (fun r ρ hρ hr hv => ?_)
  rw [bS_eq h] at hr hv
  generalize cv_bS (cv_P σ (stF σ (g 0) 0 0) (g 0) nF full) (fun f => (σ 3 f).toNatClampNeg) nF = S at b3 hr hv
  rcases b3 with ⟨e1, e2, e3⟩ | ⟨e1, e2, e3, e4⟩
  · exact hp r ρ hρ (hr.iff ⟨fun z => by omega, fun z => absurd e2 z⟩) (fun z => absurd e2 z)
  · exact hp r ρ hρ (hr.iff ⟨fun _ => by rw [e2]; exact m1_nI e1, fun _ => e1⟩) (fun _ => ⟨by rw [(hv e1).1, e2], fun f hf => by rw [(hv e1).2 f hf, e3 f hf]⟩)
theorem best_none (h : RR σ g τ nF) (e : σ 18 4 = -1) : ∀ f : Nat, f < 5 → σ 21 f = -1 := by
  rcases h.bw.2.2 with ⟨-, -, z⟩ | ⟨z, z2, -⟩
  · exact z
  · exact absurd (by rw [← z2]; exact e) (m1_nI z)
theorem best_may (h : RR σ g τ nF) (e : ¬ σ 18 4 = -1) : ∀ f : Nat, f < nF → ∃ j : Nat, j < 8 ∧ σ 21 f = nI j ∧ hasB (σ 13 f) (nI j) := fun f hf => by
  have h5 := h.lv.1
  have hL := h.ci.lv
  obtain ⟨b1, b2, b3⟩ := h.bw
  have k := bf_has (P := cv_P σ (stF σ (g 0) 0 0) (g 0) nF full) (w := fun f => (σ 3 f).toNatClampNeg) (nF := nF) nF 0 (fun _ => 0) (1000, fun _ => 0) (Nat.zero_add _) (fun i hi => absurd hi (Nat.not_lt_zero i)) (fun y _ ho => cs_1000 h5 (fun i hi => (wt_w h i hi).2) ho) (Or.inl rfl)
  have e0 : cv_bS (cv_P σ (stF σ (g 0) 0 0) (g 0) nF full) (fun f => (σ 3 f).toNatClampNeg) nF = cv_bf (cv_P σ (stF σ (g 0) 0 0) (g 0) nF full) (fun f => (σ 3 f).toNatClampNeg) nF nF 0 (fun _ => 0) (1000, fun _ => 0) := if_neg (by omega)
  rw [← e0] at k
  generalize cv_bS (cv_P σ (stF σ (g 0) 0 0) (g 0) nF full) (fun f => (σ 3 f).toNatClampNeg) nF = S at b3 k
  rcases b3 with ⟨-, e2, -⟩ | ⟨e1, e2, e3, -⟩
  · exact absurd e2 e
  · rcases k with k | ⟨-, kP, ko⟩
    · omega
    · refine ⟨S.2 f, ko f hf, e3 f hf, ?_⟩
      rw [(h.oi.2.2.2 (by omega)).1]
      exact (mt_in hL ko kP.1 full_RW kP.2).2 f hf
theorem x_whatIs {post : Int32 → Mem → Prop} {f : Nat} (h : RR σ g τ nF) (hf : f < nF) (hp : ∀ ρ : Mem, SE τ ρ → post (σ 22 f) ρ) : q_X8_whatIs (g 0) (g 2) post (nI f) τ := by
  have h5 := h.lv.1
  have hf5 : f < 5 := by omega
  unfold q_X8_whatIs q_X8_whatIs_24
  refine x_settle h.lv (fun ρ hs hr hset => ?_)
  have ec : σ 22 f = cvF nF (row 0 ρ) f := oi_row h hset f hf5
  replace hp := hp ρ hs
  rw [ec] at hp
  unfold cvF at hp
  rw [if_pos hf] at hp
  refine s_X8_count (d := 0) (by decide) hf5 ⟨fun q => ?_, fun q => ?_⟩
  · obtain ⟨i, hi, ei⟩ := s8_ex (hr.2 f)
    rw [ei] at hp q
    rw [on_no i hi q] at hp
    exact hp
  · unfold q_X8_least
    refine s_setOf (d := 0) (by decide) hf5 ?_
    obtain ⟨i, hi, ei⟩ := s8_ex (hr.2 f)
    rw [ei] at q hp ⊢
    obtain ⟨j, hj, ej⟩ := ntz8 i hi q
    rw [ej] at hp ⊢
    rw [on_one j hj] at hp
    exact s_ntz8 hj hp
theorem x_changed {post : Int32 → Mem → Prop} {f : Nat} (h : RR σ g τ nF) (hf : f < 5) (hp : post (fnF σ f (g 2 - 1) 1) τ) : q_X8_changed (g 0) (g 2) post (nI f) τ := by
  have hc := h.ci.2.1
  unfold q_X8_changed
  have key : ∀ (d j : Nat), 1 ≤ j → (j + d = g 2 ∨ (d = 0 ∧ j = 1 ∧ g 2 = 0)) → post (fnF σ f d j) τ → lp_3 (q_X8_changed_2 (g 0) (g 2) post (q_X8_changed_44 (g 0) (g 2) post) (q_X8_changed_52 (g 0) (g 2) post)) (d + 1) (nI f) (nI j) τ := by
    intro d
    induction d with
    | zero =>
      intro j h1 hj hp
      show q_X8_changed_2 _ _ _ _ _ _ _ _ _
      unfold q_X8_changed_2 q_X8_changed_52
      exact ⟨fun _ => hp, fun q => absurd ((nI_leI (by omega) (by omega)).mpr (by omega)) q⟩
    | succ d ih =>
      intro j h1 hj hp
      have hjc : j < g 2 := by omega
      unfold fnF at hp
      rw [h.kp j f hjc hf, h.kp (j - 1) f (by omega) hf] at hp
      show q_X8_changed_2 _ _ _ _ _ _ _ _ _
      unfold q_X8_changed_2 q_X8_changed_44
      rw [nI_clamp (show f < 2 ^ 31 by omega)]
      refine ⟨fun q => absurd ((nI_leI (by omega) (by omega)).mp q) (by omega), fun _ => ⟨j, ⟨hjc, rfl⟩, vin_j hf (by decide), j - 1, ⟨by omega, nI_m1 h1⟩, vin_j hf (by decide), fun q => ?_, fun q => ?_⟩⟩
      · rintro _ rfl
        rw [nI_1]
        rw [if_pos q] at hp
        exact ih (j + 1) (by omega) (by omega) hp
      · rw [if_neg q] at hp
        exact hp
  exact ⟨g 2 - 1 + 1, key (g 2 - 1) 1 (Nat.le_refl _) (by omega) hp⟩
end JB
