/-! isDone(m, x) -/
section TD
variable {σ : Mem} {nF nL nC : Nat} {post : Int32 → Mem → Prop}
/-- what one call may do -/
def Nx30 (σ : Mem) (nF nL nC : Nat) (σ' : Mem) (nL' nC' : Nat) : Prop := V σ' nF nL' nC' ∧ nL ≤ nL' ∧ nL' ≤ nL + 1 ∧ nC ≤ nC' ∧ nC' ≤ nC + 1 ∧ (∀ c f : Nat, c < nC → f < 5 → σ' (27 + c) f = σ (27 + c) f) ∧ (nC < nC' → ∀ f : Nat, f < 5 → σ' (27 + nC) f = σ' 22 f)
theorem Nx30.of {σ' : Mem} {nL' : Nat} (h : V σ' nF nL' nC) (a : nL ≤ nL') (b : nL' ≤ nL + 1) (e : ∀ c : Nat, c < nC → σ' (27 + c) = σ (27 + c)) : Nx30 σ nF nL nC σ' nL' nC :=
  ⟨h, a, b, Nat.le_refl _, by omega, fun c f hc _ => by rw [e c hc], fun z => absurd z (Nat.lt_irrefl _)⟩
theorem t_isDone {x : Int32} (h : V σ nF nL nC) (h2 : 2 ≤ nF) (h1 : 1 ≤ nL) (hp0 : post 0 σ) (hp : ∀ (σ' : Mem) (nL' nC' : Nat), Nx30 σ nF nL nC σ' nL' nC' → post 1 σ') : q_L_isDone post x σ := by
  have h5 := h.ci.lv.1
  have h30 := h.ci.lv.2.1
  have h12 := h.ci.2.1
  have fin : ∀ (σ' : Mem) (nL' : Nat), V σ' nF nL' nC → nL ≤ nL' → nL' ≤ nL + 1 → (∀ c : Nat, c < nC → σ' (27 + c) = σ (27 + c)) → q_L_isDone_258 post σ' := fun σ' nL' a b c d => by
    unfold q_L_isDone_258
    exact hp _ _ _ (Nx30.of a b c d)
  have thr : (xIS = eIS ∧ q_L_isDone_262 post σ) := ⟨rfl, by unfold q_L_isDone_262; exact hp0⟩
  have wd : ∀ (j : Nat) (y : Int32), j < nL → q_X5_withdraw (fun (_ : Int32) (σ1 : Mem) => q_L_isDone_258 post σ1) (fun (E : String) (σ1 : Mem) => (E = eIS ∧ q_L_isDone_262 post σ1)) (nI j) y σ := fun j y hj => by
    refine s_X5_withdraw h.ci (fun z => (z (vin_j hj (by omega))).elim) (fun i hi _ r _ => fin _ _ (h.mk10 hi) (Nat.le_refl _) (by omega) (fun c hc => ?_))
    rw [rnw_fr (Or.inr (by omega)), mst_ne (by omega)]
  have ap : ∀ (j : Nat) (y : Int32), j < nL → q_X5_approve (fun (_ : Int32) (σ1 : Mem) => q_L_isDone_258 post σ1) (fun (E : String) (σ1 : Mem) => (E = eIS ∧ q_L_isDone_262 post σ1)) (nI j) y σ := fun j y hj => by
    refine s_X5_approve h.ci (fun z => (z (vin_j hj (by omega))).elim) (fun i hi _ r _ => fin _ _ (h.mk9 hi) (Nat.le_refl _) (by omega) (fun c hc => ?_))
    rw [rnw_fr (Or.inr (by omega)), mst_ne (by omega)]
  have cm : q_X5_commit (fun (_ : Int32) (σ1 : Mem) => q_L_isDone_258 post σ1) (fun (E : String) (σ1 : Mem) => (E = eIS ∧ q_L_isDone_262 post σ1)) σ := by
    refine s_X5_commit h.ci (fun _ => thr) (fun _ hlt => ?_)
    unfold q_L_isDone_258
    refine hp _ nL (nC + 1) ⟨h.commit hlt, Nat.le_refl _, by omega, by omega, Nat.le_refl _, fun c f hc hf => ?_, fun _ f hf => ?_⟩
    · unfold kpM
      rw [mst_ne (by omega), mup_ne (by omega)]
    · unfold kpM
      rw [mst_ne (by omega), mup_eq, mst_ne (by omega), mup_ne (by omega)]
      exact if_pos hf
  unfold q_L_isDone q_L_isDone_118 q_L_isDone_143
  refine v_house h 1 (by decide) (s_below nL ?_ (by omega) (by omega) (fun j hj => v_house h 0 (by decide) (s_below nF rfl (by omega) (by omega) (fun f hf => s_below 6 rfl (by decide) (by decide) (fun m hm => s_below 11 rfl (by decide) (by decide) (fun q _ => ?_))))))
  · show (if (1 : Int32) < nI nL then nI nL else 1) = nI nL
    by_cases q : nL = 1
    · rw [q]; rfl
    · exact if_pos (nI_lt (a := 1) (by omega) (by omega))
  have hvf : vp_in (nI f) nF := vin_j hf (by omega)
  have hvm : vp_in (nI m) 6 := vin_j hm (by decide)
  refine ⟨fun _ => wd j 0 hj, fun _ => ?_, fun _ => ?_, fun _ => ?_, fun _ => ?_, fun _ => cm, fun _ => cm, fun _ => ?_, fun _ => ?_, fun _ => ?_, fun _ => ?_⟩
  · exact s_below 2 rfl (by decide) (by decide) (fun r _ => ⟨fun _ => ap j 0 hj, fun _ => ap j 1 hj⟩)
  · exact s_below 3 rfl (by decide) (by decide) (fun r _ => ⟨fun _ => wd j 0 hj, fun _ => wd j 1 hj⟩)
  · exact s_below 3 rfl (by decide) (by decide) (fun r _ => ⟨fun _ => wd j 0 hj, fun _ => wd j 1 hj⟩)
  · refine s_below 10 rfl (by decide) (by decide) (fun r hr => ?_)
    have hr0 : ¬ nI r < 0 := nI_pos (by omega)
    have hr9 : nI r ≤ 9 := nI_le (b := 9) (by omega) (by decide)
    refine s_X5_weight h.ci (fun z => (z hvf).elim) (fun _ z => (z ⟨hr0, hr9⟩).elim) (fun i hi _ hy => fin _ _ (h.wt (by omega) (lo10 hy.1 hy.2)) (Nat.le_refl _) (by omega) (fun c hc => ?_))
    rw [rnw_fr (Or.inr (by omega)), mst_ne (by omega)]
  · refine v_house h 5 (by decide) ⟨fun _ => fin _ _ h (Nat.le_refl _) (by omega) (fun _ _ => rfl), fun z => ?_⟩
    have hpos : 0 < nC := by
      rcases Nat.eq_zero_or_pos nC with q0 | q0
      · exact absurd (show hoA σ nF nL nC 5 ≤ 0 from by rw [q0]; exact (by decide : (0 : Int32) ≤ 0)) z
      · exact q0
    refine v_house h 5 (by decide) (s_below nC rfl hpos (by omega) (fun c hc => s_below 64 rfl (by decide) (by decide) (fun y hy => ?_)))
    have hy0 : ¬ nI y < 0 := nI_pos (by omega)
    have hy9 : nI y ≤ 63 := nI_le (b := 63) (by omega) (by decide)
    refine s_X5_wave h.ci (fun z => (z (vin_j hc (by omega))).elim) (fun _ z => (z ⟨hy0, hy9⟩).elim) (fun c' hc' _ _ => fin _ _ (V.wave 6 0 0 σ (by omega) hc' h) (Nat.le_refl _) (by omega) (fun c9 h9 => wvF_fr (Or.inr ⟨by omega, by omega⟩) _ _ _ _))
  · refine s_below 8 rfl (by decide) (by decide) (fun r hr => ?_)
    refine s_X5_patch h.ci (fun z => (z ⟨hvm, hvf⟩).elim) (fun _ z => (z (vin_j hr (by decide))).elim) (fun m' f' hm' hf' _ _ hy => fin _ _ (h.patch hm' hf' hy) (Nat.le_refl _) (by omega) (fun c hc => ?_))
    rw [mup_ne (by omega)]
  · refine s_X5_absorb h.ci (fun z => (z ⟨hvm, hvf⟩).elim) (fun _ _ _ _ _ _ _ => thr) (fun m' f' hm' hf' _ _ _ d2 d3 => ?_)
    obtain ⟨i, hi, ei⟩ := vin_ex (by decide) d2
    refine fin _ _ (h.tell d3 ⟨vin_j hf' (by omega), vin_6 0 (by decide), fun k => by rcases k with k | k <;> exact absurd k (by decide), fun _ => by rw [ei]; exact one8 i hi, fun k => by rcases k with k | k | k <;> exact absurd k (by decide), fun k => absurd k (by decide)⟩) (by omega) (Nat.le_refl _) (fun c hc => ?_)
    rw [rnw_fr (Or.inr (by omega)), lnN_hi (Or.inl (by omega))]
  · refine t_tell h h2 (fun σ' hlt hV he => ⟨bz1, ?_⟩) (fun _ => ⟨bz1, ?_⟩)
    · exact hp _ _ _ (Nx30.of hV (by omega) (Nat.le_refl _) (fun c _ => he _ (by omega)))
    · exact hp _ _ _ (Nx30.of h (Nat.le_refl _) (by omega) (fun _ _ => rfl))
end TD
/-! house(s) -/
section TH
theorem t_house {L : Nat} {xs : Nat → Int32} {post : Mem → Prop} (hp : ∀ (σ : Mem) (nF nL : Nat), V σ nF nL 0 → 2 ≤ nF → 1 ≤ nL → post σ) : q_L_house L xs post sI := by
  unfold q_L_house
  refine ⟨by decide, fun c0 _ => s_below 4 rfl (by decide) (by decide) (fun r hr => ?_)⟩
  intro v ev
  have ev9 : v = nI (2 + r) := by rw [ev]; exact nI_add 2 r
  subst ev9
  -- the lines
  have lines : ∀ (σ : Mem), V σ (2 + r) 0 0 → q_L_house_53 L xs post σ := fun σ hV => by
    unfold q_L_house_53
    refine ⟨by decide, fun c1 _ => s_below 9 rfl (by decide) (by decide) (fun q hq => ?_)⟩
    intro v ev
    have ev9 : v = nI (4 + q) := by rw [ev]; exact nI_add 4 q
    subst ev9
    have key : ∀ (d j : Nat) (σ : Mem), j + d = 4 + q → V σ (2 + r) j 0 → lp_3 (q_L_house_69 L xs post (q_L_house_94 L xs post)) (d + 1) (nI (4 + q)) (nI j) σ := by
      intro d
      induction d with
      | zero =>
        intro j σ hj hV
        show q_L_house_69 _ _ _ _ _ _ _ _
        unfold q_L_house_69 q_L_house_94
        exact ⟨fun _ => hp _ _ _ hV (by omega) (by omega), fun z => absurd (nI_le (by omega) (by omega)) z⟩
      | succ d ih =>
        intro j σ hj hV
        show q_L_house_69 _ _ _ _ _ _ _ _
        unfold q_L_house_69
        refine ⟨fun z => absurd z (nI_ge (by omega) (by omega)), fun _ => ⟨?_, fun c2 _ => t_tell hV (by omega) (fun σ' _ hV' _ => ?_) (fun e => absurd e (by omega))⟩⟩
        · rw [show (2 : Int32) + nI j = nI (2 + j) from nI_add 2 j]
          exact nI_pos (by omega)
        · intro v ev
          rw [ev, nI_1]
          exact ih (j + 1) σ' (by omega) hV'
    exact ⟨4 + q + 1, by omega, key (4 + q) 0 σ (by omega) hV⟩
  have key : ∀ (d j : Nat) (σ : Mem), j + d = 2 + r → V σ j 0 0 → lp_3 (q_L_house_22 L xs post (q_L_house_53 L xs post)) (d + 1) (nI (2 + r)) (nI j) σ := by
    intro d
    induction d with
    | zero =>
      intro j σ hj hV
      show q_L_house_22 _ _ _ _ _ _ _ _
      unfold q_L_house_22
      have e : j = 2 + r := by omega
      subst e
      exact ⟨fun _ => lines σ hV, fun z => absurd (nI_le (by omega) (by omega)) z⟩
    | succ d ih =>
      intro j σ hj hV
      show q_L_house_22 _ _ _ _ _ _ _ _
      unfold q_L_house_22
      refine ⟨fun z => absurd z (nI_ge (by omega) (by omega)), fun _ => ⟨by decide, fun c2 _ => s_below 4 rfl (by decide) (by decide) (fun t ht => ?_)⟩⟩
      refine s_X5_field hV.ci (fun z => (z (vin_j ht (by decide))).elim) (fun _ e => absurd e (by omega)) (fun hx hlt => ?_)
      intro v ev
      rw [ev, nI_1]
      exact ih (j + 1) _ (by omega) (hV.field hlt hx)
  exact ⟨2 + r + 1, key (2 + r) 0 sI (by omega) V.start⟩
end TH
