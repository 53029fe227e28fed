/-! THE CLASS: to settle; what follows from the laws -/
def goM (pm pa nF nL : Nat) (set : Int32) (σ : Mem) : Mem := mst (mup σ pa (mtF σ set nF nL (σ pa))) pm 2 (mtC σ set nF nL (σ pa))
def bgM (pm pa nF nL : Nat) (set : Int32) (σ : Mem) : Mem := mst (mup σ pa (mtF σ set nF nL (fl_row 5 255 (σ pa)))) pm 2 (mtC σ set nF nL (fl_row 5 255 (σ pa)))
def cyM (pm pa po pb : Nat) (σ : Mem) : Mem := mst (mup σ pa (cp5 (σ pb) (σ pa))) pm 2 (σ po 2)
theorem goM_fr {pm pa nF nL : Nat} {set : Int32} {σ : Mem} {p : Nat} (h1 : p ≠ pm) (h2 : p ≠ pa) : goM pm pa nF nL set σ p = σ p := by
  unfold goM
  rw [mst_ne h1, mup_ne h2]
theorem bgM_fr {pm pa nF nL : Nat} {set : Int32} {σ : Mem} {p : Nat} (h1 : p ≠ pm) (h2 : p ≠ pa) : bgM pm pa nF nL set σ p = σ p := by
  unfold bgM
  rw [mst_ne h1, mup_ne h2]
theorem cyM_fr {pm pa po pb : Nat} {σ : Mem} {p : Nat} (h1 : p ≠ pm) (h2 : p ≠ pa) : cyM pm pa po pb σ p = σ p := by
  unfold cyM
  rw [mst_ne h1, mup_ne h2]
theorem bz_of {c : Int32} (h : c = 0 ∨ c = 1) : bz c := h.elim (fun e => e ▸ bz0) (fun e => e ▸ bz1)
theorem goM_bz {pm pa nF nL : Nat} {set : Int32} {σ : Mem} : bz (goM pm pa nF nL set σ pm 2) := by
  unfold goM
  rw [mst_eq, upd_eq]
  exact bz_of (emC_01 _ _ _ _ (Or.inl rfl))
theorem bgM_bz {pm pa nF nL : Nat} {set : Int32} {σ : Mem} : bz (bgM pm pa nF nL set σ pm 2) := by
  unfold bgM
  rw [mst_eq, upd_eq]
  exact bz_of (emC_01 _ _ _ _ (Or.inl rfl))
theorem cyM_bz {pm pa po pb : Nat} {σ : Mem} (h : bz (σ po 2)) : bz (cyM pm pa po pb σ pm 2) := by
  unfold cyM
  rw [mst_eq, upd_eq]
  exact h
/-- field f tried as i -/
def tryM (nF nL f i : Nat) (σ : Mem) : Mem := goM 14 15 nF nL (σ 11 6) (mst (cyM 14 15 16 17 σ) 15 f ((1 : Int32) <<< (nI i &&& 31)))
/-- numbers from i on, d of them; whether one was taken -/
def tdN (nF nL f : Nat) (nums : Int32) : Nat → Nat → Mem → Bool × Mem
  | 0, _, σ => (false, σ)
  | d + 1, i, σ => if ((nums >>> (nI i &&& 31)) &&& 1) = 0 then tdN nF nL f nums d (i + 1) σ else if tryM nF nL f i σ 14 2 = 0 then (true, cyM 16 17 14 15 (tryM nF nL f i σ)) else tdN nF nL f nums d (i + 1) (tryM nF nL f i σ)
/-- ranks below r -/
def tdR (nF nL f : Nat) : Nat → Mem → Mem
  | 0, σ => σ
  | r + 1, σ => if (tdN nF nL f (dfF σ f (nI r) nL 0 0 &&& σ 17 f) 8 0 σ).1 = true then (tdN nF nL f (dfF σ f (nI r) nL 0 0 &&& σ 17 f) 8 0 σ).2 else tdR nF nL f r (tdN nF nL f (dfF σ f (nI r) nL 0 0 &&& σ 17 f) 8 0 σ).2
def tdF (nF nL f : Nat) (σ : Mem) : Mem := if 1 < bcF (σ 17 f) then tdR nF nL f 10 σ else σ
/-- what settling leaves as it was -/
def seK (p : Nat) : Prop := p < 14 ∨ 17 < p
theorem tryM_fr {nF nL f i p : Nat} {σ : Mem} (hp : seK p ∨ p = 16 ∨ p = 17) : tryM nF nL f i σ p = σ p := by
  have h : p ≠ 14 ∧ p ≠ 15 := by unfold seK at hp; omega
  unfold tryM
  rw [goM_fr h.1 h.2, mst_ne h.2, cyM_fr h.1 h.2]
theorem tdN_fr {nF nL f : Nat} {nums : Int32} {p : Nat} (hp : seK p) : ∀ (d i : Nat) (σ : Mem), (tdN nF nL f nums d i σ).2 p = σ p := by
  intro d
  induction d with
  | zero => intro i σ; rfl
  | succ d ih =>
    intro i σ
    have h : p ≠ 16 ∧ p ≠ 17 := by unfold seK at hp; omega
    unfold tdN
    split
    · exact ih _ _
    · split
      · show cyM 16 17 14 15 _ p = _
        rw [cyM_fr h.1 h.2, tryM_fr (Or.inl hp)]
      · rw [ih, tryM_fr (Or.inl hp)]
theorem tdR_fr {nF nL f : Nat} {p : Nat} (hp : seK p) : ∀ (r : Nat) (σ : Mem), tdR nF nL f r σ p = σ p := by
  intro r
  induction r with
  | zero => intro σ; rfl
  | succ r ih =>
    intro σ
    unfold tdR
    split
    · exact tdN_fr hp _ _ _
    · rw [ih, tdN_fr hp]
theorem tdF_fr {nF nL f : Nat} {p : Nat} (hp : seK p) (σ : Mem) : tdF nF nL f σ p = σ p := by
  unfold tdF
  split
  · exact tdR_fr hp _ _
  · rfl
theorem tryM_bz {nF nL f i : Nat} {σ : Mem} (h : bz (σ 16 2)) : bz (tryM nF nL f i σ 14 2) ∧ bz (tryM nF nL f i σ 16 2) := by
  refine ⟨by unfold tryM; exact goM_bz, ?_⟩
  rw [tryM_fr (Or.inr (Or.inl rfl))]
  exact h
theorem tdN_bz {nF nL f : Nat} {nums : Int32} : ∀ (d i : Nat) (σ : Mem), bz (σ 14 2) → bz (σ 16 2) → bz ((tdN nF nL f nums d i σ).2 14 2) ∧ bz ((tdN nF nL f nums d i σ).2 16 2) := by
  intro d
  induction d with
  | zero => intro i σ h1 h2; exact ⟨h1, h2⟩
  | succ d ih =>
    intro i σ h1 h2
    obtain ⟨t1, t2⟩ := tryM_bz (nF := nF) (nL := nL) (f := f) (i := i) h2
    unfold tdN
    split
    · exact ih _ _ h1 h2
    · split
      · refine ⟨?_, cyM_bz t1⟩
        show bz (cyM 16 17 14 15 _ 14 2)
        rw [cyM_fr (by decide) (by decide)]
        exact t1
      · exact ih _ _ t1 t2
theorem tdR_bz {nF nL f : Nat} : ∀ (r : Nat) (σ : Mem), bz (σ 14 2) → bz (σ 16 2) → bz (tdR nF nL f r σ 14 2) ∧ bz (tdR nF nL f r σ 16 2) := by
  intro r
  induction r with
  | zero => intro σ h1 h2; exact ⟨h1, h2⟩
  | succ r ih =>
    intro σ h1 h2
    obtain ⟨t1, t2⟩ := tdN_bz (nF := nF) (nL := nL) (f := f) (nums := dfF σ f (nI r) nL 0 0 &&& σ 17 f) 8 0 σ h1 h2
    unfold tdR
    split
    · exact ⟨t1, t2⟩
    · exact ih _ t1 t2
theorem tdF_bz {nF nL f : Nat} (σ : Mem) (h1 : bz (σ 14 2)) (h2 : bz (σ 16 2)) : bz (tdF nF nL f σ 14 2) ∧ bz (tdF nF nL f σ 16 2) := by
  unfold tdF
  split
  · exact tdR_bz 10 σ h1 h2
  · exact ⟨h1, h2⟩
theorem s_takeDefault {post : Mem → Prop} {σ : Mem} {nF nL f : Nat} (h : LV σ nF nL) (hf : f < nF) (hb4 : bz (σ 14 2)) (hb6 : bz (σ 16 2)) (hp : post (tdF nF nL f σ)) : q_X4_takeDefault post (nI f) σ := by
  have h5 := h.1
  have e : (nI f).toNatClampNeg = f := nI_clamp (by omega)
  have hv : vp_in (nI f) 5 := vin_j (by omega) (by decide)
  unfold q_X4_takeDefault
  rw [e]
  refine ⟨hv, s_bitCount ⟨fun q => ?_, fun q => ?_⟩⟩
  · unfold tdF at hp
    rw [if_pos q] at hp
    have key : ∀ (r : Nat) (τ : Mem), r ≤ 10 → LV τ nF nL → bz (τ 14 2) → bz (τ 16 2) → post (tdR nF nL f r τ) → lp_3 (q_X4_takeDefault_20 post (q_X4_takeDefault_108 post) (q_X4_takeDefault_132 post)) (r + 1) (nI f) (nI r - 1) τ := by
      intro r
      induction r with
      | zero =>
        intro τ _ hL _ _ hp
        show q_X4_takeDefault_20 _ _ _ _ _ _ _
        unfold q_X4_takeDefault_20 q_X4_takeDefault_132
        exact ⟨fun _ => hp, fun z => absurd (by decide) z⟩
      | succ r ih =>
        intro τ hr hL b4 b6 hp
        show q_X4_takeDefault_20 _ _ _ _ _ _ _
        have er : nI (r + 1) - 1 = nI r := by
          rw [← nI_1 r]
          exact Int32.add_sub_cancel _ _
        unfold q_X4_takeDefault_20
        rw [er, e]
        refine ⟨fun z => absurd z (nI_pos0 (by omega)), fun _ => s_defaultsOf hL ⟨hv, ?_⟩⟩
        rintro _ rfl
        unfold tdR at hp
        generalize dfF τ f (nI r) nL 0 0 &&& τ 17 f = nums at hp ⊢
        have inner : ∀ (d i : Nat) (ρ : Mem), i + d = 8 → LV ρ nF nL → bz (ρ 14 2) → bz (ρ 16 2) → ((tdN nF nL f nums d i ρ).1 = true → post (tdN nF nL f nums d i ρ).2) → ((tdN nF nL f nums d i ρ).1 = false → q_X4_takeDefault_126 post (q_X4_takeDefault_108 post) (q_X4_takeDefault_132 post) (lp_3 (q_X4_takeDefault_20 post (q_X4_takeDefault_108 post) (q_X4_takeDefault_132 post)) (r + 1)) (nI f) (nI r) (tdN nF nL f nums d i ρ).2) →
            lp_5 (q_X4_takeDefault_47 post (q_X4_takeDefault_108 post) (q_X4_takeDefault_126 post (q_X4_takeDefault_108 post) (q_X4_takeDefault_132 post) (lp_3 (q_X4_takeDefault_20 post (q_X4_takeDefault_108 post) (q_X4_takeDefault_132 post)) (r + 1)))) (d + 1) (nI f) (nI r) nums (nI i) ρ := by
          intro d
          induction d with
          | zero =>
            intro i ρ hi _ _ _ _ h2
            show q_X4_takeDefault_47 _ _ _ _ _ _ _ _ _
            unfold q_X4_takeDefault_47
            rw [show i = 8 by omega]
            exact ⟨fun _ => h2 rfl, fun z => absurd (by decide) z⟩
          | succ d ih2 =>
            intro i ρ hi hL2 c4 c6 h1 h2
            show q_X4_takeDefault_47 _ _ _ _ _ _ _ _ _
            unfold q_X4_takeDefault_47 q_X4_takeDefault_120
            unfold tdN at h1 h2
            refine ⟨fun z => absurd ((nI_leI (a := 8) (b := i) (by decide) (by omega)).mp z) (by omega), fun _ => s_contains (fun r9 hr9 => ⟨fun z => ?_, fun z => ?_⟩)⟩
            · rintro _ rfl
              rw [nI_1 i]
              have hb : ((nums >>> (nI i &&& 31)) &&& 1) = 0 := Classical.byContradiction (hr9.f z)
              rw [if_pos hb] at h1 h2
              exact ih2 (i + 1) ρ (by omega) hL2 c4 c6 h1 h2
            · rw [if_neg (hr9.t z)] at h1 h2
              refine s_copy (by decide) c6 ⟨hv, ?_⟩
              rw [e]
              rintro _ rfl
              have hL3 : LV (mst (mst (mup ρ 15 (cp5 (ρ 17) (ρ 15))) 14 2 (ρ 16 2)) 15 f ((1 : Int32) <<< (nI i &&& 31))) nF nL := hL2.sm (fun p hp9 => by rw [mst_ne (by omega), mst_ne (by omega), mup_ne (by omega)])
              refine s_goOn (by decide) (by decide) (by decide) hL3 ?_
              rw [mst_ne (show (11 : Nat) ≠ 15 by decide), mst_ne (show (11 : Nat) ≠ 14 by decide), mup_ne (show (11 : Nat) ≠ 15 by decide)]
              change (¬ tryM nF nL f i ρ 14 2 = 0 → _) ∧ (tryM nF nL f i ρ 14 2 = 0 → q_X4_takeDefault_108 post (tryM nF nL f i ρ))
              obtain ⟨t1, t2⟩ := tryM_bz (nF := nF) (nL := nL) (f := f) (i := i) c6
              refine ⟨fun q2 => ?_, fun q2 => ?_⟩
              · rintro _ rfl
                rw [nI_1 i]
                rw [if_neg q2] at h1 h2
                exact ih2 (i + 1) _ (by omega) (hL2.sm (fun p hp9 => tryM_fr (Or.inl (Or.inl (by omega))))) t1 t2 h1 h2
              · rw [if_pos q2] at h1
                unfold q_X4_takeDefault_108
                exact s_copy (by decide) t1 (h1 rfl)
        obtain ⟨n4, n6⟩ := tdN_bz (nF := nF) (nL := nL) (f := f) (nums := nums) 8 0 τ b4 b6
        refine ⟨9, inner 8 0 τ rfl hL b4 b6 (fun z => by rwa [if_pos z] at hp) (fun z => ?_)⟩
        rw [if_neg (by rw [z]; decide)] at hp
        unfold q_X4_takeDefault_126
        rintro _ rfl
        have := ih _ (by omega) (hL.sm (fun p hp9 => tdN_fr (Or.inl (by omega)) 8 0 τ)) n4 n6 hp
        rwa [show nI r + -1 = nI r - 1 from (Int32.sub_eq_add_neg _ _).symm]
    refine ⟨11, ?_⟩
    have := key 10 σ (Nat.le_refl _) h hb4 hb6 hp
    rwa [show nI 10 - 1 = (9 : Int32) by decide] at this
  · unfold tdF at hp
    rwa [if_neg q] at hp
/-- fields settled, from f on, d of them -/
def seF (nF nL : Nat) : Nat → Nat → Mem → Mem
  | 0, _, σ => σ
  | d + 1, f, σ => seF nF nL d (f + 1) (tdF nF nL f σ)
/-- what they are -/
def isF : Nat → Nat → Mem → Mem
  | 0, _, σ => σ
  | d + 1, f, σ => isF d (f + 1) (mst σ 22 f (onF (σ 17 f) 8))
theorem seF_fr {nF nL : Nat} {p : Nat} (hp : seK p) : ∀ (d f : Nat) (σ : Mem), seF nF nL d f σ p = σ p := by
  intro d
  induction d with
  | zero => intro f σ; rfl
  | succ d ih => intro f σ; unfold seF; rw [ih, tdF_fr hp]
theorem seF_bz {nF nL : Nat} : ∀ (d f : Nat) (σ : Mem), bz (σ 14 2) → bz (σ 16 2) → bz (seF nF nL d f σ 14 2) ∧ bz (seF nF nL d f σ 16 2) := by
  intro d
  induction d with
  | zero => intro f σ h1 h2; exact ⟨h1, h2⟩
  | succ d ih => intro f σ h1 h2; unfold seF; exact ih _ _ (tdF_bz σ h1 h2).1 (tdF_bz σ h1 h2).2
theorem isF_fr {p : Nat} (hp : p ≠ 22) : ∀ (d f : Nat) (σ : Mem), isF d f σ p = σ p := by
  intro d
  induction d with
  | zero => intro f σ; rfl
  | succ d ih => intro f σ; unfold isF; rw [ih, mst_ne hp]
/-- what a field is lies in -1 to 7 -/
def isR (x : Int32) : Prop := x = -1 ∨ ∃ j : Nat, j < 8 ∧ x = nI j
theorem isF_r : ∀ (d f : Nat) (σ : Mem), (∀ i : Nat, isR (σ 22 i)) → ∀ i : Nat, isR (isF d f σ 22 i) := by
  intro d
  induction d with
  | zero => intro f σ h; exact h
  | succ d ih =>
    intro f σ h
    unfold isF
    refine ih _ _ (fun i => ?_)
    rw [mst_eq]
    by_cases hi : i = f
    · subst hi; rw [upd_eq]; exact onF_r _ 8 (Nat.le_refl _)
    · rw [upd_ne hi]; exact h i
/-- all that follows from the laws, worked out anew -/
def rnw0 (nF nL : Nat) (σ : Mem) : Mem := bgM 12 13 nF nL (stF σ nL 0 0) (mst σ 11 6 (stF σ nL 0 0))
def rnw1 (nF nL : Nat) (σ : Mem) : Mem := cyM 16 17 12 13 (fbF nF nL (rnw0 nF nL σ) (stF σ nL 0 0))
def rnw (nF nL : Nat) (σ : Mem) : Mem := isF nF 0 (seF nF nL nF 0 (rnw1 nF nL σ))
theorem rnw0_fr {nF nL p : Nat} {σ : Mem} (hp : p < 11 ∨ 13 < p) : rnw0 nF nL σ p = σ p := by
  unfold rnw0
  rw [bgM_fr (by omega) (by omega), mst_ne (by omega)]
theorem rnw1_fr {nF nL p : Nat} {σ : Mem} (hp : p < 11 ∨ 21 < p ∨ p = 14 ∨ p = 15) : rnw1 nF nL σ p = σ p := by
  unfold rnw1
  rw [cyM_fr (by omega) (by omega), fbF_fr ⟨by omega, by omega, by omega⟩ (by omega), rnw0_fr (by omega)]
theorem rnw_fr {nF nL p : Nat} {σ : Mem} (hp : p < 11 ∨ 22 < p) : rnw nF nL σ p = σ p := by
  unfold rnw
  rw [isF_fr (by omega), seF_fr (by unfold seK; omega), rnw1_fr (by omega)]
theorem s_renew {post : Mem → Prop} {σ : Mem} {nF nL : Nat} (h : LV σ nF nL) (hb4 : bz (σ 14 2)) (hp : post (rnw nF nL σ)) : q_X4_renew post σ := by
  have h5 := h.1
  have h12 : bz (fbF nF nL (rnw0 nF nL σ) (stF σ nL 0 0) 12 2) := by
    rw [fbF_fr ⟨by decide, by decide, by decide⟩ (by decide)]
    unfold rnw0
    exact bgM_bz
  unfold q_X4_renew
  refine s_strictLines h ?_
  rintro _ rfl
  have hL0 : LV (mst σ 11 6 (stF σ nL 0 0)) nF nL := h.sm (sm_mst (by decide))
  refine s_begin (by decide) (by decide) (by decide) hL0 ?_
  have e6 : mst σ 11 6 (stF σ nL 0 0) 11 6 = stF σ nL 0 0 := by rw [mst_eq, upd_eq]
  rw [e6]
  change q_X0_findBest _ (rnw0 nF nL σ 11 6) (rnw0 nF nL σ)
  have e7 : rnw0 nF nL σ 11 6 = stF σ nL 0 0 := by
    unfold rnw0
    rw [bgM_fr (by decide) (by decide)]
    exact e6
  rw [e7]
  have hL1 : LV (rnw0 nF nL σ) nF nL := h.sm (fun p hp9 => rnw0_fr (by omega))
  refine s_findBest hL1 (s_copy (by decide) h12 ?_)
  change ∃ n9 : Nat, lp_2 (q_X4_renew_50 post (q_X4_renew_72 post)) n9 0 (rnw1 nF nL σ)
  have b4 : bz (rnw1 nF nL σ 14 2) := by rw [rnw1_fr (by omega)]; exact hb4
  have b6 : bz (rnw1 nF nL σ 16 2) := by unfold rnw1; exact cyM_bz h12
  have hL2 : LV (rnw1 nF nL σ) nF nL := h.sm (fun p hp9 => rnw1_fr (by omega))
  have k2 : ∀ (d f : Nat) (τ : Mem), f + d = nF → LV τ nF nL → post (isF d f τ) → lp_2 (q_X4_renew_74 post (q_X4_renew_109 post)) (d + 1) (nI f) τ := by
    intro d
    induction d with
    | zero =>
      intro f τ hf hL hp
      show q_X4_renew_74 _ _ _ _ _
      unfold q_X4_renew_74 q_X4_renew_109
      rw [hL.nf]
      exact ⟨fun _ => hp, fun q => absurd (nI_le (by omega) (by omega)) q⟩
    | succ d ih =>
      intro f τ hf hL hp
      show q_X4_renew_74 _ _ _ _ _
      have e : (nI f).toNatClampNeg = f := nI_clamp (by omega)
      unfold q_X4_renew_74
      rw [hL.nf, e]
      refine ⟨fun q => absurd ((nI_leI (by omega) (by omega)).mp q) (by omega), fun _ => ⟨vin_j (by omega) (by decide), s_onlyNumber ⟨vin_j (by omega) (by decide), ?_⟩⟩⟩
      rintro _ rfl _ rfl
      rw [nI_1 f]
      exact ih (f + 1) _ (by omega) (hL.sm (sm_mst (by decide))) hp
  have k1 : ∀ (d f : Nat) (τ : Mem), f + d = nF → LV τ nF nL → bz (τ 14 2) → bz (τ 16 2) → post (isF nF 0 (seF nF nL d f τ)) → lp_2 (q_X4_renew_50 post (q_X4_renew_72 post)) (d + 1) (nI f) τ := by
    intro d
    induction d with
    | zero =>
      intro f τ hf hL _ _ hp
      show q_X4_renew_50 _ _ _ _ _
      unfold q_X4_renew_50 q_X4_renew_72
      rw [hL.nf]
      exact ⟨fun _ => ⟨nF + 1, k2 nF 0 τ (Nat.zero_add _) hL hp⟩, fun q => absurd (nI_le (by omega) (by omega)) q⟩
    | succ d ih =>
      intro f τ hf hL c4 c6 hp
      show q_X4_renew_50 _ _ _ _ _
      unfold q_X4_renew_50
      rw [hL.nf]
      refine ⟨fun q => absurd ((nI_leI (by omega) (by omega)).mp q) (by omega), fun _ => s_takeDefault hL (by omega) c4 c6 ?_⟩
      rintro _ rfl
      rw [nI_1 f]
      obtain ⟨d4, d6⟩ := tdF_bz (nF := nF) (nL := nL) (f := f) τ c4 c6
      exact ih (f + 1) _ (by omega) (hL.sm (fun p hp9 => tdF_fr (Or.inl (by omega)) τ)) d4 d6 hp
  exact ⟨nF + 1, k1 nF 0 _ (Nat.zero_add _) hL2 b4 b6 hp⟩
