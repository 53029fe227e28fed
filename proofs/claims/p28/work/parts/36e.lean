/-! SIDE BY SIDE: all is sound -/
section JS
variable {am g : Nat → Nat} {a1 a2 a3 a4 : Int32} {σ τ : Mem} {nF : Nat} {n : Int64} {v : Value}
theorem rs_sound (h : RR σ g τ nF) (hc : ¬ σ 12 2 = 0) : ¬ mtC (tm (g 0) τ) (rsF nF (g 0) (-1) σ).1 nF (g 0) full = 0 := by
  have h0 : 0 < nF := Nat.pos_of_ne_zero (fun z => hc (by rw [h.oi.2.1, z]; rfl))
  unfold rsF
  rw [if_neg (fun z => hc z.2), if_neg hc]
  refine rs_keeps h (g 0) 0 (σ 11 6) σ (Nat.zero_add _) (fun _ _ _ => rfl) ?_
  rw [(h.oi.2.2.2 h0).2.1, ag_st h.ag h.ci.lv (g 0) 0 0 (Nat.zero_add _)]
  have e : aC (tm (g 0) τ) nF (g 0) = σ 12 2 := by rw [h.oi.2.1, (ag_a h.ag h.ci.lv).2]
  show ¬ aC (tm (g 0) τ) nF (g 0) = 0
  rw [e]
  exact hc
theorem s_isSound {post : Int32 → Mem → Prop} (h : RR σ g τ nF) (hp : ∀ χ : Mem, AE σ χ → post 1 χ) : q_X5_isSound post σ := by
  have hI := h.ci
  have hL := hI.lv
  have h5 := hL.1
  have h30 := hL.2.1
  have hb : bz (σ 14 2) := hI.2.2.2.2.1
  have e170 : q_X5_isSound_170 post σ := by
    unfold q_X5_isSound_170
    refine ⟨fun hc => s_reasonOf hL ?_, fun _ => hp σ (AE.rf hb)⟩
    have ha := rsF_ae (nF := nF) (nL := g 0) (x := -1) hb
    refine s_begin (by decide) (by decide) (by decide) (ha.lv hL) ?_
    have t := (tr_bg (set := (rsF nF (g 0) (-1) σ).1) (f := 0) h (fun p a b => ha.1 p a b) (by decide)).2.1
    have e1 : bgM 14 15 nF (g 0) (rsF nF (g 0) (-1) σ).1 (rsF nF (g 0) (-1) σ).2 14 2 = 1 := by
      rw [t]
      exact (emC_01 _ nF 0 0 (Or.inl rfl)).resolve_left (rs_sound h hc)
    show bz (bgM 14 15 nF (g 0) (rsF nF (g 0) (-1) σ).1 (rsF nF (g 0) (-1) σ).2 14 2) ∧ post (bgM 14 15 nF (g 0) (rsF nF (g 0) (-1) σ).1 (rsF nF (g 0) (-1) σ).2 14 2) (bgM 14 15 nF (g 0) (rsF nF (g 0) (-1) σ).1 (rsF nF (g 0) (-1) σ).2)
    rw [e1]
    exact ⟨bz1, hp _ (ha.trans bgM_ae)⟩
  have e130 : q_X5_isSound_130 post σ := by
    unfold q_X5_isSound_130
    have key : ∀ (d m : Nat), m + d = 6 → lp_2 (q_X5_isSound_132 post (q_X5_isSound_162 post) (q_X5_isSound_170 post)) (d + 1) (nI m) σ := by
      intro d
      induction d with
      | zero =>
        intro m hm
        show q_X5_isSound_132 _ _ _ _ _ _
        unfold q_X5_isSound_132
        rw [show m = 6 by omega]
        exact ⟨fun _ => e170, fun z => absurd (by decide) z⟩
      | succ d ih =>
        intro m hm
        show q_X5_isSound_132 _ _ _ _ _ _
        unfold q_X5_isSound_132 q_X5_isSound_164
        rw [nI_clamp (show m < 2 ^ 31 by omega)]
        refine ⟨fun z => absurd ((nI_leI (a := 6) (b := m) (by decide) (by omega)).mp z) (by omega), fun _ => ⟨vin_j (by omega) (by decide), fun _ => ?_, fun e => s_drifting hI.2.1 hI.nc (by omega) ⟨fun _ => ?_, fun y => absurd (no_drift h (by omega) e) y⟩⟩⟩
        · rintro _ rfl
          rw [nI_1]
          exact ih (m + 1) (by omega)
        · rintro _ rfl
          rw [nI_1]
          exact ih (m + 1) (by omega)
    exact ⟨7, key 6 0 rfl⟩
  have e86 : q_X5_isSound_86 post σ := by
    unfold q_X5_isSound_86
    have key : ∀ (d j : Nat), j + d = g 0 → lp_2 (q_X5_isSound_88 post (q_X5_isSound_122 post) (q_X5_isSound_130 post)) (d + 1) (nI j) σ := by
      intro d
      induction d with
      | zero =>
        intro j hj
        show q_X5_isSound_88 _ _ _ _ _ _
        unfold q_X5_isSound_88
        rw [hL.nl]
        exact ⟨fun _ => e130, fun q => absurd (nI_le (by omega) (by omega)) q⟩
      | succ d ih =>
        intro j hj
        show q_X5_isSound_88 _ _ _ _ _ _
        unfold q_X5_isSound_88 q_X5_isSound_124
        rw [hL.nl, nI_clamp (show j < 2 ^ 31 by omega)]
        refine ⟨fun q => absurd ((nI_leI (by omega) (by omega)).mp q) (by omega), fun _ => ⟨vin_j (by omega) (by decide), fun _ => ?_, fun e => s_counts (by omega) (hL.ab (by omega)) (fun r hr => ⟨fun _ => ?_, fun y => absurd (hr.t y).1 e⟩)⟩⟩
        · rintro _ rfl
          rw [nI_1]
          exact ih (j + 1) (by omega)
        · rintro _ rfl
          rw [nI_1]
          exact ih (j + 1) (by omega)
    exact ⟨g 0 + 1, key (g 0) 0 (Nat.zero_add _)⟩
  unfold q_X5_isSound
  have key : ∀ (d f : Nat), f + d = nF → lp_2 (q_X5_isSound_2 post (q_X5_isSound_78 post) (q_X5_isSound_86 post)) (d + 1) (nI f) σ := by
    intro d
    induction d with
    | zero =>
      intro f hf
      show q_X5_isSound_2 _ _ _ _ _ _
      unfold q_X5_isSound_2
      rw [hL.nf]
      exact ⟨fun _ => e86, fun q => absurd (nI_le (by omega) (by omega)) q⟩
    | succ d ih =>
      intro f hf
      show q_X5_isSound_2 _ _ _ _ _ _
      have hfn : f < nF := by omega
      have hv : vp_in (nI f) 5 := vin_j (by omega) (by decide)
      have nx : q_X5_isSound_80 post (q_X5_isSound_78 post) (q_X5_isSound_86 post) (lp_2 (q_X5_isSound_2 post (q_X5_isSound_78 post) (q_X5_isSound_86 post)) (d + 1)) (nI f) σ := by
        unfold q_X5_isSound_80
        rintro _ rfl
        rw [nI_1]
        exact ih (f + 1) (by omega)
      have n63 : q_X5_isSound_63 post (q_X5_isSound_78 post) (q_X5_isSound_86 post) (lp_2 (q_X5_isSound_2 post (q_X5_isSound_78 post) (q_X5_isSound_86 post)) (d + 1)) (nI f) (σ 13 f) (σ 21 f) σ := by
        unfold q_X5_isSound_63
        refine ⟨fun _ => nx, fun e => s_contains (fun r hr => ⟨fun _ => nx, fun y => absurd ?_ (hr.f y)⟩)⟩
        have e4 : ¬ σ 18 4 = -1 := fun z => e (best_none h z f (by omega))
        obtain ⟨j, hj, ej, hj2⟩ := best_may h e4 f hfn
        rw [ej]; exact hj2
      unfold q_X5_isSound_2
      rw [hL.nf, nI_clamp (show f < 2 ^ 31 by omega)]
      refine ⟨fun q => absurd ((nI_leI (by omega) (by omega)).mp q) (by omega), fun _ => ⟨hv, ?_⟩⟩
      rintro _ rfl
      refine ⟨hv, ?_⟩
      rintro _ rfl
      refine ⟨hv, ?_⟩
      rintro _ rfl
      refine ⟨fun _ => n63, fun e => s_contains (fun r hr => ⟨fun y => absurd ?_ (hr.f y), fun _ => n63⟩)⟩
      obtain ⟨j, hj, ej, hj2⟩ := is_may h hfn e
      rw [ej]; exact hj2
  exact ⟨nF + 1, key nF 0 (Nat.zero_add _)⟩
theorem x_isSoundNow {post : Int32 → Mem → Prop} (h : RR σ g τ nF) (hp : ∀ ρ : Mem, WY τ ρ → post 1 ρ) : q_X8_isSoundNow (g 0) (g 2) post τ := by
  have hL := h.lv
  have h5 := hL.1
  have h30 := hL.2.1
  have e131 : ∀ ρ : Mem, WY τ ρ → q_X8_isSoundNow_131 (g 0) (g 2) post ρ := fun ρ w => by
    have hL2 := w.lv hL
    unfold q_X8_isSoundNow_131
    intro wi
    have key : ∀ (d j : Nat) (w1 : Int32), j + d = g 0 → lp_5 (q_X8_isSoundNow_139 (g 0) (g 2) post (q_X8_isSoundNow_176 (g 0) (g 2) post) (q_X8_isSoundNow_181 (g 0) (g 2) post)) (d + 1) wi (nI j) w1 (ρ 3 0) ρ := by
      intro d
      induction d with
      | zero =>
        intro j w1 hj
        show q_X8_isSoundNow_139 _ _ _ _ _ _ _ _ _ _ _
        unfold q_X8_isSoundNow_139 q_X8_isSoundNow_181
        refine ⟨j, ⟨by omega, rfl⟩, ?_⟩
        rintro _ rfl
        exact ⟨fun _ => hp ρ w, fun z => absurd (if_neg (by omega)) z⟩
      | succ d ih =>
        intro j w1 hj
        have hjn : j < g 0 := by omega
        show q_X8_isSoundNow_139 _ _ _ _ _ _ _ _ _ _ _
        unfold q_X8_isSoundNow_139 q_X8_isSoundNow_178
        refine ⟨j, ⟨by omega, rfl⟩, ?_⟩
        rintro _ rfl
        refine ⟨fun z => absurd z (by rw [if_pos hjn]; decide), fun _ => ⟨j, ⟨by omega, rfl, rfl⟩, ?_⟩⟩
        rintro _ rfl _ rfl
        exact ⟨fun _ => ih (j + 1) _ (by omega), fun e => s_X8_counts (n := g 0) (hL2.ab hjn) (fun r hr => ⟨fun _ => ih (j + 1) _ (by omega), fun y => absurd (hr.t y).1 e⟩)⟩
    exact ⟨g 0 + 1, key (g 0) 0 _ (Nat.zero_add _)⟩
  have e97 : ∀ ρ : Mem, WY τ ρ → q_X8_isSoundNow_97 (g 0) (g 2) post ρ := fun ρ w => by
    have h2 := h.w w.1
    unfold q_X8_isSoundNow_97
    have key : ∀ (d m : Nat), m + d = 6 → lp_2 (q_X8_isSoundNow_99 (g 0) (g 2) post (q_X8_isSoundNow_123 (g 0) (g 2) post) (q_X8_isSoundNow_131 (g 0) (g 2) post)) (d + 1) (nI m) ρ := by
      intro d
      induction d with
      | zero =>
        intro m hm
        show q_X8_isSoundNow_99 _ _ _ _ _ _ _ _
        unfold q_X8_isSoundNow_99
        rw [show m = 6 by omega]
        exact ⟨fun _ => e131 ρ w, fun z => absurd (by decide) z⟩
      | succ d ih =>
        intro m hm
        show q_X8_isSoundNow_99 _ _ _ _ _ _ _ _
        unfold q_X8_isSoundNow_99 q_X8_isSoundNow_125
        rw [nI_clamp (show m < 2 ^ 31 by omega)]
        refine ⟨fun z => absurd ((nI_leI (a := 6) (b := m) (by decide) (by omega)).mp z) (by omega), fun _ => ⟨vin_j (by omega) (by decide), fun _ => ?_, fun e => x_drifting h2 (by omega) ⟨fun _ => ?_, fun y => absurd (no_drift h2 (by omega) ((h2.co m (by omega)).trans e)) y⟩⟩⟩
        · rintro _ rfl
          rw [nI_1]
          exact ih (m + 1) (by omega)
        · rintro _ rfl
          rw [nI_1]
          exact ih (m + 1) (by omega)
    exact ⟨7, key 6 0 rfl⟩
  have e76 : ∀ (ρ : Mem), WY τ ρ → q_X8_isSoundNow_76 (g 0) (g 2) post (σ 12 2) ρ := fun ρ w => by
    have h2 := h.w w.1
    unfold q_X8_isSoundNow_76
    refine ⟨fun _ => e97 ρ w, fun hc => x_reasonFor h2 (Or.inl rfl) (fun χ hs => s_meetAnew (d := 0) ((w.1.trans hs.we).lv hL) (by decide) ⟨fun _ => e97 _ ((w.trans hs.wy).trans put_wy), fun y => absurd y ?_⟩)⟩
    have := rs_sound h hc
    rwa [← (w.1.trans hs.we).etm] at this
  unfold q_X8_isSoundNow
  have ec : aC (tm (g 0) τ) nF (g 0) = σ 12 2 := by rw [h.oi.2.1, (ag_a h.ag h.ci.lv).2]
  refine s_isContradiction hL ?_
  rw [ec]
  have w1 : WY τ (put 0 (aM (tm (g 0) τ) nF (g 0)) τ) := put_wy
  generalize put 0 (aM (tm (g 0) τ) nF (g 0)) τ = τ1 at w1
  refine x_best (h.w w1.1) (fun x2 τ2 w2 hx2 hb2 => ?_)
  have w12 := w1.trans w2
  have key : ∀ (d f : Nat) (ρ : Mem), f + d = nF → SE τ2 ρ → lp_4 (q_X8_isSoundNow_12 (g 0) (g 2) post (q_X8_isSoundNow_68 (g 0) (g 2) post) (q_X8_isSoundNow_76 (g 0) (g 2) post)) (d + 1) (σ 12 2) x2 (nI f) ρ := by
    intro d
    induction d with
    | zero =>
      intro f ρ hf hs
      show q_X8_isSoundNow_12 _ _ _ _ _ _ _ _ _ _
      unfold q_X8_isSoundNow_12
      rw [nfm ((w12.trans hs.wy).lv hL)]
      exact ⟨fun _ => e76 ρ (w12.trans hs.wy), fun q => absurd (nI_le (by omega) (by omega)) q⟩
    | succ d ih =>
      intro f ρ hf hs
      have hfn : f < nF := by omega
      have hρ := h.w (w12.trans hs.wy).1
      show q_X8_isSoundNow_12 _ _ _ _ _ _ _ _ _ _
      have e50 : ∀ (χ : Mem), SE τ2 χ → q_X8_isSoundNow_50 (g 0) (g 2) post (q_X8_isSoundNow_68 (g 0) (g 2) post) (q_X8_isSoundNow_76 (g 0) (g 2) post) (lp_4 (q_X8_isSoundNow_12 (g 0) (g 2) post (q_X8_isSoundNow_68 (g 0) (g 2) post) (q_X8_isSoundNow_76 (g 0) (g 2) post)) (d + 1)) (σ 12 2) x2 (nI f) (σ 13 f) χ := fun χ w9 => by
        have nx : q_X8_isSoundNow_70 (g 0) (g 2) post (q_X8_isSoundNow_68 (g 0) (g 2) post) (q_X8_isSoundNow_76 (g 0) (g 2) post) (lp_4 (q_X8_isSoundNow_12 (g 0) (g 2) post (q_X8_isSoundNow_68 (g 0) (g 2) post) (q_X8_isSoundNow_76 (g 0) (g 2) post)) (d + 1)) (σ 12 2) x2 (nI f) χ := by
          unfold q_X8_isSoundNow_70
          rintro _ rfl
          rw [nI_1]
          exact ih (f + 1) χ (by omega) w9
        unfold q_X8_isSoundNow_50
        rw [nI_clamp (show f < 2 ^ 31 by omega)]
        refine ⟨fun _ => nx, fun y => ⟨vin_j (by omega) (by decide), fun _ => nx, fun z => absurd z ?_⟩⟩
        have e4 := hx2.t y
        obtain ⟨j, hj, ej, hj2⟩ := best_may h e4 f hfn
        rw [w9 9 (by decide), (hb2 e4).2 f hfn, ej]
        exact hj2
      unfold q_X8_isSoundNow_12
      rw [nfm ((w12.trans hs.wy).lv hL)]
      refine ⟨fun q => absurd ((nI_leI (by omega) (by omega)).mp q) (by omega), fun _ => s_mayBe hρ.lv (by omega) ?_⟩
      rw [may_eq hρ (by omega)]
      have hs2 : SE τ2 (put 0 (σ 13) ρ) := hs.trans put_se
      refine x_whatIs (h.w (w12.trans hs2.wy).1) hfn (fun χ hs3 => ?_)
      have w9 : SE τ2 χ := hs2.trans hs3
      refine ⟨fun _ => e50 χ w9, fun e => ⟨fun z => absurd z ?_, fun _ => e50 χ w9⟩⟩
      obtain ⟨j, hj, ej, hj2⟩ := is_may h hfn e
      rw [ej]; exact hj2
  exact ⟨nF + 1, key nF 0 τ2 (Nat.zero_add _) SE.rf⟩
theorem x_isSound {post : Int32 → Mem → Prop} (h : RR σ g τ nF) (hp : ∀ ρ : Mem, WE τ ρ → ρ 0 0 = 0 → post 1 ρ) : q_X8_isSound (g 0) (g 2) post τ := by
  have h1 := (h00 h).1
  have z0 := (h00 h).2
  have w1 : WE τ (mst τ 0 0 0) := mst0_we (by omega)
  unfold q_X8_isSound
  rintro _ rfl
  exact x_isSoundNow h1 (fun ρ hρ => ⟨bz1, hp ρ (w1.trans hρ.1) (hρ.z.trans z0)⟩)
end JS
