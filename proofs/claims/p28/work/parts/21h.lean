/-! THE REFERENCE: all that is asked of it leaves what is told in order -/
def FLm (c : Nat) (τ : Mem) (m : Nat) : Prop := τ 5 m = -1 ∨ ∃ k : Nat, k < c ∧ τ 5 m = nI k ∧ ∀ f : Nat, f < 5 → τ 6 (5 * m + f) = τ (200 + k) f ∨ vp_in (τ 6 (5 * m + f)) 8
def RG (n c : Nat) (τ : Mem) : Prop := (∃ nF : Nat, LV (tm n τ) nF n) ∧ ∀ m : Nat, m < 6 → FLm c τ m
theorem WE.rg {n c : Nat} {τ ρ : Mem} (h : WE τ ρ) (hr : RG n c τ) : RG n c ρ := by
  obtain ⟨⟨nF, hL⟩, hF⟩ := hr
  refine ⟨⟨nF, h.lv hL⟩, fun m hm => ?_⟩
  have := hF m hm
  unfold FLm at this ⊢
  rw [h.2 5 (by omega), h.2 6 (by omega)]
  rcases this with z | ⟨k, hk, e, hf⟩
  · exact Or.inl z
  · exact Or.inr ⟨k, hk, e, fun f h5 => by rw [h.2 (200 + k) (by omega)]; exact hf f h5⟩
theorem lv_of {n nF nF' : Nat} {τ ρ : Mem} (h : LV (tm n τ) nF n) (h1 : nF ≤ nF') (h2 : nF' ≤ 5) (e : ρ 0 3 = nI nF') (e2 : ∀ j : Nat, j < n → ∀ i : Nat, i < 5 → ρ (100 + j) i = τ (100 + j) i) : LV (tm n ρ) nF' n := by
  refine ⟨h2, h.2.1, e, rfl, fun j hj => ?_⟩
  obtain ⟨a, b, c, d⟩ := h.2.2.2.2 j hj
  show vp_in (ρ (100 + j) 2) nF' ∧ vp_in (ρ (100 + j) 0) 6 ∧ ((ρ (100 + j) 0 = 3 ∨ ρ (100 + j) 0 = 4) → vp_in (ρ (100 + j) 3) nF' ∧ ¬ ρ (100 + j) 3 = ρ (100 + j) 2) ∧ (ρ (100 + j) 0 = 0 → ρ (100 + j) 3 &&& 255 = ρ (100 + j) 3) ∧ ((ρ (100 + j) 0 = 1 ∨ ρ (100 + j) 0 = 2 ∨ ρ (100 + j) 0 = 5) → vp_in (ρ (100 + j) 3) 8) ∧ (ρ (100 + j) 0 = 5 → vp_in (ρ (100 + j) 4) 10)
  rw [e2 j hj 0 (by decide), e2 j hj 2 (by decide), e2 j hj 3 (by decide), e2 j hj 4 (by decide)]
  exact ⟨vin_mono a h1, b, fun k => ⟨vin_mono (c k).1 h1, (c k).2⟩, d⟩
theorem r_refuse {n c : Nat} {post : Int32 → Mem → Prop} {x : Int32} {τ : Mem} (hp : ∀ (r : Int32) (ρ : Mem), WE τ ρ → post r ρ) : q_X8_refuse n c post x τ := by
  unfold q_X8_refuse
  rintro _ rfl
  exact hp 0 _ (mst0_we (by omega))
theorem r_field {n c : Nat} {post : Int32 → Mem → Prop} {x : Int32} {τ : Mem} (h : RG n c τ) (hp : ∀ (r : Int32) (ρ : Mem), RG n c ρ → ρ 0 8 = τ 0 8 → post r ρ) : q_X8_field n c post x τ := by
  unfold q_X8_field
  rintro _ rfl
  have w1 : WE τ (mst τ 0 0 0) := mst0_we (by omega)
  generalize mst τ 0 0 0 = τ1 at w1
  have hR : ∀ (r : Int32) (ρ : Mem), WE τ1 ρ → post r ρ := fun r ρ w => hp r ρ ((w1.trans w).rg h) ((w1.trans w).1 8 (by omega))
  obtain ⟨⟨nF, hL⟩, hF⟩ := w1.rg h
  have h5 := hL.1
  refine s_X8_is (fun r hr => ⟨fun _ => ⟨fun q => ?_, fun _ => r_refuse hR⟩, fun _ => r_refuse hR⟩)
  have hlt : nF < 5 := by
    rcases Nat.lt_or_ge nF 5 with z | z
    · exact z
    · exact absurd (by rw [nfm hL, show nF = 5 by omega]; rfl) q
  have hv : vp_in (τ1 0 3) 5 := by rw [nfm hL]; exact vin_j hlt (by decide)
  refine ⟨hv, ?_⟩
  rintro _ rfl
  rw [mst_ne (show (0 : Nat) ≠ 1 by decide)]
  refine ⟨hv, ?_⟩
  rintro _ rfl _ rfl
  refine hp _ _ ⟨⟨nF + 1, lv_of hL (by omega) (by omega) ?_ (fun j hj i hi => ?_)⟩, fun m hm => ?_⟩ ?_
  · rw [mst_eq, upd_eq, mst_ne (by decide), mst_ne (by decide), nfm hL, nI_1]
  · rw [mst_ne (by omega), mst_ne (by omega), mst_ne (by omega)]
  · have := hF m hm
    unfold FLm at this ⊢
    rw [mst_ne (by decide), mst_ne (by decide), mst_ne (by decide), mst_ne (by decide), mst_ne (by decide), mst_ne (by decide)]
    rcases this with z | ⟨k, hk, e, hf⟩
    · exact Or.inl z
    · exact Or.inr ⟨k, hk, e, fun f hf5 => by rw [mst_ne (by omega), mst_ne (by omega), mst_ne (by omega)]; exact hf f hf5⟩
  · rw [mst_eq, upd_ne (by decide), mst_ne (by decide), mst_ne (by decide)]
    exact w1.1 8 (by omega)
theorem fl_56 {c : Nat} {τ ρ : Mem} {m : Nat} (h : FLm c τ m) (e5 : ρ 5 = τ 5) (e6 : ρ 6 = τ 6) (e2 : ∀ k : Nat, k < c → ρ (200 + k) = τ (200 + k)) : FLm c ρ m := by
  unfold FLm at h ⊢
  rw [e5, e6]
  rcases h with z | ⟨k, hk, e, hf⟩
  · exact Or.inl z
  · exact Or.inr ⟨k, hk, e, fun f hf5 => by rw [e2 k hk]; exact hf f hf5⟩
/-- a line's place 5 or 6 written -/
theorem rg_ln {n c j i : Nat} {x : Int32} {τ : Mem} (h : RG n c τ) (hj : j < n) (hi : 5 ≤ i) : RG n c (mst τ (100 + j) i x) ∧ mst τ (100 + j) i x 0 8 = τ 0 8 := by
  obtain ⟨⟨nF, hL⟩, hF⟩ := h
  have h30 := hL.2.1
  refine ⟨⟨⟨nF, lv_of hL (Nat.le_refl _) hL.1 ?_ (fun j2 hj2 i2 hi2 => ?_)⟩, fun m hm => fl_56 (hF m hm) (mst_ne (by omega)) (mst_ne (by omega)) (fun k _ => mst_ne (by omega))⟩, ?_⟩
  · rw [mst_ne (by omega)]; exact nfm hL
  · by_cases e : j2 = j
    · subst e; rw [mst_eq, upd_ne (by omega)]
    · rw [mst_ne (by omega)]
  · rw [mst_ne (by omega)]
theorem r_approve {n c : Nat} {post : Int32 → Mem → Prop} {x y : Int32} {τ : Mem} (h : RG n c τ) (hy : bz y) (hp : ∀ (r : Int32) (ρ : Mem), RG n c ρ → ρ 0 8 = τ 0 8 → post r ρ) : q_X8_approve n c post x y τ := by
  have h30 := h.1.choose_spec.2.1
  unfold q_X8_approve q_X8_approve_14
  refine s_X8_isLine h30 (fun r hr => ⟨fun z => ?_, fun z => ?_⟩)
  · rintro _ rfl
    have w : WE τ (mst τ 0 0 1) := mst0_we (by omega)
    rw [mst_eq, upd_eq]
    exact ⟨fun z => absurd z (by decide), fun _ => hp _ _ (w.rg h) (w.1 8 (by omega))⟩
  · obtain ⟨j, hj, rfl⟩ := vin_ex (by omega) (hr.t z)
    rintro _ rfl
    have w : WE τ (mst τ 0 0 0) := mst0_we (by omega)
    refine ⟨fun _ => ⟨j, ⟨hj, rfl⟩, hy, ?_⟩, fun z => absurd (by rw [mst_eq, upd_eq]; decide) z⟩
    rintro _ rfl
    obtain ⟨g1, g2⟩ := rg_ln (x := y) (w.rg h) hj (show 5 ≤ 5 by decide)
    refine ⟨j, ⟨hj, rfl⟩, s_X8_counts (n := n) ?_ (fun r2 hr2 => ⟨hr2.1, hp _ _ g1 (g2.trans (w.1 8 (by omega)))⟩)⟩
    obtain ⟨⟨nF, hL⟩, -⟩ := g1
    exact hL.ab hj
theorem r_withdraw {n c : Nat} {post : Int32 → Mem → Prop} {x y : Int32} {τ : Mem} (h : RG n c τ) (hy : bz y) (hp : ∀ (r : Int32) (ρ : Mem), RG n c ρ → ρ 0 8 = τ 0 8 → post r ρ) : q_X8_withdraw n c post x y τ := by
  have h30 := h.1.choose_spec.2.1
  unfold q_X8_withdraw q_X8_withdraw_14
  refine s_X8_isLine h30 (fun r hr => ⟨fun z => ?_, fun z => ?_⟩)
  · rintro _ rfl
    have w : WE τ (mst τ 0 0 1) := mst0_we (by omega)
    rw [mst_eq, upd_eq]
    exact ⟨fun z => absurd z (by decide), fun _ => hp _ _ (w.rg h) (w.1 8 (by omega))⟩
  · obtain ⟨j, hj, rfl⟩ := vin_ex (by omega) (hr.t z)
    rintro _ rfl
    have w : WE τ (mst τ 0 0 0) := mst0_we (by omega)
    refine ⟨fun _ => ⟨j, ⟨hj, rfl⟩, hy, ?_⟩, fun z => absurd (by rw [mst_eq, upd_eq]; decide) z⟩
    rintro _ rfl
    obtain ⟨g1, g2⟩ := rg_ln (x := y) (w.rg h) hj (show 5 ≤ 6 by decide)
    refine ⟨j, ⟨hj, rfl⟩, s_X8_counts (n := n) ?_ (fun r2 hr2 => ⟨hr2.1, hp _ _ g1 (g2.trans (w.1 8 (by omega)))⟩)⟩
    obtain ⟨⟨nF, hL⟩, -⟩ := g1
    exact hL.ab hj
theorem rg_hi {n c p i : Nat} {x : Int32} {τ : Mem} (h : RG n c τ) (hp : 1 ≤ p ∧ p < 5) : RG n c (mst τ p i x) ∧ mst τ p i x 0 8 = τ 0 8 := by
  obtain ⟨⟨nF, hL⟩, hF⟩ := h
  refine ⟨⟨⟨nF, lv_of hL (Nat.le_refl _) hL.1 ?_ (fun j2 hj2 i2 hi2 => ?_)⟩, fun m hm => fl_56 (hF m hm) (mst_ne (by omega)) (mst_ne (by omega)) (fun k _ => mst_ne (by omega))⟩, ?_⟩
  · rw [mst_ne (by omega)]; exact nfm hL
  · rw [mst_ne (by omega)]
  · rw [mst_ne (by omega)]
theorem r_weight {n c : Nat} {post : Int32 → Mem → Prop} {x y : Int32} {τ : Mem} (h : RG n c τ) (hp : ∀ (r : Int32) (ρ : Mem), RG n c ρ → ρ 0 8 = τ 0 8 → post r ρ) : q_X8_weight n c post x y τ := by
  unfold q_X8_weight
  rintro _ rfl
  have w1 : WE τ (mst τ 0 0 0) := mst0_we (by omega)
  generalize mst τ 0 0 0 = τ1 at w1
  have hR : ∀ (r : Int32) (ρ : Mem), WE τ1 ρ → post r ρ := fun r ρ w => hp r ρ ((w1.trans w).rg h) ((w1.trans w).1 8 (by omega))
  have hg := w1.rg h
  obtain ⟨⟨nF, hL⟩, hF⟩ := id hg
  have h5 := hL.1
  refine s_X8_isField hL (fun r hr => ⟨fun z => s_X8_is (fun r2 hr2 => ⟨fun _ => ?_, fun _ => r_refuse hR⟩), fun _ => r_refuse hR⟩)
  have hv := vin_mono (hr.t z) h5
  refine ⟨hv, ?_⟩
  rintro _ rfl
  refine ⟨hv, ?_⟩
  rintro _ rfl
  have := rg_hi (i := x.toNatClampNeg) (x := y) hg (show 1 ≤ 2 ∧ 2 < 5 by decide)
  exact hp _ _ this.1 (this.2.trans (w1.1 8 (by omega)))
theorem r_knock {n c : Nat} {post : Int32 → Mem → Prop} {τ : Mem} (h : RG n c τ) (hp : ∀ ρ : Mem, RG n c ρ → ρ 0 8 = τ 0 8 + 1 → post (τ 0 8 + 1) ρ) : q_X8_knock n c post τ := by
  unfold q_X8_knock
  rintro _ rfl _ rfl
  have w1 : WE τ (mst τ 0 0 0) := mst0_we (by omega)
  have e8 : mst τ 0 0 0 0 8 = τ 0 8 := w1.1 8 (by omega)
  rw [mst_eq, upd_eq, e8]
  obtain ⟨⟨nF, hL⟩, hF⟩ := w1.rg h
  refine hp _ ⟨⟨nF, lv_of hL (Nat.le_refl _) hL.1 ?_ (fun j2 hj2 i2 hi2 => ?_)⟩, fun m hm => fl_56 (hF m hm) (mst_ne (by omega)) (mst_ne (by omega)) (fun k _ => mst_ne (by omega))⟩ ?_
  · rw [mst_eq, upd_ne (by decide)]; exact nfm hL
  · rw [mst_ne (by omega)]
  · rw [mst_eq, upd_eq]
theorem ix30 {m f : Nat} (hm : m < 6) (hf : f < 5) : vp_in (nI m * 5 + nI f) 30 ∧ (nI m * 5 + nI f).toNatClampNeg = 5 * m + f := by
  rw [ix5]
  exact ⟨vin_j (by omega) (by decide), nI_clamp (by omega)⟩
theorem r_drifts {n c m f : Nat} {post : Int32 → Mem → Prop} {τ : Mem} (h : FLm c τ m) (hm : m < 6) (hf : f < 5) (hc : c ≤ 12) (hp : ∀ r : Int32, (¬ r = 0 → vp_in (τ 6 (5 * m + f)) 8) → post r τ) : q_X8_drifts n c post (nI m) (nI f) τ := by
  have em : (nI m).toNatClampNeg = m := nI_clamp (by omega)
  have ef : (nI f).toNatClampNeg = f := nI_clamp (by omega)
  obtain ⟨i1, i2⟩ := ix30 hm hf
  unfold q_X8_drifts q_X8_drifts_45 q_X8_drifts_46
  rw [em, ef, i2]
  have p0 : post 0 τ := hp 0 (fun z => absurd rfl z)
  refine ⟨vin_j hm (by decide), fun _ => ⟨bz0, p0⟩, fun q => ⟨i1, vin_j hm (by decide), ?_⟩⟩
  obtain ⟨k, hk, e, hf9⟩ := h.resolve_left q
  refine ⟨k, ⟨hk, e⟩, vin_j hf (by decide), fun _ => ⟨bz0, p0⟩, fun q2 => ⟨bz1, hp 1 (fun _ => (hf9 f hf).resolve_left q2)⟩⟩
theorem r_drifting {n c m nF : Nat} {post : Int32 → Mem → Prop} {τ : Mem} (hL : LV (tm n τ) nF n) (h : FLm c τ m) (hm : m < 6) (hc : c ≤ 12) (hp : ∀ r : Int32, post r τ) : q_X8_drifting n c post (nI m) τ := by
  have h5 := hL.1
  unfold q_X8_drifting
  have key : ∀ (k f : Nat) (x : Int32), f + k = nF → lp_4 (q_X8_drifting_4 n c post (q_X8_drifting_37 n c post)) (k + 1) (nI m) x (nI f) τ := by
    intro k
    induction k with
    | zero =>
      intro f x hf
      show q_X8_drifting_4 _ _ _ _ _ _ _ _ _
      unfold q_X8_drifting_4 q_X8_drifting_37
      rw [nfm hL]
      exact ⟨fun _ => hp x, fun q => absurd (nI_le (by omega) (by omega)) q⟩
    | succ k ih =>
      intro f x hf
      show q_X8_drifting_4 _ _ _ _ _ _ _ _ _
      unfold q_X8_drifting_4 q_X8_drifting_29
      rw [nfm hL]
      refine ⟨fun q => absurd ((nI_leI (by omega) (by omega)).mp q) (by omega), fun _ => r_drifts h hm (by omega) hc (fun r _ => ⟨fun _ => ?_, fun _ => ?_⟩)⟩
      · rintro _ rfl _ rfl
        rw [nI_1]
        exact ih (f + 1) _ (by omega)
      · rintro _ rfl _ rfl
        rw [nI_1]
        exact ih (f + 1) _ (by omega)
  exact ⟨nF + 1, key nF 0 0 (Nat.zero_add _)⟩
theorem cm_vin {c : Nat} {x : Int32} {r : Int32} (hc : c ≤ 12) (h : bl (¬ x < 0 ∧ ¬ (nI c - 1) < x) r) : bl (vp_in x c) r := h.iff (is_vin (by omega))
theorem r_wave {n c : Nat} {post : Int32 → Mem → Prop} {x y : Int32} {τ : Mem} (h : RG n c τ) (hc : c ≤ 12) (hp : ∀ (r : Int32) (ρ : Mem), RG n c ρ → ρ 0 8 = τ 0 8 → post r ρ) : q_X8_wave n c post x y τ := by
  unfold q_X8_wave
  rintro _ rfl
  have w1 : WE τ (mst τ 0 0 0) := mst0_we (by omega)
  generalize mst τ 0 0 0 = τ1 at w1
  have hR : ∀ (r : Int32) (ρ : Mem), WE τ1 ρ → post r ρ := fun r ρ w => hp r ρ ((w1.trans w).rg h) ((w1.trans w).1 8 (by omega))
  have hg := w1.rg h
  have e8 : τ1 0 8 = τ 0 8 := w1.1 8 (by omega)
  refine s_X8_is (fun r hr => ⟨fun z => s_X8_is (fun r2 hr2 => ⟨fun _ => ?_, fun _ => r_refuse hR⟩), fun _ => r_refuse hR⟩)
  obtain ⟨k, hk, rfl⟩ := vin_ex (by omega) ((cm_vin hc hr).t z)
  have ek : (nI k).toNatClampNeg = k := nI_clamp (by omega)
  have key : ∀ (d m : Nat) (x3 : Int32) (ρ : Mem), m + d = 6 → RG n c ρ → ρ 0 8 = τ 0 8 → lp_5 (q_X8_wave_49 n c post (q_X8_wave_151 n c post)) (d + 1) (nI k) y x3 (nI m) ρ := by
    intro d
    induction d with
    | zero =>
      intro m x3 ρ hm hg2 h8
      show q_X8_wave_49 _ _ _ _ _ _ _ _ _ _
      unfold q_X8_wave_49 q_X8_wave_151
      rw [show m = 6 by omega]
      exact ⟨fun _ => hp _ _ hg2 h8, fun z => absurd (by decide) z⟩
    | succ d ih =>
      intro m x3 ρ hm hg2 h8
      show q_X8_wave_49 _ _ _ _ _ _ _ _ _ _
      have hm6 : m < 6 := by omega
      have em : (nI m).toNatClampNeg = m := nI_clamp (by omega)
      have e145 : ∀ (y3 : Int32) (χ : Mem), RG n c χ → χ 0 8 = τ 0 8 → q_X8_wave_145 n c post (q_X8_wave_151 n c post) (lp_5 (q_X8_wave_49 n c post (q_X8_wave_151 n c post)) (d + 1)) (nI k) y y3 (nI m) χ := fun y3 χ hg3 h83 => by
        unfold q_X8_wave_145
        rintro _ rfl
        rw [nI_1]
        exact ih (m + 1) y3 χ (by omega) hg3 h83
      obtain ⟨⟨nF, hL⟩, hF⟩ := id hg2
      have e94 : ∀ s0 s1 : Int32, q_X8_wave_94 n c post (q_X8_wave_151 n c post) (lp_5 (q_X8_wave_49 n c post (q_X8_wave_151 n c post)) (d + 1)) s0 s1 (nI k) y (nI m) ρ := fun s0 s1 => by
        unfold q_X8_wave_94
        rintro _ rfl
        refine ⟨vin_j hm6 (by decide), ?_⟩
        rintro _ rfl
        rw [em]
        have inner : ∀ (d2 f : Nat) (y3 : Int32) (χ : Mem), f + d2 = 5 → LV (tm n χ) nF n → χ 0 8 = τ 0 8 → (∀ m2 : Nat, m2 < 6 → ¬ m2 = m → FLm c χ m2) → χ 5 m = nI k → (∀ f2 : Nat, f2 < f → χ 6 (5 * m + f2) = χ (200 + k) f2) → lp_6 (q_X8_wave_107 n c post (q_X8_wave_145 n c post (q_X8_wave_151 n c post) (lp_5 (q_X8_wave_49 n c post (q_X8_wave_151 n c post)) (d + 1)))) (d2 + 1) (nI k) y y3 (nI m) (nI f) χ := by
          intro d2
          induction d2 with
          | zero =>
            intro f y3 χ hf hL2 h82 ho hk5 hcp
            show q_X8_wave_107 _ _ _ _ _ _ _ _ _ _ _
            unfold q_X8_wave_107
            rw [show f = 5 by omega]
            refine ⟨fun _ => e145 _ _ ⟨⟨nF, hL2⟩, fun m2 hm2 => ?_⟩ h82, fun z => absurd (by decide) z⟩
            by_cases e : m2 = m
            · subst e
              exact Or.inr ⟨k, hk, hk5, fun f2 hf2 => Or.inl (hcp f2 (by omega))⟩
            · exact ho m2 hm2 e
          | succ d2 ih2 =>
            intro f y3 χ hf hL2 h82 ho hk5 hcp
            show q_X8_wave_107 _ _ _ _ _ _ _ _ _ _ _
            unfold q_X8_wave_107
            have hf5 : f < 5 := by omega
            obtain ⟨i1, i2⟩ := ix30 hm6 hf5
            refine ⟨fun z => absurd ((nI_leI (a := 5) (b := f) (by decide) (by omega)).mp z) (by omega), fun _ => ⟨k, ⟨hk, rfl⟩, vin_j hf5 (by decide), i1, ?_⟩⟩
            rintro _ rfl _ rfl
            rw [i2, nI_clamp (show f < 2 ^ 31 by omega), nI_1]
            refine ih2 (f + 1) y3 _ (by omega) (lv_of hL2 (Nat.le_refl _) hL2.1 ?_ (fun j2 hj2 i2 hi2 => ?_)) ?_ (fun m2 hm2 hne => ?_) ?_ (fun f2 hf2 => ?_)
            · rw [mst_ne (by decide)]; exact nfm hL2
            · rw [mst_ne (by omega)]
            · rw [mst_ne (by decide)]; exact h82
            · have := ho m2 hm2 hne
              unfold FLm at this ⊢
              rw [mst_ne (show (5 : Nat) ≠ 6 by decide), mst_eq]
              rcases this with z | ⟨k2, hk2, e, hf9⟩
              · exact Or.inl z
              · refine Or.inr ⟨k2, hk2, e, fun f3 hf3 => ?_⟩
                rw [upd_ne (by omega), mst_ne (by omega)]
                exact hf9 f3 hf3
            · rw [mst_ne (by decide)]; exact hk5
            · rw [mst_eq, mst_ne (show 200 + k ≠ 6 by omega)]
              by_cases e : f2 = f
              · subst e; rw [upd_eq]
              · rw [upd_ne (by omega)]; exact hcp f2 (by omega)
        refine ⟨6, inner 5 0 _ _ rfl (lv_of hL (Nat.le_refl _) hL.1 ?_ (fun j2 hj2 i2 hi2 => ?_)) ?_ (fun m2 hm2 hne => ?_) ?_ (fun f2 hf2 => absurd hf2 (Nat.not_lt_zero _))⟩
        · rw [mst_ne (by decide)]; exact nfm hL
        · rw [mst_ne (by omega)]
        · rw [mst_ne (by decide)]; exact h8
        · have := hF m2 hm2
          unfold FLm at this ⊢
          rw [mst_eq, upd_ne hne, mst_ne (show (6 : Nat) ≠ 5 by decide)]
          rcases this with z | ⟨k2, hk2, e, hf9⟩
          · exact Or.inl z
          · refine Or.inr ⟨k2, hk2, e, fun f3 hf3 => ?_⟩
            rw [mst_ne (by omega)]
            exact hf9 f3 hf3
        · rw [mst_eq, upd_eq]
      unfold q_X8_wave_49 q_X8_wave_89
      rw [em]
      exact ⟨fun z => absurd ((nI_leI (a := 6) (b := m) (by decide) (by omega)).mp z) (by omega), fun _ => ⟨fun _ => ⟨vin_j hm6 (by decide), fun _ => e94 _ _, fun _ => r_drifting hL (hF m hm6) hm6 hc (fun r => ⟨fun _ => e94 _ _, fun _ => e94 _ _⟩)⟩, fun _ => e145 _ _ hg2 h8⟩⟩
  exact ⟨7, key 6 0 0 τ1 rfl hg e8⟩
theorem r_patch {n c : Nat} {post : Int32 → Mem → Prop} {x y z : Int32} {τ : Mem} (h : RG n c τ) (hp : ∀ (r : Int32) (ρ : Mem), RG n c ρ → ρ 0 8 = τ 0 8 → post r ρ) : q_X8_patch n c post x y z τ := by
  unfold q_X8_patch q_X8_patch_20
  rintro _ rfl
  have w1 : WE τ (mst τ 0 0 0) := mst0_we (by omega)
  generalize mst τ 0 0 0 = τ1 at w1
  have hR : ∀ (r : Int32) (ρ : Mem), WE τ1 ρ → post r ρ := fun r ρ w => hp r ρ ((w1.trans w).rg h) ((w1.trans w).1 8 (by omega))
  have hg := w1.rg h
  have e8 : τ1 0 8 = τ 0 8 := w1.1 8 (by omega)
  obtain ⟨⟨nF, hL⟩, hF⟩ := id hg
  have h5 := hL.1
  refine s_X8_isMachine (fun r hr => ⟨fun _ => r_refuse hR, fun q => s_X8_isField hL (fun r2 hr2 => ⟨fun q2 => s_X8_is (fun r3 hr3 => ⟨fun q3 => ?_, fun _ => r_refuse hR⟩), fun _ => r_refuse hR⟩)⟩)
  obtain ⟨m, hm, rfl⟩ := vin_ex (by decide) (hr.t q)
  obtain ⟨f, hf, rfl⟩ := vin_ex (by omega) (hr2.t q2)
  have hz : vp_in z 8 := (is_vin (n := 8) (by decide)).mp (hr3.t q3)
  have hf5 : f < 5 := by omega
  obtain ⟨i1, i2⟩ := ix30 hm hf5
  refine ⟨i1, ?_⟩
  rintro _ rfl
  refine ⟨i1, ?_⟩
  rintro _ rfl
  rw [i2]
  refine hp _ _ ⟨⟨nF, lv_of hL (Nat.le_refl _) h5 ?_ (fun j2 hj2 i2 hi2 => ?_)⟩, fun m2 hm2 => ?_⟩ ?_
  · rw [mst_ne (by decide)]; exact nfm hL
  · rw [mst_ne (by omega)]
  · have := hF m2 hm2
    unfold FLm at this ⊢
    rw [mst_ne (show (5 : Nat) ≠ 6 by decide), mst_eq]
    rcases this with q | ⟨k2, hk2, e, hf9⟩
    · exact Or.inl q
    · refine Or.inr ⟨k2, hk2, e, fun f3 hf3 => ?_⟩
      rw [mst_ne (show 200 + k2 ≠ 6 by omega)]
      by_cases e9 : 5 * m2 + f3 = 5 * m + f
      · rw [e9, upd_eq]; exact Or.inr hz
      · rw [upd_ne e9]; exact hf9 f3 hf3
  · rw [mst_ne (by decide)]; exact e8
