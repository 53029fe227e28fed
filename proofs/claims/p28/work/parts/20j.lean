/-! THE CLASS: commits, machines, what is asked -/
theorem s_X5_commit {post : Int32 → Mem → Prop} {px : String → Mem → Prop} {σ : Mem} {nF nL nC : Nat} (h : CI σ nF nL nC)
    (x1 : ¬ (σ 12 2 = 0 ∧ nC < 12) → px xIS σ) (hp : σ 12 2 = 0 → nC < 12 → post (nI nC) (kpM nC σ)) : q_X5_commit post px σ := by
  have hn := h.2.1
  unfold q_X5_commit q_X5_commit_25
  rw [h.nc]
  refine ⟨fun q => x1 (fun z => q z.1), fun q => ⟨fun q2 => ?_, fun q2 => x1 (fun z => q2 ((lt_nI (n := 12) (by omega) (by decide)).mpr z.2))⟩⟩
  have hlt : nC < 12 := (lt_nI (n := 12) (by omega) (by decide)).mp q2
  exact s_keep hlt h.nc (hp q hlt)
theorem s_X5_wave {post : Int32 → Mem → Prop} {px : String → Mem → Prop} {σ : Mem} {nF nL nC : Nat} {p1 p2 : Int32} (h : CI σ nF nL nC)
    (x1 : ¬ vp_in p1 nC → px xIO σ) (x2 : vp_in p1 nC → ¬ (¬ p2 < 0 ∧ p2 ≤ 63) → px xIA σ) (hp : ∀ c : Nat, c < nC → p1 = nI c → (¬ p2 < 0 ∧ p2 ≤ 63) → post (wvF c p2 6 0 0 σ).1 (wvF c p2 6 0 0 σ).2) : q_X5_wave post px p1 p2 σ := by
  have hn := h.2.1
  unfold q_X5_wave q_X5_wave_28
  refine s_isCommit hn h.nc (fun r hr => ⟨fun z => ?_, fun z => x1 (hr.f z)⟩)
  have hv := hr.t z
  refine ⟨fun q => x2 hv (fun w => w.1 q), fun q => ⟨fun q2 => ?_, fun q2 => x2 hv (fun w => q2 w.2)⟩⟩
  obtain ⟨c, hc, rfl⟩ := vin_ex (by omega) hv
  have hp := hp c hc rfl ⟨q, q2⟩
  have key : ∀ (d m : Nat) (x : Int32) (τ : Mem), m + d = 6 → τ 23 3 = nI nC → post (wvF c p2 d m x τ).1 (wvF c p2 d m x τ).2 → lp_5 (q_X5_wave_43 post px (q_X5_wave_81 post px)) (d + 1) (nI c) p2 x (nI m) τ := by
    intro d
    induction d with
    | zero =>
      intro m x τ hm _ hp
      show q_X5_wave_43 _ _ _ _ _ _ _ _ _
      unfold q_X5_wave_43 q_X5_wave_81
      rw [show m = 6 by omega]
      exact ⟨fun _ => hp, fun z => absurd (by decide) z⟩
    | succ d ih =>
      intro m x τ hm h23 hp
      show q_X5_wave_43 _ _ _ _ _ _ _ _ _
      unfold q_X5_wave_43 q_X5_wave_75
      unfold wvF at hp
      refine ⟨fun z => absurd ((nI_leI (a := 6) (b := m) (by decide) (by omega)).mp z) (by omega), fun _ => s_contains (fun r9 hr9 => ⟨fun z => ?_, fun z => ?_⟩)⟩
      · rintro _ rfl
        rw [nI_1]
        rw [if_pos (Classical.byContradiction (hr9.f z))] at hp
        exact ih (m + 1) x τ (by omega) h23 hp
      · rw [if_neg (hr9.t z)] at hp
        have h23b : brM τ m c 23 3 = nI nC := by rw [brM_fr (by decide) (by omega)]; exact h23
        refine s_bring hn h23 (by omega) hc (fun r2 hr2 => ⟨fun y => ?_, fun y => ?_⟩)
        · rintro _ rfl
          rw [nI_1]
          rw [if_neg (hr2.f y)] at hp
          exact ih (m + 1) x _ (by omega) h23b hp
        · rintro _ rfl _ rfl
          rw [nI_1]
          rw [if_pos (hr2.t y)] at hp
          exact ih (m + 1) _ _ (by omega) h23b hp
  exact ⟨7, key 6 0 0 σ rfl h.nc hp⟩
theorem s_X5_patch {post : Int32 → Mem → Prop} {px : String → Mem → Prop} {σ : Mem} {nF nL nC : Nat} {p1 p2 p3 : Int32} (h : CI σ nF nL nC)
    (x1 : ¬ (vp_in p1 6 ∧ vp_in p2 nF) → px xIO σ) (x2 : (vp_in p1 6 ∧ vp_in p2 nF) → ¬ vp_in p3 8 → px xIA σ) (hp : ∀ m f : Nat, m < 6 → f < nF → p1 = nI m → p2 = nI f → vp_in p3 8 → post (σ (39 + m) f) (mup σ (39 + m) (upd (σ (39 + m)) f p3))) : q_X5_patch post px p1 p2 p3 σ := by
  have hL := h.lv
  have h5 := hL.1
  unfold q_X5_patch q_X5_patch_15
  refine s_isMachine (fun r hr => ⟨fun z => x1 (fun w => hr.f z (lo_vin (by decide) w.1)), fun z => ?_⟩)
  have hm := hr.t z
  have hvm : vp_in p1 6 := vin_lo (by decide) hm.1 hm.2
  refine s_isField hL (fun r1 hr1 => ⟨fun z1 => ?_, fun z1 => x1 (fun w => hr1.f z1 w.2)⟩)
  have hvf := hr1.t z1
  refine s_isNumber (fun r2 hr2 => ⟨fun z2 => ?_, fun z2 => x2 ⟨hvm, hvf⟩ (fun w => hr2.f z2 (lo_vin (by decide) w))⟩)
  have hv3 : vp_in p3 8 := vin_lo (by decide) (hr2.t z2).1 (hr2.t z2).2
  obtain ⟨m, hm6, rfl⟩ := vin_ex (by decide) hvm
  obtain ⟨f, hfn, rfl⟩ := vin_ex (by omega) hvf
  have em : (nI m).toNatClampNeg = m := nI_clamp (by omega)
  have ef : (nI f).toNatClampNeg = f := nI_clamp (by omega)
  rw [em, ef]
  refine ⟨hvm, vin_mono hvf h5, ?_⟩
  rintro _ rfl
  refine ⟨hvm, vin_mono hvf h5, ?_⟩
  rintro _ rfl
  exact hp m f hm6 hfn rfl rfl hv3
theorem one8 : ∀ j : Nat, j < 8 → ((1 : Int32) <<< (nI j &&& 31)) &&& 255 = (1 : Int32) <<< (nI j &&& 31) := by decide +kernel
theorem s_X5_absorb {post : Int32 → Mem → Prop} {px : String → Mem → Prop} {σ : Mem} {nF nL nC : Nat} {p1 p2 : Int32} (h : CI σ nF nL nC)
    (x1 : ¬ (vp_in p1 6 ∧ vp_in p2 nF) → px xIO σ) (x2 : ∀ m f : Nat, m < 6 → f < nF → p1 = nI m → p2 = nI f → ¬ (drP σ m f ∧ vp_in (σ (39 + m) f) 8 ∧ nL < 30) → px xIS σ)
    (hp : ∀ m f : Nat, m < 6 → f < nF → p1 = nI m → p2 = nI f → drP σ m f → vp_in (σ (39 + m) f) 8 → nL < 30 → post (nI nL) (rnw nF (nL + 1) (lnN nL 0 (σ 2 f) (nI f) ((1 : Int32) <<< (σ (39 + m) f &&& 31)) 0 σ))) : q_X5_absorb post px p1 p2 σ := by
  have hL := h.lv
  have h5 := hL.1
  unfold q_X5_absorb q_X5_absorb_15 q_X5_absorb_68
  refine s_isMachine (fun r hr => ⟨fun z => x1 (fun w => hr.f z (lo_vin (by decide) w.1)), fun z => ?_⟩)
  have hm := hr.t z
  have hvm : vp_in p1 6 := vin_lo (by decide) hm.1 hm.2
  refine s_isField hL (fun r1 hr1 => ⟨fun z1 => ?_, fun z1 => x1 (fun w => hr1.f z1 w.2)⟩)
  have hvf := hr1.t z1
  obtain ⟨m, hm6, rfl⟩ := vin_ex (by decide) hvm
  obtain ⟨f, hfn, rfl⟩ := vin_ex (by omega) hvf
  have em : (nI m).toNatClampNeg = m := nI_clamp (by omega)
  have ef : (nI f).toNatClampNeg = f := nI_clamp (by omega)
  rw [em, ef]
  refine ⟨hvm, vin_mono hvf h5, ?_⟩
  rintro _ rfl
  replace x2 := x2 m f hm6 hfn rfl rfl
  refine s_drifts h.2.1 h.nc hm6 (by omega) (fun r2 hr2 => ⟨fun z2 => x2 (fun w => hr2.f z2 w.1), fun z2 => s_isNumber (fun r3 hr3 => ⟨fun z3 => x2 (fun w => hr3.f z3 (lo_vin (by decide) w.2.1)), fun z3 => ⟨fun q => ⟨vin_mono hvf h5, ?_⟩, fun q => x2 (fun w => q (by rw [hL.nl]; exact (lt_nI (n := 30) (by omega) (by decide)).mpr w.2.2))⟩⟩)⟩)
  have hv8 : vp_in (σ (39 + m) f) 8 := vin_lo (by decide) (hr3.t z3).1 (hr3.t z3).2
  have hn := (nL_lt hL).1 q
  obtain ⟨j, hj, ej⟩ := vin_ex (by decide) hv8
  exact s_tell h hn ⟨hvf, vin_6 0 (by decide), fun k => k.elim (fun e => absurd e (by decide)) (fun e => absurd e (by decide)), fun _ => by rw [ej]; exact one8 j hj, fun k => k.elim (fun e => absurd e (by decide)) (fun k => k.elim (fun e => absurd e (by decide)) (fun e => absurd e (by decide))), fun e => absurd e (by decide)⟩ (hp m f hm6 hfn rfl rfl (hr2.t z2) hv8 hn)
theorem s_X5_knock {post : Int32 → Mem → Prop} {σ : Mem} (hp : post (σ 0 3 + 1) (mst σ 0 3 (σ 0 3 + 1))) : q_X5_knock post σ := by
  unfold q_X5_knock
  rintro _ rfl
  rw [mst_eq, upd_eq]
  exact hp
def fdA (σ : Mem) (nC f w : Nat) : Int32 := if w = 0 then σ 2 f else if w = 1 then σ 13 f else if w = 2 then bcF (σ 13 f) else if w = 3 then σ 22 f else if w = 4 then σ 3 f else if w = 5 then σ 21 f else fnF σ f (nC - 1) 1
theorem s_X5_ofField {post : Int32 → Mem → Prop} {px : String → Mem → Prop} {σ : Mem} {nF nL nC : Nat} {p1 p2 : Int32} (h : CI σ nF nL nC)
    (x1 : ¬ vp_in p1 nF → px xIO σ) (x2 : vp_in p1 nF → sw_out p2 7 → px xIA σ) (hp : ∀ f : Nat, f < nF → p1 = nI f → ∀ w : Nat, w < 7 → p2 = nI w → post (fdA σ nC f w) σ) : q_X5_ofField post px p1 p2 σ := by
  have hL := h.lv
  have h5 := hL.1
  unfold q_X5_ofField
  refine s_isField hL (fun r hr => ⟨fun z => ?_, fun z => x1 (hr.f z)⟩)
  have hvf := hr.t z
  replace x2 := x2 hvf
  obtain ⟨f, hfn, rfl⟩ := vin_ex (by omega) hvf
  have ef : (nI f).toNatClampNeg = f := nI_clamp (by omega)
  have hp := hp f hfn rfl
  have hv5 := vin_mono hvf h5
  rw [ef]
  exact ⟨x2, fun e => ⟨hv5, hp 0 (by decide) e⟩, fun e => ⟨hv5, hp 1 (by decide) e⟩, fun e => ⟨hv5, s_bitCount (hp 2 (by decide) e)⟩, fun e => ⟨hv5, hp 3 (by decide) e⟩, fun e => ⟨hv5, hp 4 (by decide) e⟩, fun e => ⟨hv5, hp 5 (by decide) e⟩, fun e => s_find h.2.1 h.nc (by omega) (hp 6 (by decide) e)⟩
def liA (σ : Mem) (nF nL j w : Nat) : Int32 := if w = 0 then σ 4 j else if w = 1 then σ 5 j else if w = 2 then σ 6 j else if w = 3 then σ 7 j else if w = 4 then σ 8 j else if w = 5 then (if ctP σ j then 1 else 0) else (if (((rsF nF nL (-1) σ).1 >>> (nI j &&& 31)) &&& 1) = 0 then 0 else 1)
theorem s_X5_ofLine {post : Int32 → Mem → Prop} {px : String → Mem → Prop} {σ : Mem} {nF nL nC : Nat} {p1 p2 : Int32} (h : CI σ nF nL nC)
    (x1 : ¬ vp_in p1 nL → px xIO σ) (x2 : vp_in p1 nL → sw_out p2 7 → px xIA σ) (hp : ∀ j : Nat, j < nL → p1 = nI j → ∀ w : Nat, w < 7 → p2 = nI w → post (liA σ nF nL j w) (if w = 6 then (rsF nF nL (-1) σ).2 else σ)) : q_X5_ofLine post px p1 p2 σ := by
  have hL := h.lv
  have h30 := hL.2.1
  unfold q_X5_ofLine q_X5_ofLine_126 q_X5_ofLine_147
  refine s_isLine hL (fun r hr => ⟨fun z => ?_, fun z => x1 (hr.f z)⟩)
  have hvf := hr.t z
  replace x2 := x2 hvf
  obtain ⟨j, hj, rfl⟩ := vin_ex (by omega) hvf
  have ej : (nI j).toNatClampNeg = j := nI_clamp (by omega)
  have hp := hp j hj rfl
  have hv := vin_mono hvf h30
  rw [ej]
  refine ⟨x2, fun e => ⟨hv, hp 0 (by decide) e⟩, fun e => ⟨hv, hp 1 (by decide) e⟩, fun e => ⟨hv, hp 2 (by decide) e⟩, fun e => ⟨hv, hp 3 (by decide) e⟩, fun e => ⟨hv, hp 4 (by decide) e⟩, fun e => s_counts (by omega) (hL.ab hj) (fun r2 hr2 => ⟨fun q => ?_, fun q => ?_⟩), fun e => s_reasonOf hL (s_contains (fun r2 hr2 => ⟨fun q => ?_, fun q => ?_⟩))⟩
  · have := hp 5 (by decide) e
    rwa [show liA σ nF nL j 5 = 0 from if_neg (hr2.f q)] at this
  · have := hp 5 (by decide) e
    rwa [show liA σ nF nL j 5 = 1 from if_pos (hr2.t q)] at this
  · have := hp 6 (by decide) e
    unfold liA at this
    have hb : (((rsF nF nL (-1) σ).1 >>> (nI j &&& 31)) &&& 1) = 0 := Classical.byContradiction (hr2.f q)
    simpa [hb] using this
  · have := hp 6 (by decide) e
    unfold liA at this
    have hb : ¬ (((rsF nF nL (-1) σ).1 >>> (nI j &&& 31)) &&& 1) = 0 := hr2.t q
    simpa [hb] using this
def mcA (σ : Mem) (m w : Nat) : Int32 := if w = 0 then σ 26 m else if w = 1 then bcF (dgF σ m 5 0 0) else dgF σ m 5 0 0
theorem s_X5_ofMachine {post : Int32 → Mem → Prop} {px : String → Mem → Prop} {σ : Mem} {nF nL nC : Nat} {p1 p2 : Int32} (h : CI σ nF nL nC)
    (x1 : ¬ vp_in p1 6 → px xIO σ) (x2 : vp_in p1 6 → sw_out p2 3 → px xIA σ) (hp : ∀ m : Nat, m < 6 → p1 = nI m → ∀ w : Nat, w < 3 → p2 = nI w → post (mcA σ m w) σ) : q_X5_ofMachine post px p1 p2 σ := by
  unfold q_X5_ofMachine
  refine s_isMachine (fun r hr => ⟨fun z => ?_, fun z => x1 (fun w => hr.f z (lo_vin (by decide) w))⟩)
  have hvm : vp_in p1 6 := vin_lo (by decide) (hr.t z).1 (hr.t z).2
  replace x2 := x2 hvm
  obtain ⟨m, hm, rfl⟩ := vin_ex (by decide) hvm
  have em : (nI m).toNatClampNeg = m := nI_clamp (by omega)
  have hp := hp m hm rfl
  rw [em]
  exact ⟨x2, fun e => ⟨hvm, hp 0 (by decide) e⟩, fun e => s_drifting h.2.1 h.nc hm (s_bitCount (hp 1 (by decide) e)), fun e => s_drifting h.2.1 h.nc hm (hp 2 (by decide) e)⟩
theorem s_X5_has {post : Int32 → Mem → Prop} {px : String → Mem → Prop} {σ : Mem} {nF nL nC : Nat} {p1 p2 : Int32} (h : CI σ nF nL nC)
    (x1 : ¬ (vp_in p1 6 ∧ vp_in p2 nF) → px xIO σ) (hp : ∀ m f : Nat, m < 6 → f < nF → p1 = nI m → p2 = nI f → post (σ (39 + m) f) σ) : q_X5_has post px p1 p2 σ := by
  have hL := h.lv
  have h5 := hL.1
  unfold q_X5_has q_X5_has_15
  refine s_isMachine (fun r hr => ⟨fun z => x1 (fun w => hr.f z (lo_vin (by decide) w.1)), fun z => ?_⟩)
  have hvm : vp_in p1 6 := vin_lo (by decide) (hr.t z).1 (hr.t z).2
  refine s_isField hL (fun r1 hr1 => ⟨fun z1 => ?_, fun z1 => x1 (fun w => hr1.f z1 w.2)⟩)
  have hvf := hr1.t z1
  obtain ⟨m, hm6, rfl⟩ := vin_ex (by decide) hvm
  obtain ⟨f, hfn, rfl⟩ := vin_ex (by omega) hvf
  have em : (nI m).toNatClampNeg = m := nI_clamp (by omega)
  have ef : (nI f).toNatClampNeg = f := nI_clamp (by omega)
  rw [em, ef]
  exact ⟨hvm, vin_mono hvf h5, hp m f hm6 hfn rfl rfl⟩
theorem s_X5_ofCommit {post : Int32 → Mem → Prop} {px : String → Mem → Prop} {σ : Mem} {nF nL nC : Nat} {p1 p2 : Int32} (h : CI σ nF nL nC)
    (x1 : ¬ (vp_in p1 nC ∧ vp_in p2 nF) → px xIO σ) (hp : ∀ c f : Nat, c < nC → f < nF → p1 = nI c → p2 = nI f → post (σ (27 + c) f) σ) : q_X5_ofCommit post px p1 p2 σ := by
  have hL := h.lv
  have h5 := hL.1
  have h12 := h.2.1
  unfold q_X5_ofCommit q_X5_ofCommit_16
  refine s_isCommit h12 h.nc (fun r hr => ⟨fun z => x1 (fun w => hr.f z w.1), fun z => ?_⟩)
  have hvc := hr.t z
  refine s_isField hL (fun r1 hr1 => ⟨fun z1 => ?_, fun z1 => x1 (fun w => hr1.f z1 w.2)⟩)
  have hvf := hr1.t z1
  obtain ⟨c, hcn, rfl⟩ := vin_ex (by omega) hvc
  obtain ⟨f, hfn, rfl⟩ := vin_ex (by omega) hvf
  have ec : (nI c).toNatClampNeg = c := nI_clamp (by omega)
  have ef : (nI f).toNatClampNeg = f := nI_clamp (by omega)
  rw [ec, ef]
  exact ⟨vin_mono hvc h12, vin_mono hvf h5, hp c f hcn hfn rfl rfl⟩
def cnL (σ : Mem) : Nat → Nat → Int32 → Int32
  | 0, _, x => x
  | d + 1, j, x => cnL σ d (j + 1) (if ctP σ j then x + 1 else x)
theorem s_countingLines {post : Int32 → Mem → Prop} {σ : Mem} {nF nL : Nat} (h : LV σ nF nL) (hp : post (cnL σ nL 0 0) σ) : q_X2_countingLines post σ := by
  unfold q_X2_countingLines
  have h30 := h.2.1
  have key : ∀ (d j : Nat) (x : Int32), j + d = nL → post (cnL σ d j x) σ → lp_3 (q_X2_countingLines_4 post (q_X2_countingLines_29 post)) (d + 1) x (nI j) σ := by
    intro d
    induction d with
    | zero =>
      intro j x hj hp
      show q_X2_countingLines_4 _ _ _ _ _ _
      unfold q_X2_countingLines_4 q_X2_countingLines_29
      rw [h.nl]
      exact ⟨fun _ => hp, fun q => absurd (nI_le (by omega) (by omega)) q⟩
    | succ d ih =>
      intro j x hj hp
      show q_X2_countingLines_4 _ _ _ _ _ _
      unfold q_X2_countingLines_4 q_X2_countingLines_23
      rw [h.nl]
      unfold cnL at hp
      refine ⟨fun q => absurd ((nI_leI (by omega) (by omega)).mp q) (by omega), fun _ => s_counts (by omega) (h.ab (by omega)) (fun r hr => ⟨fun z => ?_, fun z => ?_⟩)⟩
      · rintro _ rfl
        rw [nI_1]
        rw [if_neg (hr.f z)] at hp
        exact ih (j + 1) x (by omega) hp
      · rintro _ rfl _ rfl
        rw [nI_1]
        rw [if_pos (hr.t z)] at hp
        exact ih (j + 1) _ (by omega) hp
  exact ⟨nL + 1, key nL 0 0 (Nat.zero_add nL) hp⟩
def sfF (σ : Mem) : Nat → Nat → Int32 → Int32
  | 0, _, x => x
  | d + 1, f, x => sfF σ d (f + 1) (if σ 22 f = -1 then x else x + 1)
theorem s_settledFields {post : Int32 → Mem → Prop} {σ : Mem} {nF nL : Nat} (h : LV σ nF nL) (hp : post (sfF σ nF 0 0) σ) : q_X4_settledFields post σ := by
  unfold q_X4_settledFields
  have h5 := h.1
  have key : ∀ (d f : Nat) (x : Int32), f + d = nF → post (sfF σ d f x) σ → lp_3 (q_X4_settledFields_4 post (q_X4_settledFields_34 post)) (d + 1) x (nI f) σ := by
    intro d
    induction d with
    | zero =>
      intro f x hf hp
      show q_X4_settledFields_4 _ _ _ _ _ _
      unfold q_X4_settledFields_4 q_X4_settledFields_34
      rw [h.nf]
      exact ⟨fun _ => hp, fun q => absurd (nI_le (by omega) (by omega)) q⟩
    | succ d ih =>
      intro f x hf hp
      show q_X4_settledFields_4 _ _ _ _ _ _
      have e : (nI f).toNatClampNeg = f := nI_clamp (by omega)
      unfold q_X4_settledFields_4 q_X4_settledFields_28
      rw [h.nf, e]
      unfold sfF at hp
      refine ⟨fun q => absurd ((nI_leI (by omega) (by omega)).mp q) (by omega), fun _ => ⟨vin_j (by omega) (by decide), fun z => ?_, fun z => ?_⟩⟩
      · rintro _ rfl
        rw [nI_1]
        rw [if_pos z] at hp
        exact ih (f + 1) x (by omega) hp
      · rintro _ rfl _ rfl
        rw [nI_1]
        rw [if_neg z] at hp
        exact ih (f + 1) _ (by omega) hp
  exact ⟨nF + 1, key nF 0 0 (Nat.zero_add nF) hp⟩
def hoA (σ : Mem) (nF nL nC w : Nat) : Int32 := if w = 0 then nI nF else if w = 1 then nI nL else if w = 2 then cnL σ nL 0 0 else if w = 3 then (if σ 12 2 = 0 then 0 else 1) else if w = 4 then sfF σ nF 0 0 else if w = 5 then nI nC else if w = 6 then dmF σ 6 0 0 else if w = 7 then σ 18 4 else σ 0 3
theorem s_X5_house {post : Int32 → Mem → Prop} {px : String → Mem → Prop} {σ : Mem} {nF nL nC : Nat} {p1 : Int32} (h : CI σ nF nL nC)
    (x1 : sw_out p1 9 → px xIA σ) (hp : ∀ w : Nat, w < 9 → p1 = nI w → post (hoA σ nF nL nC w) σ) : q_X5_house post px p1 σ := by
  have hL := h.lv
  unfold q_X5_house q_X5_house_94
  refine ⟨x1, fun e => by rw [hL.nf]; exact hp 0 (by decide) e, fun e => by rw [hL.nl]; exact hp 1 (by decide) e, fun e => s_countingLines hL (hp 2 (by decide) e), fun e => ⟨fun q => ?_, fun q => ?_⟩, fun e => s_settledFields hL (hp 4 (by decide) e), fun e => by rw [h.nc]; exact hp 5 (by decide) e, fun e => s_driftingMachines h.2.1 h.nc (hp 6 (by decide) e), fun e => hp 7 (by decide) e, fun e => hp 8 (by decide) e⟩
  · have := hp 3 (by decide) e
    unfold hoA at this
    simpa [q] using this
  · have := hp 3 (by decide) e
    unfold hoA at this
    simpa [q] using this
theorem s_X5_reason {post : Int32 → Mem → Prop} {px : String → Mem → Prop} {σ : Mem} {nF nL nC : Nat} {p1 : Int32} (h : CI σ nF nL nC)
    (x1 : ¬ (p1 = -1 ∨ vp_in p1 nF) → px xIO σ) (hp : (p1 = -1 ∨ vp_in p1 nF) → post (rsF nF nL p1 σ).1 (rsF nF nL p1 σ).2) : q_X5_reason post px p1 σ := by
  have hL := h.lv
  unfold q_X5_reason q_X5_reason_23
  refine ⟨fun q => s_reasonOf hL (hp (Or.inl q)), fun q => s_isField hL (fun r hr => ⟨fun z => s_reasonOf hL (hp (Or.inr (hr.t z))), fun z => x1 (fun w => w.elim q (hr.f z))⟩)⟩
theorem s_X5_met {post : Int32 → Mem → Prop} {px : String → Mem → Prop} {σ : Mem} {nF nL nC : Nat} {p1 p2 : Int32} (h : CI σ nF nL nC)
    (x1 : ¬ vp_in p2 nF → px xIO σ) (x2 : vp_in p2 nF → ¬ (¬ p1 < 0 ∧ (p1 >>> (nI nL &&& 31)) = 0) → px xIA σ) (hp : ∀ f : Nat, f < nF → p2 = nI f → (¬ p1 < 0 ∧ (p1 >>> (nI nL &&& 31)) = 0) → post (bgM 14 15 nF nL p1 σ 15 f) (bgM 14 15 nF nL p1 σ)) : q_X5_met post px p1 p2 σ := by
  have hL := h.lv
  have h5 := hL.1
  unfold q_X5_met q_X5_met_34
  refine s_isField hL (fun r hr => ⟨fun z => ?_, fun z => x1 (hr.f z)⟩)
  have hvf := hr.t z
  rw [hL.nl]
  refine ⟨fun q => x2 hvf (fun w => w.1 q), fun q => ⟨fun q2 => ?_, fun q2 => x2 hvf (fun w => q2 w.2)⟩⟩
  obtain ⟨f, hfn, rfl⟩ := vin_ex (by omega) hvf
  have ef : (nI f).toNatClampNeg = f := nI_clamp (by omega)
  rw [ef]
  exact s_begin (by decide) (by decide) (by decide) hL ⟨vin_mono hvf h5, hp f hfn rfl ⟨q, q2⟩⟩
theorem s_X5_choices {post : Int32 → Mem → Prop} {px : String → Mem → Prop} {σ : Mem} {nF nL nC : Nat} {p1 p2 : Int32} (h : CI σ nF nL nC)
    (x1 : ¬ vp_in p1 nF → px xIO σ) (x2 : vp_in p1 nF → ¬ vp_in p2 8 → px xIA σ) (hp : ∀ f : Nat, f < nF → p1 = nI f → vp_in p2 8 → post (ctR nF nL σ f p2 18 6) (ctR nF nL σ f p2)) : q_X5_choices post px p1 p2 σ := by
  have hL := h.lv
  have h5 := hL.1
  unfold q_X5_choices
  refine s_isField hL (fun r hr => ⟨fun z => ?_, fun z => x1 (hr.f z)⟩)
  have hvf := hr.t z
  refine s_isNumber (fun r2 hr2 => ⟨fun z2 => ?_, fun z2 => x2 hvf (fun w => hr2.f z2 (lo_vin (by decide) w))⟩)
  have hv8 : vp_in p2 8 := vin_lo (by decide) (hr2.t z2).1 (hr2.t z2).2
  obtain ⟨f, hfn, rfl⟩ := vin_ex (by omega) hvf
  exact s_count hL (by omega) (hp f hfn rfl hv8)
theorem s_X5_isNarrower {post : Int32 → Mem → Prop} {px : String → Mem → Prop} {σ : Mem} {nF nL nC : Nat} {p1 p2 : Int32} (h : CI σ nF nL nC)
    (x1 : ¬ (vp_in p1 nF ∧ vp_in p2 nF) → px xIO σ) (hp : ∀ f f2 : Nat, f < nF → f2 < nF → p1 = nI f → p2 = nI f2 → ∀ r : Int32, bl ((σ 13 f &&& (σ 13 f2 ^^^ (-1))) = 0) r → post r σ) : q_X5_isNarrower post px p1 p2 σ := by
  have hL := h.lv
  have h5 := hL.1
  unfold q_X5_isNarrower q_X5_isNarrower_16 q_X5_isNarrower_61
  refine s_isField hL (fun r hr => ⟨fun z => x1 (fun w => hr.f z w.1), fun z => ?_⟩)
  have hvf := hr.t z
  refine s_isField hL (fun r1 hr1 => ⟨fun z1 => ?_, fun z1 => x1 (fun w => hr1.f z1 w.2)⟩)
  have hvf2 := hr1.t z1
  obtain ⟨f, hfn, rfl⟩ := vin_ex (by omega) hvf
  obtain ⟨f2, hfn2, rfl⟩ := vin_ex (by omega) hvf2
  have ef : (nI f).toNatClampNeg = f := nI_clamp (by omega)
  have ef2 : (nI f2).toNatClampNeg = f2 := nI_clamp (by omega)
  rw [ef, ef2]
  exact ⟨vin_mono hvf h5, vin_mono hvf2 h5, fun q => ⟨bz0, hp f f2 hfn hfn2 rfl rfl 0 (bl0 q)⟩, fun q => ⟨bz1, hp f f2 hfn hfn2 rfl rfl 1 (bl1 q)⟩⟩
