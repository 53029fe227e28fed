/-! THE REFERENCE: what is only asked -/
/-- all that a question may leave -/
abbrev WQ (τ : Mem) (post : Int32 → Mem → Prop) : Prop := ∀ (r : Int32) (ρ : Mem), WE τ ρ → post r ρ
theorem WQ.at {τ ρ : Mem} {post : Int32 → Mem → Prop} (h : WQ τ post) (w : WE τ ρ) : WQ ρ post := fun r χ w2 => h r χ (w.trans w2)
theorem r_changed {n c f : Nat} {post : Int32 → Mem → Prop} {τ : Mem} (hc : c ≤ 12) (hf : f < 5) (hp : WQ τ post) : q_X8_changed n c post (nI f) τ := by
  unfold q_X8_changed
  have key : ∀ (d j : Nat), 1 ≤ j → j ≤ 20 → c ≤ j + d → lp_3 (q_X8_changed_2 n c post (q_X8_changed_44 n c post) (q_X8_changed_52 n c post)) (d + 1) (nI f) (nI j) τ := by
    intro d
    induction d with
    | zero =>
      intro j h1 h20 hj
      show q_X8_changed_2 _ _ _ _ _ _ _ _ _
      unfold q_X8_changed_2 q_X8_changed_52
      exact ⟨fun _ => hp _ τ WE.rf, fun q => absurd ((nI_leI (by omega) (by omega)).mpr (by omega)) q⟩
    | succ d ih =>
      intro j h1 h20 hj
      show q_X8_changed_2 _ _ _ _ _ _ _ _ _
      unfold q_X8_changed_2 q_X8_changed_44 q_X8_changed_52
      refine ⟨fun _ => hp _ τ WE.rf, fun q => ?_⟩
      have hjc : j < c := by
        rcases Nat.lt_or_ge j c with z | z
        · exact z
        · exact absurd ((nI_leI (by omega) (by omega)).mpr z) q
      refine ⟨j, ⟨hjc, rfl⟩, vin_j hf (by decide), j - 1, ⟨by omega, nI_m1 h1⟩, vin_j hf (by decide), fun _ => ?_, fun _ => hp _ τ WE.rf⟩
      rintro _ rfl
      rw [nI_1]
      exact ih (j + 1) (by omega) (by omega) (by omega)
  exact ⟨c + 1, key c 1 (by decide) (by decide) (by omega)⟩
theorem r_ofFieldNow {n c nF f : Nat} {post : Int32 → Mem → Prop} {y : Int32} {τ : Mem} (hL : LV (tm n τ) nF n) (hc : c ≤ 12) (hf : f < nF) (hp : WQ τ post) : q_X8_ofFieldNow n c post (nI f) y τ := by
  have h5 := hL.1
  have hf5 : f < 5 := by omega
  have hv : vp_in (nI f) 5 := vin_j hf5 (by decide)
  unfold q_X8_ofFieldNow q_X8_ofFieldNow_92
  exact ⟨fun _ => r_changed hc hf5 hp, fun _ => ⟨hv, hp _ τ WE.rf⟩, fun _ => s_mayBe hL hf5 (hp _ _ put_we), fun _ => s_mayBe hL hf5 (s_bitCount (hp _ _ put_we)), fun _ => w_whatIs hL hf5 (fun r ρ hs => hp r ρ hs.we), fun _ => ⟨hv, hp _ τ WE.rf⟩, fun _ => w_isChosen hL (fun r ρ hw => ⟨fun _ => hp _ ρ hw, fun _ => ⟨hv, hp _ ρ hw⟩⟩)⟩
theorem r_ofField {n c : Nat} {post : Int32 → Mem → Prop} {x y : Int32} {τ : Mem} (h : RG n c τ) (hc : c ≤ 12) (hp : WQ τ post) : q_X8_ofField n c post x y τ := by
  unfold q_X8_ofField q_X8_ofField_43
  rintro _ rfl
  have w1 : WE τ (mst τ 0 0 0) := mst0_we (by omega)
  replace hp := hp.at w1
  replace h := w1.rg h
  generalize mst τ 0 0 0 = τ1 at h hp
  obtain ⟨⟨nF, hL⟩, -⟩ := h
  have h5 := hL.1
  refine s_X8_isField hL (fun r hr => ⟨fun q => s_X8_is (fun r2 _ => ⟨fun _ => r_refuse hp, fun _ => ?_⟩), fun _ => r_refuse hp⟩)
  obtain ⟨f, hf, rfl⟩ := vin_ex (by omega) (hr.t q)
  exact r_ofFieldNow hL hc hf hp
theorem r_ofLineNow {n c nF j : Nat} {post : Int32 → Mem → Prop} {y : Int32} {τ : Mem} (hL : LV (tm n τ) nF n) (hj : j < n) (hp : WQ τ post) : q_X8_ofLineNow n c post (nI j) y τ := by
  unfold q_X8_ofLineNow q_X8_ofLineNow_90
  exact ⟨j, ⟨hj, rfl⟩, fun _ => w_reasonFor hL (Or.inl rfl) (fun r ρ hs => hp _ ρ hs.we), fun _ => hp _ τ WE.rf, fun _ => hp _ τ WE.rf, fun _ => hp _ τ WE.rf, fun _ => hp _ τ WE.rf, fun _ => hp _ τ WE.rf, fun _ => s_X8_counts (n := n) (hL.ab hj) (fun r _ => ⟨fun _ => hp _ τ WE.rf, fun _ => hp _ τ WE.rf⟩)⟩
theorem r_ofLine {n c : Nat} {post : Int32 → Mem → Prop} {x y : Int32} {τ : Mem} (h : RG n c τ) (hp : WQ τ post) : q_X8_ofLine n c post x y τ := by
  unfold q_X8_ofLine q_X8_ofLine_43
  rintro _ rfl
  have w1 : WE τ (mst τ 0 0 0) := mst0_we (by omega)
  replace hp := hp.at w1
  replace h := w1.rg h
  generalize mst τ 0 0 0 = τ1 at h hp
  obtain ⟨⟨nF, hL⟩, -⟩ := h
  have h30 := hL.2.1
  refine s_X8_isLine h30 (fun r hr => ⟨fun q => s_X8_is (fun r2 _ => ⟨fun _ => r_refuse hp, fun _ => ?_⟩), fun _ => r_refuse hp⟩)
  obtain ⟨j, hj, rfl⟩ := vin_ex (by omega) (hr.t q)
  exact r_ofLineNow hL hj hp
theorem r_ofMachineNow {n c m : Nat} {post : Int32 → Mem → Prop} {y : Int32} {τ : Mem} (h : RG n c τ) (hc : c ≤ 12) (hm : m < 6) (hp : WQ τ post) : q_X8_ofMachineNow n c post (nI m) y τ := by
  obtain ⟨⟨nF, hL⟩, hF⟩ := h
  unfold q_X8_ofMachineNow q_X8_ofMachineNow_34
  exact ⟨fun _ => ⟨fun _ => r_drifting hL (hF m hm) hm hc (fun r => hp _ τ WE.rf), fun _ => r_drifting hL (hF m hm) hm hc (fun r => s_bitCount (hp _ τ WE.rf))⟩, fun _ => ⟨vin_j hm (by decide), hp _ τ WE.rf⟩⟩
theorem r_ofMachine {n c : Nat} {post : Int32 → Mem → Prop} {x y : Int32} {τ : Mem} (h : RG n c τ) (hc : c ≤ 12) (hp : WQ τ post) : q_X8_ofMachine n c post x y τ := by
  unfold q_X8_ofMachine q_X8_ofMachine_41
  rintro _ rfl
  have w1 : WE τ (mst τ 0 0 0) := mst0_we (by omega)
  replace hp := hp.at w1
  replace h := w1.rg h
  generalize mst τ 0 0 0 = τ1 at h hp
  refine s_X8_isMachine (fun r hr => ⟨fun q => s_X8_is (fun r2 _ => ⟨fun _ => r_refuse hp, fun _ => ?_⟩), fun _ => r_refuse hp⟩)
  obtain ⟨m, hm, rfl⟩ := vin_ex (by decide) (hr.t q)
  exact r_ofMachineNow h hc hm hp
theorem r_has {n c : Nat} {post : Int32 → Mem → Prop} {x y : Int32} {τ : Mem} (h : RG n c τ) (hp : WQ τ post) : q_X8_has n c post x y τ := by
  unfold q_X8_has q_X8_has_33 q_X8_has_38
  rintro _ rfl
  have w1 : WE τ (mst τ 0 0 0) := mst0_we (by omega)
  replace hp := hp.at w1
  replace h := w1.rg h
  generalize mst τ 0 0 0 = τ1 at h hp
  obtain ⟨⟨nF, hL⟩, -⟩ := h
  have h5 := hL.1
  refine s_X8_isMachine (fun r hr => ⟨fun _ => r_refuse hp, fun q => s_X8_isField hL (fun r2 hr2 => ⟨fun _ => r_refuse hp, fun q2 => ?_⟩)⟩)
  obtain ⟨m, hm, rfl⟩ := vin_ex (by decide) (hr.t q)
  obtain ⟨f, hf, rfl⟩ := vin_ex (by omega) (hr2.t q2)
  exact ⟨(ix30 hm (by omega)).1, hp _ _ WE.rf⟩
theorem r_ofCommit {n c : Nat} {post : Int32 → Mem → Prop} {x y : Int32} {τ : Mem} (h : RG n c τ) (hc : c ≤ 12) (hp : WQ τ post) : q_X8_ofCommit n c post x y τ := by
  unfold q_X8_ofCommit q_X8_ofCommit_46 q_X8_ofCommit_51
  rintro _ rfl
  have w1 : WE τ (mst τ 0 0 0) := mst0_we (by omega)
  replace hp := hp.at w1
  replace h := w1.rg h
  generalize mst τ 0 0 0 = τ1 at h hp
  obtain ⟨⟨nF, hL⟩, -⟩ := h
  have h5 := hL.1
  refine s_X8_is (fun r hr => ⟨fun _ => r_refuse hp, fun q => s_X8_isField hL (fun r2 hr2 => ⟨fun _ => r_refuse hp, fun q2 => ?_⟩)⟩)
  obtain ⟨k, hk, rfl⟩ := vin_ex (by omega) ((cm_vin hc hr).t q)
  exact ⟨k, ⟨hk, rfl⟩, vin_mono (hr2.t q2) h5, hp _ _ WE.rf⟩
theorem r_reason {n c : Nat} {post : Int32 → Mem → Prop} {x : Int32} {τ : Mem} (h : RG n c τ) (hp : WQ τ post) : q_X8_reason n c post x τ := by
  unfold q_X8_reason q_X8_reason_18 q_X8_reason_31
  rintro _ rfl
  have w1 : WE τ (mst τ 0 0 0) := mst0_we (by omega)
  replace hp := hp.at w1
  replace h := w1.rg h
  generalize mst τ 0 0 0 = τ1 at h hp
  obtain ⟨⟨nF, hL⟩, -⟩ := h
  have h5 := hL.1
  exact ⟨fun q => w_reasonFor hL (Or.inl q) (fun r ρ hs => hp r ρ hs.we), fun _ => s_X8_isField hL (fun r hr => ⟨fun _ => r_refuse hp, fun q => w_reasonFor hL (Or.inr (vin_mono (hr.t q) h5)) (fun r ρ hs => hp r ρ hs.we)⟩)⟩
theorem r_met {n c : Nat} {post : Int32 → Mem → Prop} {x y : Int32} {τ : Mem} (h : RG n c τ) (hp : WQ τ post) : q_X8_met n c post x y τ := by
  unfold q_X8_met q_X8_met_35
  rintro _ rfl
  have w1 : WE τ (mst τ 0 0 0) := mst0_we (by omega)
  replace hp := hp.at w1
  replace h := w1.rg h
  generalize mst τ 0 0 0 = τ1 at h hp
  obtain ⟨⟨nF, hL⟩, -⟩ := h
  have h5 := hL.1
  refine s_X8_isField hL (fun r hr => ⟨fun q => ⟨fun _ => r_refuse hp, fun _ => ⟨fun _ => s_meetAnew (d := 0) hL (by decide) ?_, fun _ => r_refuse hp⟩⟩, fun _ => r_refuse hp⟩)
  obtain ⟨f, hf, rfl, -⟩ := vin_idx (vin_mono (hr.t q) h5)
  exact s_setOf (d := 0) (by decide) hf (hp _ _ put_we)
theorem r_choices {n c : Nat} {post : Int32 → Mem → Prop} {x y : Int32} {τ : Mem} (h : RG n c τ) (hp : WQ τ post) : q_X8_choices n c post x y τ := by
  unfold q_X8_choices q_X8_choices_72
  rintro _ rfl
  have w1 : WE τ (mst τ 0 0 0) := mst0_we (by omega)
  replace hp := hp.at w1
  replace h := w1.rg h
  generalize mst τ 0 0 0 = τ1 at h hp
  obtain ⟨⟨nF, hL⟩, -⟩ := h
  have h5 := hL.1
  refine s_X8_isField hL (fun r hr => ⟨fun q => s_X8_is (fun r2 _ => ⟨fun _ => ?_, fun _ => r_refuse hp⟩), fun _ => r_refuse hp⟩)
  obtain ⟨f, hf, rfl, -⟩ := vin_idx (vin_mono (hr.t q) h5)
  refine s_counting hL (s_begin8 (d := 1) (by decide) (s_only (d := 1) (by decide) hf ?_))
  rw [row_put full_RW, put_put]
  have hm2 := upd_RW (f := f) full_RW hf (and_s8 (b := (1 : Int32) <<< (y &&& 31)) (full_RW.2 f))
  generalize upd full f (full f &&& ((1 : Int32) <<< (y &&& 31))) = m2 at hm2
  refine s_meet (d := 1) (put_we.lv hL) (by decide) (by rw [row_put hm2]; exact hm2) ?_
  rw [row_put hm2, put_put, put_te.etm]
  have hm3 := mt_RW (set := stF (tm n τ1) n 0 0) hL hm2
  generalize mtF (tm n τ1) (stF (tm n τ1) n 0 0) nF n m2 = m3 at hm3
  have w2 : WE τ1 (put 1 m3 τ1) := put_we
  exact ⟨fun _ => w_countFrom 6 1 _ _ _ (w2.lv hL) (by decide) (by omega) (by decide) (by rw [row_put hm3]; exact hm3) (fun r ρ hw _ => hp r ρ (w2.trans hw)), fun _ => hp _ _ w2⟩
theorem r_isNarrower {n c : Nat} {post : Int32 → Mem → Prop} {x y : Int32} {τ : Mem} (h : RG n c τ) (hp : WQ τ post) : q_X8_isNarrower n c post x y τ := by
  obtain ⟨⟨nF, hL⟩, -⟩ := h
  have h5 := hL.1
  unfold q_X8_isNarrower q_X8_isNarrower_21 q_X8_isNarrower_22 q_X8_isNarrower_52 q_X8_isNarrower_53
  have no : ∀ K : Mem → Prop, (∀ σ2001 : Mem, σ2001 = mst τ 0 0 1 → (((σ2001 0 0) ≠ 0 → (bz 0 ∧ post 0 σ2001)) ∧ ((σ2001 0 0) = 0 → K σ2001))) := fun K => by
    rintro _ rfl
    rw [mst_eq, upd_eq]
    exact ⟨fun _ => ⟨bz0, hp _ _ (mst0_we (by omega))⟩, fun z => absurd z (by decide)⟩
  refine s_X8_isField hL (fun r hr => ⟨fun _ => no _, fun q => s_X8_isField hL (fun r2 hr2 => ⟨fun _ => no _, fun q2 => ?_⟩)⟩)
  obtain ⟨f, hf, rfl, -⟩ := vin_idx (vin_mono (hr.t q) h5)
  obtain ⟨e, he, rfl, -⟩ := vin_idx (vin_mono (hr2.t q2) h5)
  rintro _ rfl
  have w1 : WE τ (mst τ 0 0 0) := mst0_we (by omega)
  refine ⟨fun _ => ⟨bz0, hp _ _ w1⟩, fun _ => s_mayBe (w1.lv hL) hf (s_mayBe ((w1.trans put_we).lv hL) he ⟨fun _ => ⟨bz0, hp _ _ ((w1.trans put_we).trans put_we)⟩, fun _ => ⟨bz1, hp _ _ ((w1.trans put_we).trans put_we)⟩⟩)⟩
theorem r_houseNow {n c : Nat} {post : Int32 → Mem → Prop} {x : Int32} {τ : Mem} (h : RG n c τ) (hc : c ≤ 12) (hp : WQ τ post) : q_X8_houseNow n c post x τ := by
  obtain ⟨⟨nF, hL⟩, hF⟩ := h
  have h5 := hL.1
  have h30 := hL.2.1
  have p0 : ∀ r : Int32, post r τ := fun r => hp r τ WE.rf
  unfold q_X8_houseNow
  refine ⟨fun _ => p0 _, fun _ => p0 _, fun _ => p0 _, fun _ => fun wi => ?_, fun _ => ?_, fun _ => ?_, fun _ => p0 _, fun _ => ?_, fun _ => ?_⟩
  · have key : ∀ (d j : Nat) (x2 w1 : Int32), j + d = n → lp_6 (q_X8_houseNow_69 n c post (q_X8_houseNow_109 n c post)) (d + 1) x2 wi (nI j) w1 (τ 3 0) τ := by
      intro d
      induction d with
      | zero =>
        intro j x2 w1 hj
        show q_X8_houseNow_69 _ _ _ _ _ _ _ _ _ _ _
        unfold q_X8_houseNow_69 q_X8_houseNow_109
        refine ⟨j, ⟨by omega, rfl⟩, ?_⟩
        rintro _ rfl
        exact ⟨fun _ => p0 _, fun z => absurd (if_neg (by omega)) z⟩
      | succ d ih =>
        intro j x2 w1 hj
        show q_X8_houseNow_69 _ _ _ _ _ _ _ _ _ _ _
        unfold q_X8_houseNow_69 q_X8_houseNow_104 q_X8_houseNow_109
        refine ⟨j, ⟨by omega, rfl⟩, ?_⟩
        rintro _ rfl
        refine ⟨fun _ => p0 _, fun _ => ⟨j, ⟨by omega, rfl, rfl⟩, ?_⟩⟩
        rintro _ rfl _ rfl
        refine s_X8_counts (n := n) (hL.ab (by omega)) (fun r _ => ⟨fun _ => ?_, fun _ => ?_⟩)
        · rintro _ rfl
          exact ih (j + 1) _ _ (by omega)
        · rintro _ rfl
          exact ih (j + 1) _ _ (by omega)
    exact ⟨n + 1, key n 0 0 _ (Nat.zero_add _)⟩
  · unfold q_X8_houseNow_123
    exact s_isContradiction hL ⟨fun _ => hp _ _ put_we, fun _ => hp _ _ put_we⟩
  · refine w_settle hL (fun ρ hs _ => ?_)
    have key : ∀ (d f : Nat) (x2 : Int32), f + d = nF → lp_3 (q_X8_houseNow_130 n c post (q_X8_houseNow_162 n c post)) (d + 1) x2 (nI f) ρ := by
      intro d
      induction d with
      | zero =>
        intro f x2 hf
        show q_X8_houseNow_130 _ _ _ _ _ _ _ _
        unfold q_X8_houseNow_130 q_X8_houseNow_162
        rw [nfm (hs.lv hL)]
        exact ⟨fun _ => hp _ ρ hs.we, fun q => absurd (nI_le (by omega) (by omega)) q⟩
      | succ d ih =>
        intro f x2 hf
        show q_X8_houseNow_130 _ _ _ _ _ _ _ _
        unfold q_X8_houseNow_130 q_X8_houseNow_154
        rw [nfm (hs.lv hL)]
        refine ⟨fun q => absurd ((nI_leI (by omega) (by omega)).mp q) (by omega), fun _ => s_X8_count (d := 0) (by decide) (by omega) ⟨fun _ => ?_, fun _ => ?_⟩⟩
        · rintro _ rfl _ rfl
          rw [nI_1]
          exact ih (f + 1) _ (by omega)
        · rintro _ rfl _ rfl
          rw [nI_1]
          exact ih (f + 1) _ (by omega)
    exact ⟨nF + 1, key nF 0 0 (Nat.zero_add _)⟩
  · have key : ∀ (d m : Nat) (x2 : Int32), m + d = 6 → lp_3 (q_X8_houseNow_174 n c post (q_X8_houseNow_202 n c post)) (d + 1) x2 (nI m) τ := by
      intro d
      induction d with
      | zero =>
        intro m x2 hm
        show q_X8_houseNow_174 _ _ _ _ _ _ _ _
        unfold q_X8_houseNow_174 q_X8_houseNow_202
        rw [show m = 6 by omega]
        exact ⟨fun _ => p0 _, fun z => absurd (by decide) z⟩
      | succ d ih =>
        intro m x2 hm
        show q_X8_houseNow_174 _ _ _ _ _ _ _ _
        unfold q_X8_houseNow_174 q_X8_houseNow_194
        refine ⟨fun z => absurd ((nI_leI (a := 6) (b := m) (by decide) (by omega)).mp z) (by omega), fun _ => r_drifting hL (hF m (by omega)) (by omega) hc (fun r => ⟨fun _ => ?_, fun _ => ?_⟩)⟩
        · rintro _ rfl _ rfl
          rw [nI_1]
          exact ih (m + 1) _ (by omega)
        · rintro _ rfl _ rfl
          rw [nI_1]
          exact ih (m + 1) _ (by omega)
    exact ⟨7, key 6 0 0 rfl⟩
  · unfold q_X8_houseNow_219
    exact w_isChosen hL (fun r ρ hw => ⟨fun _ => hp _ ρ hw, fun _ => hp _ ρ hw⟩)
theorem r_house {n c : Nat} {post : Int32 → Mem → Prop} {x : Int32} {τ : Mem} (h : RG n c τ) (hc : c ≤ 12) (hp : WQ τ post) : q_X8_house n c post x τ := by
  unfold q_X8_house q_X8_house_28
  rintro _ rfl
  have w1 : WE τ (mst τ 0 0 0) := mst0_we (by omega)
  replace hp := hp.at w1
  replace h := w1.rg h
  exact s_X8_is (fun r _ => ⟨fun _ => r_refuse hp, fun _ => r_houseNow h hc hp⟩)
