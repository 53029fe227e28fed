/-! THE CLASS: sound and digest: that they end, and leave all but the trial as it was -/
theorem w_isSound {post : Int32 → Mem → Prop} {σ : Mem} {nF nL nC : Nat} (h : CI σ nF nL nC) (hp : ∀ (r : Int32) (τ : Mem), AE σ τ → post r τ) : q_X5_isSound post σ := by
  have hL := h.lv
  have h5 := hL.1
  have h30 := hL.2.1
  have hb : bz (σ 14 2) := h.2.2.2.2.1
  have p0 : ∀ r : Int32, post r σ := fun r => hp r σ (AE.rf hb)
  have e170 : q_X5_isSound_170 post σ := by
    unfold q_X5_isSound_170
    refine ⟨fun _ => s_reasonOf hL ?_, fun _ => p0 1⟩
    have ha := rsF_ae (nF := nF) (nL := nL) (x := -1) hb
    refine s_begin (by decide) (by decide) (by decide) (ha.lv hL) ?_
    exact ⟨bgM_bz, hp _ _ (ha.trans bgM_ae)⟩
  have e130 : q_X5_isSound_130 post σ := by
    unfold q_X5_isSound_130
    have key : ∀ (d m : Nat), m + d = 6 → lp_2 (q_X5_isSound_132 post (q_X5_isSound_162 post) (q_X5_isSound_170 post)) (d + 1) (nI m) σ := by
      intro d
      induction d with
      | zero =>
        intro m hm
        show q_X5_isSound_132 _ _ _ _ _ _
        unfold q_X5_isSound_132
        rw [show m = 6 by omega]
        exact ⟨fun _ => e170, fun z => absurd (by decide) z⟩
      | succ d ih =>
        intro m hm
        show q_X5_isSound_132 _ _ _ _ _ _
        unfold q_X5_isSound_132 q_X5_isSound_164 q_X5_isSound_162
        refine ⟨fun z => absurd ((nI_leI (a := 6) (b := m) (by decide) (by omega)).mp z) (by omega), fun _ => ⟨vin_j (by omega) (by decide), fun _ => ?_, fun _ => s_drifting h.2.1 h.nc (by omega) ⟨fun _ => ?_, fun _ => p0 0⟩⟩⟩
        · rintro _ rfl
          rw [nI_1]
          exact ih (m + 1) (by omega)
        · rintro _ rfl
          rw [nI_1]
          exact ih (m + 1) (by omega)
    exact ⟨7, key 6 0 rfl⟩
  have e86 : q_X5_isSound_86 post σ := by
    unfold q_X5_isSound_86
    have key : ∀ (d j : Nat), j + d = nL → lp_2 (q_X5_isSound_88 post (q_X5_isSound_122 post) (q_X5_isSound_130 post)) (d + 1) (nI j) σ := by
      intro d
      induction d with
      | zero =>
        intro j hj
        show q_X5_isSound_88 _ _ _ _ _ _
        unfold q_X5_isSound_88
        rw [hL.nl]
        exact ⟨fun _ => e130, fun q => absurd (nI_le (by omega) (by omega)) q⟩
      | succ d ih =>
        intro j hj
        show q_X5_isSound_88 _ _ _ _ _ _
        unfold q_X5_isSound_88 q_X5_isSound_124 q_X5_isSound_122
        rw [hL.nl]
        refine ⟨fun q => absurd ((nI_leI (by omega) (by omega)).mp q) (by omega), fun _ => ⟨vin_j (by omega) (by decide), fun _ => ?_, fun _ => s_counts (by omega) (hL.ab (by omega)) (fun r hr => ⟨fun _ => ?_, fun _ => p0 0⟩)⟩⟩
        · rintro _ rfl
          rw [nI_1]
          exact ih (j + 1) (by omega)
        · rintro _ rfl
          rw [nI_1]
          exact ih (j + 1) (by omega)
    exact ⟨nL + 1, key nL 0 (Nat.zero_add _)⟩
  unfold q_X5_isSound
  have key : ∀ (d f : Nat), f + d = nF → lp_2 (q_X5_isSound_2 post (q_X5_isSound_78 post) (q_X5_isSound_86 post)) (d + 1) (nI f) σ := by
    intro d
    induction d with
    | zero =>
      intro f hf
      show q_X5_isSound_2 _ _ _ _ _ _
      unfold q_X5_isSound_2
      rw [hL.nf]
      exact ⟨fun _ => e86, fun q => absurd (nI_le (by omega) (by omega)) q⟩
    | succ d ih =>
      intro f hf
      show q_X5_isSound_2 _ _ _ _ _ _
      have hv : vp_in (nI f) 5 := vin_j (by omega) (by decide)
      have nx : q_X5_isSound_80 post (q_X5_isSound_78 post) (q_X5_isSound_86 post) (lp_2 (q_X5_isSound_2 post (q_X5_isSound_78 post) (q_X5_isSound_86 post)) (d + 1)) (nI f) σ := by
        unfold q_X5_isSound_80
        rintro _ rfl
        rw [nI_1]
        exact ih (f + 1) (by omega)
      have n63 : ∀ x2 x4 : Int32, q_X5_isSound_63 post (q_X5_isSound_78 post) (q_X5_isSound_86 post) (lp_2 (q_X5_isSound_2 post (q_X5_isSound_78 post) (q_X5_isSound_86 post)) (d + 1)) (nI f) x2 x4 σ := fun x2 x4 => by
        unfold q_X5_isSound_63
        exact ⟨fun _ => nx, fun _ => s_contains (fun r hr => ⟨fun _ => nx, fun _ => p0 0⟩)⟩
      unfold q_X5_isSound_2
      rw [hL.nf]
      refine ⟨fun q => absurd ((nI_leI (by omega) (by omega)).mp q) (by omega), fun _ => ⟨hv, ?_⟩⟩
      rintro _ rfl
      refine ⟨hv, ?_⟩
      rintro _ rfl
      refine ⟨hv, ?_⟩
      rintro _ rfl
      exact ⟨fun _ => n63 _ _, fun _ => s_contains (fun r hr => ⟨fun _ => p0 0, fun _ => n63 _ _⟩)⟩
  exact ⟨nF + 1, key nF 0 (Nat.zero_add _)⟩
theorem w_sumOfCommits {post : Int64 → Mem → Prop} {σ : Mem} {nF nL nC : Nat} {x : Int64} (h : CI σ nF nL nC) (hp : ∀ r : Int64, post r σ) : q_X5_sumOfCommits post x σ := by
  have hL := h.lv
  have h5 := hL.1
  have h12 := h.2.1
  unfold q_X5_sumOfCommits
  have key : ∀ (d c : Nat) (x : Int64), c + d = nC → lp_3 (q_X5_sumOfCommits_5 post (q_X5_sumOfCommits_60 post)) (d + 1) x (nI c) σ := by
    intro d
    induction d with
    | zero =>
      intro c x hc
      show q_X5_sumOfCommits_5 _ _ _ _ _ _
      unfold q_X5_sumOfCommits_5 q_X5_sumOfCommits_60
      rw [h.nc]
      exact ⟨fun _ => hp x, fun q => absurd (nI_le (by omega) (by omega)) q⟩
    | succ d ih =>
      intro c x hc
      show q_X5_sumOfCommits_5 _ _ _ _ _ _
      unfold q_X5_sumOfCommits_5
      rw [h.nc]
      refine ⟨fun q => absurd ((nI_leI (by omega) (by omega)).mp q) (by omega), fun _ => ?_⟩
      have inner : ∀ (d2 f : Nat) (x : Int64), f + d2 = nF → lp_4 (q_X5_sumOfCommits_20 post (q_X5_sumOfCommits_54 post (q_X5_sumOfCommits_60 post) (lp_3 (q_X5_sumOfCommits_5 post (q_X5_sumOfCommits_60 post)) (d + 1)))) (d2 + 1) x (nI c) (nI f) σ := by
        intro d2
        induction d2 with
        | zero =>
          intro f x hf
          show q_X5_sumOfCommits_20 _ _ _ _ _ _ _
          unfold q_X5_sumOfCommits_20 q_X5_sumOfCommits_54
          rw [hL.nf]
          refine ⟨fun _ => ?_, fun q => absurd (nI_le (by omega) (by omega)) q⟩
          rintro _ rfl
          rw [nI_1]
          exact ih (c + 1) x (by omega)
        | succ d2 ih2 =>
          intro f x hf
          show q_X5_sumOfCommits_20 _ _ _ _ _ _ _
          unfold q_X5_sumOfCommits_20
          rw [hL.nf]
          refine ⟨fun q => absurd ((nI_leI (by omega) (by omega)).mp q) (by omega), fun _ => s_X5_ofCommit h (fun z => z ⟨vin_j (by omega) (by omega), vin_j (by omega) (by omega)⟩) (fun c2 f2 _ _ _ _ => ?_)⟩
          rintro _ rfl _ rfl
          rw [nI_1]
          exact ih2 (f + 1) _ (by omega)
      exact ⟨nF + 1, inner nF 0 x (Nat.zero_add _)⟩
  exact ⟨nC + 1, key nC 0 x (Nat.zero_add _)⟩
theorem w_sumOfMachines {post : Int64 → Mem → Prop} {σ : Mem} {nF nL nC : Nat} {x : Int64} (h : CI σ nF nL nC) (hp : ∀ r : Int64, post r σ) : q_X5_sumOfMachines post x σ := by
  have hL := h.lv
  have h5 := hL.1
  unfold q_X5_sumOfMachines
  have key : ∀ (d m : Nat) (x : Int64), m + d = 6 → lp_3 (q_X5_sumOfMachines_5 post (q_X5_sumOfMachines_86 post)) (d + 1) x (nI m) σ := by
    intro d
    induction d with
    | zero =>
      intro m x hm
      show q_X5_sumOfMachines_5 _ _ _ _ _ _
      unfold q_X5_sumOfMachines_5 q_X5_sumOfMachines_86
      rw [show m = 6 by omega]
      exact ⟨fun _ => hp x, fun z => absurd (by decide) z⟩
    | succ d ih =>
      intro m x hm
      show q_X5_sumOfMachines_5 _ _ _ _ _ _
      unfold q_X5_sumOfMachines_5
      refine ⟨fun z => absurd ((nI_leI (a := 6) (b := m) (by decide) (by omega)).mp z) (by omega), fun _ => ?_⟩
      have inner : ∀ (d2 f : Nat) (x : Int64), f + d2 = nF → lp_4 (q_X5_sumOfMachines_46 post (q_X5_sumOfMachines_80 post (q_X5_sumOfMachines_86 post) (lp_3 (q_X5_sumOfMachines_5 post (q_X5_sumOfMachines_86 post)) (d + 1)))) (d2 + 1) x (nI m) (nI f) σ := by
        intro d2
        induction d2 with
        | zero =>
          intro f x hf
          show q_X5_sumOfMachines_46 _ _ _ _ _ _ _
          unfold q_X5_sumOfMachines_46 q_X5_sumOfMachines_80
          rw [hL.nf]
          refine ⟨fun _ => ?_, fun q => absurd (nI_le (by omega) (by omega)) q⟩
          rintro _ rfl
          rw [nI_1]
          exact ih (m + 1) x (by omega)
        | succ d2 ih2 =>
          intro f x hf
          show q_X5_sumOfMachines_46 _ _ _ _ _ _ _
          unfold q_X5_sumOfMachines_46
          rw [hL.nf]
          refine ⟨fun q => absurd ((nI_leI (by omega) (by omega)).mp q) (by omega), fun _ => s_X5_has h (fun z => z ⟨vin_j (by omega) (by omega), vin_j (by omega) (by omega)⟩) (fun m2 f2 _ _ _ _ => ?_)⟩
          rintro _ rfl _ rfl
          rw [nI_1]
          exact ih2 (f + 1) _ (by omega)
      have in2 : ∀ (d2 w : Nat) (x : Int64), w + d2 = 3 → lp_4 (q_X5_sumOfMachines_15 post (q_X5_sumOfMachines_43 post (q_X5_sumOfMachines_86 post) (lp_3 (q_X5_sumOfMachines_5 post (q_X5_sumOfMachines_86 post)) (d + 1)))) (d2 + 1) x (nI m) (nI w) σ := by
        intro d2
        induction d2 with
        | zero =>
          intro w x hw
          show q_X5_sumOfMachines_15 _ _ _ _ _ _ _
          unfold q_X5_sumOfMachines_15 q_X5_sumOfMachines_43
          rw [show w = 3 by omega]
          exact ⟨fun _ => ⟨nF + 1, inner nF 0 x (Nat.zero_add _)⟩, fun z => absurd (by decide) z⟩
        | succ d2 ih2 =>
          intro w x hw
          show q_X5_sumOfMachines_15 _ _ _ _ _ _ _
          unfold q_X5_sumOfMachines_15
          refine ⟨fun z => absurd ((lt_nI (a := 2) (n := w) (by decide) (by omega)).mp z) (by omega), fun _ => s_X5_ofMachine h (fun z => z (vin_j (by omega) (by omega))) (fun _ z => ?_) (fun m2 _ _ w2 _ _ => ?_)⟩
          · exfalso
            unfold sw_out at z
            rw [nI_toInt (by omega)] at z
            omega
          · rintro _ rfl _ rfl
            rw [nI_1]
            exact ih2 (w + 1) _ (by omega)
      exact ⟨4, in2 3 0 x rfl⟩
  exact ⟨7, key 6 0 x rfl⟩
theorem sw_no {w n : Nat} (h : w < n) (hn : n < 2 ^ 30) : ¬ sw_out (nI w) n := fun z => by
  unfold sw_out at z
  rw [nI_toInt (by omega)] at z
  omega
theorem w_digest {post : Int64 → Mem → Prop} {σ : Mem} {nF nL nC : Nat} (h : CI σ nF nL nC) (hp : ∀ (r : Int64) (τ : Mem), AE σ τ → post r τ) : q_X5_digest post σ := by
  have hL := h.lv
  have h5 := hL.1
  have h30 := hL.2.1
  have hb : bz (σ 14 2) := h.2.2.2.2.1
  have e140 : ∀ (x : Int64) (τ : Mem), AE σ τ → q_X5_digest_140 post x τ := fun x τ ha => by
    have hI := ha.ci h
    unfold q_X5_digest_140 q_X5_digest_167
    refine w_sumOfMachines hI (fun r1 => w_sumOfCommits hI (fun r2 => w_isSound hI (fun r3 ρ ha2 => ⟨fun _ => hp _ _ (ha.trans ha2), fun _ => hp _ _ (ha.trans ha2)⟩)))
  have k109 : ∀ (d j : Nat) (x : Int64) (τ : Mem), j + d = nL → AE σ τ → lp_3 (q_X5_digest_109 post (q_X5_digest_140 post)) (d + 1) x (nI j) τ := by
    intro d
    induction d with
    | zero =>
      intro j x τ hj ha
      show q_X5_digest_109 _ _ _ _ _ _
      unfold q_X5_digest_109
      rw [(ha.lv hL).nl]
      exact ⟨fun _ => e140 x τ ha, fun q => absurd (nI_le (by omega) (by omega)) q⟩
    | succ d ih =>
      intro j x τ hj ha
      show q_X5_digest_109 _ _ _ _ _ _
      unfold q_X5_digest_109
      rw [(ha.lv hL).nl]
      refine ⟨fun q => absurd ((nI_leI (by omega) (by omega)).mp q) (by omega), fun _ => s_X5_ofLine (ha.ci h) (fun z => z (vin_j (by omega) (by omega))) (fun _ z => sw_no (w := 5) (n := 7) (by decide) (by decide) z) (fun j2 _ _ w2 hw2 e2 => ?_)⟩
      have : w2 = 5 := (nI_inj (by decide) (by omega) (show nI 5 = nI w2 from e2)).symm
      subst this
      rintro _ rfl _ rfl
      rw [nI_1, if_neg (by decide)]
      exact ih (j + 1) _ τ (by omega) ha
  have e94 : ∀ (x : Int64) (τ : Mem), AE σ τ → q_X5_digest_94 post x τ := fun x τ ha => by
    unfold q_X5_digest_94
    refine s_X5_reason (ha.ci h) (fun z => z (Or.inl rfl)) (fun _ => ?_)
    rintro _ rfl
    exact ⟨nL + 1, k109 nL 0 _ _ (Nat.zero_add _) (ha.trans (rsF_ae ha.2))⟩
  have k33 : ∀ (d f : Nat) (x : Int64) (τ : Mem), f + d = nF → AE σ τ → lp_3 (q_X5_digest_33 post (q_X5_digest_94 post)) (d + 1) x (nI f) τ := by
    intro d
    induction d with
    | zero =>
      intro f x τ hf ha
      show q_X5_digest_33 _ _ _ _ _ _
      unfold q_X5_digest_33
      rw [(ha.lv hL).nf]
      exact ⟨fun _ => e94 x τ ha, fun q => absurd (nI_le (by omega) (by omega)) q⟩
    | succ d ih =>
      intro f x τ hf ha
      show q_X5_digest_33 _ _ _ _ _ _
      unfold q_X5_digest_33
      rw [(ha.lv hL).nf]
      refine ⟨fun q => absurd ((nI_leI (by omega) (by omega)).mp q) (by omega), fun _ => ?_⟩
      have in2 : ∀ (d2 w : Nat) (x : Int64), w + d2 = 7 → lp_4 (q_X5_digest_47 post (q_X5_digest_75 post (q_X5_digest_94 post) (lp_3 (q_X5_digest_33 post (q_X5_digest_94 post)) (d + 1)))) (d2 + 1) x (nI f) (nI w) τ := by
        intro d2
        induction d2 with
        | zero =>
          intro w x hw
          show q_X5_digest_47 _ _ _ _ _ _ _
          unfold q_X5_digest_47 q_X5_digest_75
          rw [show w = 7 by omega]
          refine ⟨fun _ => s_X5_reason (ha.ci h) (fun z => z (Or.inr (vin_j (by omega) (by omega)))) (fun _ => ?_), fun z => absurd (by decide) z⟩
          rintro _ rfl _ rfl
          rw [nI_1]
          exact ih (f + 1) _ _ (by omega) (ha.trans (rsF_ae ha.2))
        | succ d2 ih2 =>
          intro w x hw
          show q_X5_digest_47 _ _ _ _ _ _ _
          unfold q_X5_digest_47
          refine ⟨fun z => absurd ((lt_nI (a := 6) (n := w) (by decide) (by omega)).mp z) (by omega), fun _ => s_X5_ofField (ha.ci h) (fun z => z (vin_j (by omega) (by omega))) (fun _ z => sw_no (w := w) (n := 7) (by omega) (by decide) z) (fun f2 _ _ w2 _ _ => ?_)⟩
          rintro _ rfl _ rfl
          rw [nI_1]
          exact ih2 (w + 1) _ (by omega)
      exact ⟨8, in2 7 0 x rfl⟩
  have e31 : ∀ (x : Int64), q_X5_digest_31 post x σ := fun x => by
    unfold q_X5_digest_31
    exact ⟨nF + 1, k33 nF 0 x σ (Nat.zero_add _) (AE.rf hb)⟩
  unfold q_X5_digest
  have key : ∀ (d w : Nat) (x : Int64), w + d = 9 → lp_3 (q_X5_digest_6 post (q_X5_digest_31 post)) (d + 1) x (nI w) σ := by
    intro d
    induction d with
    | zero =>
      intro w x hw
      show q_X5_digest_6 _ _ _ _ _ _
      unfold q_X5_digest_6
      rw [show w = 9 by omega]
      exact ⟨fun _ => e31 x, fun z => absurd (by decide) z⟩
    | succ d ih =>
      intro w x hw
      show q_X5_digest_6 _ _ _ _ _ _
      unfold q_X5_digest_6
      refine ⟨fun z => absurd ((lt_nI (a := 8) (n := w) (by decide) (by omega)).mp z) (by omega), fun _ => s_X5_house h (fun z => sw_no (w := w) (n := 9) (by omega) (by decide) z) (fun w2 _ _ => ?_)⟩
      rintro _ rfl _ rfl
      rw [nI_1]
      exact ih (w + 1) _ (by omega)
  exact ⟨10, key 9 0 7703 rfl⟩
