/-! THE REFERENCE: lines and commits told -/
abbrev GP : Type := Int32 → (Nat → Nat) → (Nat → Nat) → Mem → Prop
/-- what a telling may leave -/
def GR (ad g : Nat → Nat) (τ : Mem) (post : GP) : Prop := ∀ (r : Int32) (ad' g' : Nat → Nat) (ρ : Mem), ad' 0 = ad 0 → gk g' → RG (g' 0) (g' 2) ρ → ρ 0 8 = τ 0 8 → post r ad' g' ρ
theorem r_tell {ad g : Nat → Nat} {post : GP} {kd by_ ab sd bs ok : Int32} {τ : Mem} (hk : gk g) (h : RG (g 0) (g 2) τ)
    (hl : ¬ ok = 0 → vp_in kd 6 ∧ (kd = 0 → sd &&& 255 = sd) ∧ ((kd = 1 ∨ kd = 2 ∨ kd = 5) → vp_in sd 8) ∧ (kd = 5 → vp_in bs 10)) (hp : GR ad g τ post) : q_X8_tell ad g post kd by_ ab sd bs ok τ := by
  have h12 : g 2 ≤ 12 := hk.1.2.2.2.1
  have h30 : g 0 ≤ 30 := hk.1.2.2.1
  unfold q_X8_tell
  rintro _ rfl
  have w1 : WE τ (mst τ 0 0 0) := mst0_we (by omega)
  generalize mst τ 0 0 0 = τ1 at w1
  have hR : ∀ (r : Int32) (ρ : Mem), WE τ1 ρ → post r ad g ρ := fun r ρ w => hp r ad g ρ rfl hk ((w1.trans w).rg h) ((w1.trans w).1 8 (by omega))
  have hg := w1.rg h
  have e8 : τ1 0 8 = τ 0 8 := w1.1 8 (by omega)
  obtain ⟨⟨nF, hL⟩, hF⟩ := id hg
  have h5 := hL.1
  have e81 : vp_in ab nF → ((kd = 3 ∨ kd = 4) → vp_in sd nF ∧ ¬ sd = ab) → ¬ ok = 0 → q_X8_tell_81 ad g post kd by_ ab sd bs τ1 := fun ha ht ho => by
    obtain ⟨k6, k0, k1, k5⟩ := hl ho
    unfold q_X8_tell_81
    refine ⟨fun q => ?_, fun _ => r_refuse hR⟩
    have hlt : g 0 < 30 := by
      rcases Nat.lt_or_ge (g 0) 30 with z | z
      · exact z
      · exact absurd (by rw [show g 0 = 30 by omega]; rfl) q
    refine ⟨hlt, ?_⟩
    rintro ad1 g1 _ e1 gk1 e2 e3 rfl
    refine hp _ _ _ _ e1 gk1 ?_ ?_
    · rw [e2, e3]
      refine ⟨⟨nF, h5, by omega, ?_, rfl, fun j hj => ?_⟩, fun m hm => fl_56 (hF m hm) ?_ ?_ (fun k hk2 => ?_)⟩
      · show mup (mst τ1 3 0 _) (100 + g 0) _ 0 3 = nI nF
        rw [mup_ne (by omega), mst_ne (by decide)]; exact nfm hL
      · by_cases e : j = g 0
        · have ee : ∀ i : Nat, mup (mst τ1 3 0 (τ1 3 0 + 1)) (100 + g 0) (lnR kd by_ ab sd bs 0 0) (100 + j) i = lnR kd by_ ab sd bs 0 0 i := fun i => by rw [e, mup_eq]
          show vp_in (mup _ _ _ (100 + j) 2) nF ∧ vp_in (mup _ _ _ (100 + j) 0) 6 ∧ ((mup _ _ _ (100 + j) 0 = 3 ∨ mup _ _ _ (100 + j) 0 = 4) → vp_in (mup _ _ _ (100 + j) 3) nF ∧ ¬ mup _ _ _ (100 + j) 3 = mup _ _ _ (100 + j) 2) ∧ (mup _ _ _ (100 + j) 0 = 0 → mup _ _ _ (100 + j) 3 &&& 255 = mup _ _ _ (100 + j) 3) ∧ ((mup _ _ _ (100 + j) 0 = 1 ∨ mup _ _ _ (100 + j) 0 = 2 ∨ mup _ _ _ (100 + j) 0 = 5) → vp_in (mup _ _ _ (100 + j) 3) 8) ∧ (mup _ _ _ (100 + j) 0 = 5 → vp_in (mup _ _ _ (100 + j) 4) 10)
          rw [ee 0, ee 2, ee 3, ee 4]
          exact ⟨ha, k6, ht, k0, k1, k5⟩
        · have ee : mup (mst τ1 3 0 (τ1 3 0 + 1)) (100 + g 0) (lnR kd by_ ab sd bs 0 0) (100 + j) = τ1 (100 + j) := by rw [mup_ne (by omega), mst_ne (by omega)]
          have := hL.2.2.2.2 j (by omega)
          show vp_in (mup _ _ _ (100 + j) 2) nF ∧ vp_in (mup _ _ _ (100 + j) 0) 6 ∧ ((mup _ _ _ (100 + j) 0 = 3 ∨ mup _ _ _ (100 + j) 0 = 4) → vp_in (mup _ _ _ (100 + j) 3) nF ∧ ¬ mup _ _ _ (100 + j) 3 = mup _ _ _ (100 + j) 2) ∧ (mup _ _ _ (100 + j) 0 = 0 → mup _ _ _ (100 + j) 3 &&& 255 = mup _ _ _ (100 + j) 3) ∧ ((mup _ _ _ (100 + j) 0 = 1 ∨ mup _ _ _ (100 + j) 0 = 2 ∨ mup _ _ _ (100 + j) 0 = 5) → vp_in (mup _ _ _ (100 + j) 3) 8) ∧ (mup _ _ _ (100 + j) 0 = 5 → vp_in (mup _ _ _ (100 + j) 4) 10)
          rw [ee]
          exact this
      · rw [mup_ne (by omega), mst_ne (by decide)]
      · rw [mup_ne (by omega), mst_ne (by decide)]
      · rw [mup_ne (by omega), mst_ne (by omega)]
    · rw [mup_ne (by omega), mst_ne (by decide)]; exact e8
  have e50 : ∀ s0 : Int32, vp_in ab nF → (s0 = 0 → ¬ (kd = 3 ∨ kd = 4)) → (¬ s0 = 0 → vp_in sd nF) → q_X8_tell_50 ad g post kd by_ ab sd bs ok s0 τ1 := fun s0 ha h0 h1 => by
    unfold q_X8_tell_50 q_X8_tell_75
    refine s_X8_is (fun r hr => ⟨fun _ => r_refuse hR, fun _ => ⟨fun _ => r_refuse hR, fun q => ⟨fun z => e81 ha (fun y => absurd y (h0 z)) q, fun z => ⟨fun ne => e81 ha (fun _ => ⟨h1 z, ne⟩) q, fun _ => r_refuse hR⟩⟩⟩⟩)
  have e20 : ∀ s0 : Int32, (s0 = 0 → ¬ (kd = 3 ∨ kd = 4)) → q_X8_tell_20 ad g post s0 kd by_ ab sd bs ok τ1 := fun s0 h0 => by
    unfold q_X8_tell_20 q_X8_tell_44
    refine s_X8_isField hL (fun r hr => ⟨fun _ => r_refuse hR, fun q => ⟨fun z => ?_, fun z => s_X8_isField hL (fun r2 hr2 => ⟨fun q2 => e50 s0 (hr.t q) h0 (fun _ => hr2.t q2), fun _ => r_refuse hR⟩)⟩⟩)
    have := e50 s0 (hr.t q) h0 (fun y => absurd z y)
    exact this
  unfold q_X8_tell_15
  exact ⟨fun _ => e20 1 (fun z => absurd z (by decide)), fun q3 => ⟨fun q4 => e20 0 (fun _ z => z.elim q3 q4), fun _ => e20 1 (fun z => absurd z (by decide))⟩⟩
theorem vin_6n (j : Nat) (h : j < 6) : vp_in (nI j) 6 := vin_j h (by decide)
theorem k_no {j k : Nat} (h : nI j = nI k) (hj : j < 2 ^ 31) (hk : k < 2 ^ 31) (hn : j ≠ k) : False := hn (nI_inj hj hk h)
theorem s8_nI : ∀ j : Nat, j < 256 → nI j &&& 255 = nI j := by decide +kernel
theorem r_oneOf {ad g : Nat → Nat} {post : GP} {x y z : Int32} {τ : Mem} (hk : gk g) (h : RG (g 0) (g 2) τ) (hp : GR ad g τ post) : q_X8_oneOf ad g post x y z τ := by
  unfold q_X8_oneOf
  refine s_X8_is (fun r hr => r_tell hk h (fun q => ⟨vin_6n 0 (by decide), fun _ => ?_, fun k => ?_, fun k => absurd k (by decide)⟩) hp)
  · obtain ⟨h1, h2⟩ := hr.t q
    have h0 : ¬ z < 0 := fun q => h1 (by rw [Int32.lt_iff_toInt_lt] at q ⊢; have e0 : (0 : Int32).toInt = 0 := by decide
                                         have e1 : (1 : Int32).toInt = 1 := by decide
                                         omega)
    have h3 : ¬ nI 256 ≤ z := fun q => h2 (by
      rw [Int32.le_iff_toInt_le, nI_toInt (by decide)] at q
      rw [Int32.lt_iff_toInt_lt]
      have e1 : (255 : Int32).toInt = 255 := by decide
      omega)
    obtain ⟨j, hj, rfl⟩ := vin_ex (by decide) (vin_lo (by decide) h0 h3)
    exact s8_nI j hj
  · rcases k with k | k | k <;> exact absurd k (by decide)
theorem r_bound {ad g : Nat → Nat} {post : GP} {x y z w : Int32} {τ : Mem} (hk : gk g) (h : RG (g 0) (g 2) τ) (hp : GR ad g τ post) : q_X8_bound ad g post x y z w τ := by
  unfold q_X8_bound q_X8_bound_11
  have v : ∀ r : Int32, bl (¬ z < 0 ∧ ¬ 7 < z) r → ¬ r = 0 → vp_in z 8 := fun r hr q => (is_vin (n := 8) (by decide)).mp (hr.t q)
  refine ⟨fun _ => s_X8_is (fun r hr => r_tell hk h (fun q => ⟨vin_6n 1 (by decide), fun k => absurd k (by decide), fun _ => v r hr q, fun k => absurd k (by decide)⟩) hp), fun _ => s_X8_is (fun r hr => r_tell hk h (fun q => ⟨vin_6n 2 (by decide), fun k => absurd k (by decide), fun _ => v r hr q, fun k => absurd k (by decide)⟩) hp)⟩
theorem r_more {ad g : Nat → Nat} {post : GP} {x y z w : Int32} {τ : Mem} (hk : gk g) (h : RG (g 0) (g 2) τ) (hp : GR ad g τ post) : q_X8_more ad g post x y z w τ := by
  unfold q_X8_more
  exact s_X8_is (fun r hr => r_tell hk h (fun q => ⟨vin_6n 3 (by decide), fun k => absurd k (by decide), fun k => by rcases k with k | k | k <;> exact absurd k (by decide), fun k => absurd k (by decide)⟩) hp)
theorem r_unlike {ad g : Nat → Nat} {post : GP} {x y z : Int32} {τ : Mem} (hk : gk g) (h : RG (g 0) (g 2) τ) (hp : GR ad g τ post) : q_X8_unlike ad g post x y z τ := by
  unfold q_X8_unlike
  exact r_tell hk h (fun q => ⟨vin_6n 4 (by decide), fun k => absurd k (by decide), fun k => by rcases k with k | k | k <;> exact absurd k (by decide), fun k => absurd k (by decide)⟩) hp
theorem r_preset {ad g : Nat → Nat} {post : GP} {x y z w : Int32} {τ : Mem} (hk : gk g) (h : RG (g 0) (g 2) τ) (hp : GR ad g τ post) : q_X8_preset ad g post x y z w τ := by
  unfold q_X8_preset q_X8_preset_32 q_X8_preset_33
  have n0 : q_X8_tell ad g (fun (r2001 : Int32) (ad2002 g2003 : Nat → Nat) (σ2004 : Mem) => post r2001 ad2002 g2003 σ2004) 5 x y z w 0 τ := r_tell hk h (fun q => absurd rfl q) hp
  refine s_X8_is (fun r hr => ⟨fun _ => n0, fun q => s_X8_is (fun r2 hr2 => ⟨fun _ => n0, fun q2 => r_tell hk h (fun _ => ⟨vin_6n 5 (by decide), fun k => absurd k (by decide), fun _ => (is_vin (n := 8) (by decide)).mp (hr.t q), fun _ => (is_vin (n := 10) (by decide)).mp (hr2.t q2)⟩) hp⟩)⟩)
theorem one_s8 : ∀ j : Nat, j < 8 → ((1 : Int32) <<< (nI j &&& 31)) &&& 255 = (1 : Int32) <<< (nI j &&& 31) := by decide +kernel
theorem r_absorb {ad g : Nat → Nat} {post : GP} {x y : Int32} {τ : Mem} (hk : gk g) (h : RG (g 0) (g 2) τ) (hp : GR ad g τ post) : q_X8_absorb ad g post x y τ := by
  have h12 : g 2 ≤ 12 := hk.1.2.2.2.1
  unfold q_X8_absorb q_X8_absorb_20 q_X8_absorb_47
  rintro _ rfl
  have w1 : WE τ (mst τ 0 0 0) := mst0_we (by omega)
  generalize mst τ 0 0 0 = τ1 at w1
  have hR : ∀ (r : Int32) (ρ : Mem), WE τ1 ρ → post r ad g ρ := fun r ρ w => hp r ad g ρ rfl hk ((w1.trans w).rg h) ((w1.trans w).1 8 (by omega))
  have hg := w1.rg h
  have e8 : τ1 0 8 = τ 0 8 := w1.1 8 (by omega)
  obtain ⟨⟨nF, hL⟩, hF⟩ := id hg
  have h5 := hL.1
  refine s_X8_isMachine (fun r hr => ⟨fun _ => r_refuse hR, fun q => s_X8_isField hL (fun r2 hr2 => ⟨fun q2 => ?_, fun _ => r_refuse hR⟩)⟩)
  obtain ⟨m, hm, rfl⟩ := vin_ex (by decide) (hr.t q)
  obtain ⟨f, hf, rfl⟩ := vin_ex (by omega) (hr2.t q2)
  have hf5 : f < 5 := by omega
  obtain ⟨i1, i2⟩ := ix30 hm hf5
  refine r_drifts (hF m hm) hm hf5 h12 (fun r3 hr3 => ⟨fun _ => r_refuse hR, fun q3 => ⟨fun _ => ⟨vin_j hf5 (by decide), i1, ?_⟩, fun _ => r_refuse hR⟩⟩)
  rw [i2]
  obtain ⟨j, hj, ej⟩ := vin_ex (by decide) (hr3 q3)
  refine r_tell hk hg (fun _ => ⟨vin_6n 0 (by decide), fun _ => by rw [ej]; exact one_s8 j hj, fun k => by rcases k with k | k | k <;> exact absurd k (by decide), fun k => absurd k (by decide)⟩) (fun r ad' g' ρ a b c d => hp r ad' g' ρ a b c (d.trans e8))
theorem r_commit {ad g : Nat → Nat} {post : GP} {τ : Mem} (hk : gk g) (h : RG (g 0) (g 2) τ) (hp : GR ad g τ post) : q_X8_commit ad g post τ := by
  have h12 : g 2 ≤ 12 := hk.1.2.2.2.1
  have h30 : g 0 ≤ 30 := hk.1.2.2.1
  unfold q_X8_commit q_X8_commit_24
  rintro _ rfl
  have w1 : WE τ (mst τ 0 0 0) := mst0_we (by omega)
  generalize mst τ 0 0 0 = τ1 at w1
  have hR : ∀ (r : Int32) (ρ : Mem), WE τ ρ → post r ad g ρ := fun r ρ w => hp r ad g ρ rfl hk (w.rg h) (w.1 8 (by omega))
  obtain ⟨⟨nF, hL⟩, -⟩ := w1.rg h
  have h5 := hL.1
  refine s_isContradiction hL ?_
  have w2 : WE τ (put 0 (aM (tm (g 0) τ1) nF (g 0)) τ1) := w1.trans put_we
  generalize put 0 (aM (tm (g 0) τ1) nF (g 0)) τ1 = τ2 at w2
  have hL2 : LV (tm (g 0) τ2) nF (g 0) := by
    obtain ⟨⟨nF2, hL2⟩, -⟩ := w2.rg h
    have e : nF2 = nF := nI_inj (by have := hL2.1; omega) (by omega) ((nfm hL2).symm.trans ((w2.1 3 (by omega)).trans ((w1.1 3 (by omega)).symm.trans (nfm hL))))
    rw [← e]; exact hL2
  refine ⟨fun _ => r_refuse (fun r ρ w => hR r ρ (w2.trans w)), fun _ => ⟨fun q q6 => w_settle hL2 (fun ρ hs _ => ?_), fun _ => r_refuse (fun r ρ w => hR r ρ (w2.trans w))⟩⟩
  have hlt : g 2 < 12 := by
    rcases Nat.lt_or_ge (g 2) 12 with z | z
    · exact z
    · exact absurd (by rw [show g 2 = 12 by omega]; rfl) q
  have w3 : WE τ ρ := w2.trans hs.we
  have hL3 := hs.lv hL2
  obtain ⟨-, hF3⟩ := w3.rg h
  have key : ∀ (d f : Nat) (wr : Nat → Int32), f + d = 5 → lp_4 (q_X8_commit_40 ad g post (q_X8_commit_82 ad g post)) (d + 1) (nI f) q6 wr ρ := by
    intro d
    induction d with
    | zero =>
      intro f wr hf
      show q_X8_commit_40 _ _ _ _ _ _ _ _ _
      unfold q_X8_commit_40 q_X8_commit_82
      rw [show f = 5 by omega]
      refine ⟨fun _ => ⟨hlt, ?_⟩, fun z => absurd (by decide) z⟩
      rintro ad1 g1 _ e1 gk1 e2 e3 rfl
      refine hp _ _ _ _ e1 gk1 ?_ ?_
      · rw [e2, e3]
        refine ⟨⟨nF, lv_of hL3 (Nat.le_refl _) h5 ?_ (fun j2 hj2 i2 hi2 => ?_)⟩, fun m hm => ?_⟩
        · rw [mup_ne (by omega), mst_ne (by decide)]; exact nfm hL3
        · rw [mup_ne (by omega), mst_ne (by omega)]
        · have := hF3 m hm
          unfold FLm at this ⊢
          rw [mup_ne (show 5 ≠ 200 + g 2 by omega), mup_ne (show 6 ≠ 200 + g 2 by omega), mst_ne (by decide), mst_ne (by decide)]
          rcases this with q | ⟨k2, hk2, e, hf9⟩
          · exact Or.inl q
          · exact Or.inr ⟨k2, by omega, e, fun f3 hf3 => by rw [mup_ne (by omega), mst_ne (by omega)]; exact hf9 f3 hf3⟩
      · rw [mup_ne (by omega), mst_ne (by decide)]; exact w3.1 8 (by omega)
    | succ d ih =>
      intro f wr hf
      show q_X8_commit_40 _ _ _ _ _ _ _ _ _
      have e75 : ∀ s0 : Int32, q_X8_commit_75 ad g post (q_X8_commit_82 ad g post) (lp_4 (q_X8_commit_40 ad g post (q_X8_commit_82 ad g post)) (d + 1)) s0 (nI f) (nI f) q6 wr ρ := fun s0 => by
        unfold q_X8_commit_75
        refine ⟨vin_j (by omega) (by decide), ?_⟩
        rintro _ rfl _ rfl
        rw [nI_1]
        exact ih (f + 1) _ (by omega)
      unfold q_X8_commit_40 q_X8_commit_74
      rw [nfm hL3]
      refine ⟨fun z => absurd ((nI_leI (a := 5) (b := f) (by decide) (by omega)).mp z) (by omega), fun _ => ⟨fun _ => e75 _, fun q2 => s_X8_count (d := 0) (by decide) (by omega) ⟨fun _ => e75 _, fun _ => w_least (d := 0) (by decide) (by omega) (fun r => e75 r)⟩⟩⟩
  exact ⟨6, key 5 0 _ rfl⟩
