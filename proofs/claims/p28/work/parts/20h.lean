/-! THE CLASS: what tells -/
abbrev xIA : String := "java/lang/IllegalArgumentException"
abbrev xIS : String := "java/lang/IllegalStateException"
abbrev xIO : String := "java/lang/IndexOutOfBoundsException"
theorem and255 : ∀ j : Nat, j < 256 → nI j &&& 255 = nI j := by decide +kernel
theorem set_in {x : Int32} (h1 : ¬ x < 1) (h2 : x ≤ 255) : ∃ j : Nat, 0 < j ∧ j < 256 ∧ x = nI j := by
  rcases pk_ix x (n := 256) (by decide) with z | z | ⟨j, hj, rfl⟩
  · exact absurd (by rw [Int32.lt_iff_toInt_lt] at z ⊢; have a : (0 : Int32).toInt = 0 := by decide
                     have b : (1 : Int32).toInt = 1 := by decide
                     omega) h1
  · exact absurd h2 (by
      rw [Int32.le_iff_toInt_le] at z ⊢
      have a : (255 : Int32).toInt = 255 := by decide
      have b : (nI 256).toInt = 256 := by decide
      omega)
  · refine ⟨j, ?_, hj, rfl⟩
    rcases Nat.eq_zero_or_pos j with e | e
    · subst e; exact absurd (by decide) h1
    · exact e
theorem vin_6 (j : Nat) (h : j < 6) : vp_in (nI j) 6 := vin_j h (by decide)
theorem s_X5_field {post : Int32 → Mem → Prop} {px : String → Mem → Prop} {σ : Mem} {nF nL nC : Nat} {p1 : Int32} (h : CI σ nF nL nC)
    (x1 : ¬ vp_in p1 4 → px xIA σ) (x2 : vp_in p1 4 → nF = 5 → px xIS σ) (hp : vp_in p1 4 → nF < 5 → post (nI nF) (rnw (nF + 1) nL (fdM nF p1 σ))) : q_X5_field post px p1 σ := by
  have hL := h.lv
  have h5 := hL.1
  unfold q_X5_field
  refine s_isTeam (fun r hr => ⟨fun z => ?_, fun z => x1 (fun w => hr.f z (lo_vin (by decide) w))⟩)
  have ht := hr.t z
  have hv : vp_in p1 4 := vin_lo (by decide) ht.1 ht.2
  rw [hL.nf]
  refine ⟨fun q => ?_, fun q => x2 hv (by
    have : ¬ nF < 5 := fun w => q ((lt_nI (n := 5) (by omega) (by decide)).mpr w)
    omega)⟩
  have hn : nF < 5 := (lt_nI (n := 5) (by omega) (by decide)).mp q
  refine s_makeField hL hn (s_renew (fdM_lv hL hn) ?_ (hp hv hn))
  rw [fdM_hi (by decide)]
  exact h.2.2.2.2.1
theorem nL_lt {σ : Mem} {nF nL : Nat} (h : LV σ nF nL) : (σ 1 10 < 30 → nL < 30) ∧ (¬ σ 1 10 < 30 → nL = 30) := by
  have h2 := h.2.1
  rw [h.nl]
  refine ⟨fun q => (lt_nI (n := 30) (by omega) (by decide)).mp q, fun q => ?_⟩
  have : ¬ nL < 30 := fun w => q ((lt_nI (n := 30) (by omega) (by decide)).mpr w)
  omega
theorem s_X5_oneOf {post : Int32 → Mem → Prop} {px : String → Mem → Prop} {σ : Mem} {nF nL nC : Nat} {p1 p2 p3 : Int32} (h : CI σ nF nL nC)
    (x1 : ¬ vp_in p2 nF → px xIO σ) (x2 : vp_in p2 nF → ¬ (vp_in p1 4 ∧ ¬ p3 < 1 ∧ p3 ≤ 255) → px xIA σ) (x3 : vp_in p2 nF → (vp_in p1 4 ∧ ¬ p3 < 1 ∧ p3 ≤ 255) → nL = 30 → px xIS σ)
    (hp : vp_in p2 nF → (vp_in p1 4 ∧ ¬ p3 < 1 ∧ p3 ≤ 255) → nL < 30 → post (nI nL) (rnw nF (nL + 1) (lnN nL 0 p1 p2 p3 0 σ))) : q_X5_oneOf post px p1 p2 p3 σ := by
  have hL := h.lv
  unfold q_X5_oneOf q_X5_oneOf_37
  refine s_isField hL (fun r hr => ⟨fun z => ?_, fun z => x1 (hr.f z)⟩)
  have hf := hr.t z
  refine s_isTeam (fun r2 hr2 => ⟨fun z2 => x2 hf (fun w => hr2.f z2 (lo_vin (by decide) w.1)), fun z2 => ?_⟩)
  have ht := hr2.t z2
  have hv : vp_in p1 4 := vin_lo (by decide) ht.1 ht.2
  refine ⟨fun q => x2 hf (fun w => w.2.1 q), fun q => ⟨fun q2 => ⟨fun q3 => ?_, fun q3 => x3 hf ⟨hv, q, q2⟩ ((nL_lt hL).2 q3)⟩, fun q2 => x2 hf (fun w => q2 w.2.2)⟩⟩
  have hn := (nL_lt hL).1 q3
  obtain ⟨j, -, hj, ej⟩ := set_in q q2
  exact s_tell h hn ⟨hf, vin_6 0 (by decide), fun k => k.elim (fun e => absurd e (by decide)) (fun e => absurd e (by decide)), fun _ => by rw [ej]; exact and255 j hj, fun k => k.elim (fun e => absurd e (by decide)) (fun k => k.elim (fun e => absurd e (by decide)) (fun e => absurd e (by decide))), fun e => absurd e (by decide)⟩ (hp hf ⟨hv, q, q2⟩ hn)
theorem s_X5_bound {post : Int32 → Mem → Prop} {px : String → Mem → Prop} {σ : Mem} {nF nL nC : Nat} {p1 p2 p3 p4 : Int32} (h : CI σ nF nL nC)
    (x1 : ¬ vp_in p2 nF → px xIO σ) (x2 : vp_in p2 nF → ¬ (vp_in p1 4 ∧ vp_in p3 8) → px xIA σ) (x3 : vp_in p2 nF → (vp_in p1 4 ∧ vp_in p3 8) → nL = 30 → px xIS σ)
    (hp : vp_in p2 nF → (vp_in p1 4 ∧ vp_in p3 8) → nL < 30 → post (nI nL) (rnw nF (nL + 1) (lnN nL (if p4 = 0 then 1 else 2) p1 p2 p3 0 σ))) : q_X5_bound post px p1 p2 p3 p4 σ := by
  have hL := h.lv
  unfold q_X5_bound q_X5_bound_32 q_X5_bound_75
  refine s_isField hL (fun r hr => ⟨fun z => ?_, fun z => x1 (hr.f z)⟩)
  have hf := hr.t z
  refine s_isTeam (fun r2 hr2 => ⟨fun z2 => x2 hf (fun w => hr2.f z2 (lo_vin (by decide) w.1)), fun z2 => ?_⟩)
  have ht := hr2.t z2
  have hv : vp_in p1 4 := vin_lo (by decide) ht.1 ht.2
  refine s_isNumber (fun r3 hr3 => ⟨fun z3 => ?_, fun z3 => x2 hf (fun w => hr3.f z3 (lo_vin (by decide) w.2))⟩)
  have ht3 := hr3.t z3
  have hv3 : vp_in p3 8 := vin_lo (by decide) ht3.1 ht3.2
  refine ⟨fun q3 => ⟨fun q4 => ?_, fun q4 => ?_⟩, fun q3 => x3 hf ⟨hv, hv3⟩ ((nL_lt hL).2 q3)⟩
  · have hn := (nL_lt hL).1 q3
    have hp := hp hf ⟨hv, hv3⟩ hn
    rw [if_pos q4] at hp
    exact s_tell h hn ⟨hf, vin_6 1 (by decide), fun k => k.elim (fun e => absurd e (by decide)) (fun e => absurd e (by decide)), fun e => absurd e (by decide), fun _ => hv3, fun e => absurd e (by decide)⟩ hp
  · have hn := (nL_lt hL).1 q3
    have hp := hp hf ⟨hv, hv3⟩ hn
    rw [if_neg q4] at hp
    exact s_tell h hn ⟨hf, vin_6 2 (by decide), fun k => k.elim (fun e => absurd e (by decide)) (fun e => absurd e (by decide)), fun e => absurd e (by decide), fun _ => hv3, fun e => absurd e (by decide)⟩ hp
theorem s_X5_more {post : Int32 → Mem → Prop} {px : String → Mem → Prop} {σ : Mem} {nF nL nC : Nat} {p1 p2 p3 p4 : Int32} (h : CI σ nF nL nC)
    (x1 : ¬ (vp_in p2 nF ∧ vp_in p3 nF) → px xIO σ) (x2 : (vp_in p2 nF ∧ vp_in p3 nF) → ¬ (vp_in p1 4 ∧ ¬ p2 = p3 ∧ ¬ p4 < -7 ∧ p4 ≤ 7) → px xIA σ) (x3 : (vp_in p2 nF ∧ vp_in p3 nF) → (vp_in p1 4 ∧ ¬ p2 = p3 ∧ ¬ p4 < -7 ∧ p4 ≤ 7) → nL = 30 → px xIS σ)
    (hp : (vp_in p2 nF ∧ vp_in p3 nF) → (vp_in p1 4 ∧ ¬ p2 = p3 ∧ ¬ p4 < -7 ∧ p4 ≤ 7) → nL < 30 → post (nI nL) (rnw nF (nL + 1) (lnN nL 3 p1 p2 p3 p4 σ))) : q_X5_more post px p1 p2 p3 p4 σ := by
  have hL := h.lv
  unfold q_X5_more q_X5_more_16 q_X5_more_52
  refine s_isField hL (fun r hr => ⟨fun z => x1 (fun w => hr.f z w.1), fun z => ?_⟩)
  have hf := hr.t z
  refine s_isField hL (fun r1 hr1 => ⟨fun z1 => ?_, fun z1 => x1 (fun w => hr1.f z1 w.2)⟩)
  have hf2 := hr1.t z1
  have hff := And.intro hf hf2
  refine s_isTeam (fun r2 hr2 => ⟨fun z2 => x2 hff (fun w => hr2.f z2 (lo_vin (by decide) w.1)), fun z2 => ?_⟩)
  have ht := hr2.t z2
  have hv : vp_in p1 4 := vin_lo (by decide) ht.1 ht.2
  refine ⟨fun q => x2 hff (fun w => w.2.1 q), fun q => ⟨fun q1 => x2 hff (fun w => w.2.2.1 q1), fun q1 => ⟨fun q2 => ⟨fun q3 => ?_, fun q3 => x3 hff ⟨hv, q, q1, q2⟩ ((nL_lt hL).2 q3)⟩, fun q2 => x2 hff (fun w => q2 w.2.2.2)⟩⟩⟩
  have hn := (nL_lt hL).1 q3
  exact s_tell h hn ⟨hf, vin_6 3 (by decide), fun _ => ⟨hf2, fun e => q e.symm⟩, fun e => absurd e (by decide), fun k => k.elim (fun e => absurd e (by decide)) (fun k => k.elim (fun e => absurd e (by decide)) (fun e => absurd e (by decide))), fun e => absurd e (by decide)⟩ (hp hff ⟨hv, q, q1, q2⟩ hn)
theorem s_X5_unlike {post : Int32 → Mem → Prop} {px : String → Mem → Prop} {σ : Mem} {nF nL nC : Nat} {p1 p2 p3 : Int32} (h : CI σ nF nL nC)
    (x1 : ¬ (vp_in p2 nF ∧ vp_in p3 nF) → px xIO σ) (x2 : (vp_in p2 nF ∧ vp_in p3 nF) → ¬ (vp_in p1 4 ∧ ¬ p2 = p3) → px xIA σ) (x3 : (vp_in p2 nF ∧ vp_in p3 nF) → (vp_in p1 4 ∧ ¬ p2 = p3) → nL = 30 → px xIS σ)
    (hp : (vp_in p2 nF ∧ vp_in p3 nF) → (vp_in p1 4 ∧ ¬ p2 = p3) → nL < 30 → post (nI nL) (rnw nF (nL + 1) (lnN nL 4 p1 p2 p3 0 σ))) : q_X5_unlike post px p1 p2 p3 σ := by
  have hL := h.lv
  unfold q_X5_unlike q_X5_unlike_16 q_X5_unlike_38
  refine s_isField hL (fun r hr => ⟨fun z => x1 (fun w => hr.f z w.1), fun z => ?_⟩)
  have hf := hr.t z
  refine s_isField hL (fun r1 hr1 => ⟨fun z1 => ?_, fun z1 => x1 (fun w => hr1.f z1 w.2)⟩)
  have hf2 := hr1.t z1
  have hff := And.intro hf hf2
  refine s_isTeam (fun r2 hr2 => ⟨fun z2 => x2 hff (fun w => hr2.f z2 (lo_vin (by decide) w.1)), fun z2 => ?_⟩)
  have ht := hr2.t z2
  have hv : vp_in p1 4 := vin_lo (by decide) ht.1 ht.2
  refine ⟨fun q => ⟨fun q3 => ?_, fun q3 => x3 hff ⟨hv, q⟩ ((nL_lt hL).2 q3)⟩, fun q => x2 hff (fun w => w.2 q)⟩
  have hn := (nL_lt hL).1 q3
  exact s_tell h hn ⟨hf, vin_6 4 (by decide), fun _ => ⟨hf2, fun e => q e.symm⟩, fun e => absurd e (by decide), fun k => k.elim (fun e => absurd e (by decide)) (fun k => k.elim (fun e => absurd e (by decide)) (fun e => absurd e (by decide))), fun e => absurd e (by decide)⟩ (hp hff ⟨hv, q⟩ hn)
theorem rank_in {x : Int32} (h1 : ¬ x < 0) (h2 : x ≤ 9) : vp_in x 10 := by
  refine vin_lo (by decide) h1 (fun z => ?_)
  rw [Int32.le_iff_toInt_le] at z h2
  have a : (9 : Int32).toInt = 9 := by decide
  have b : (nI 10).toInt = 10 := by decide
  omega
theorem s_X5_preset {post : Int32 → Mem → Prop} {px : String → Mem → Prop} {σ : Mem} {nF nL nC : Nat} {p1 p2 p3 p4 : Int32} (h : CI σ nF nL nC)
    (x1 : ¬ vp_in p2 nF → px xIO σ) (x2 : vp_in p2 nF → ¬ (vp_in p1 4 ∧ vp_in p3 8 ∧ ¬ p4 < 0 ∧ p4 ≤ 9) → px xIA σ) (x3 : vp_in p2 nF → (vp_in p1 4 ∧ vp_in p3 8 ∧ ¬ p4 < 0 ∧ p4 ≤ 9) → nL = 30 → px xIS σ)
    (hp : vp_in p2 nF → (vp_in p1 4 ∧ vp_in p3 8 ∧ ¬ p4 < 0 ∧ p4 ≤ 9) → nL < 30 → post (nI nL) (rnw nF (nL + 1) (lnN nL 5 p1 p2 p3 p4 σ))) : q_X5_preset post px p1 p2 p3 p4 σ := by
  have hL := h.lv
  unfold q_X5_preset q_X5_preset_44
  refine s_isField hL (fun r hr => ⟨fun z => ?_, fun z => x1 (hr.f z)⟩)
  have hf := hr.t z
  refine s_isTeam (fun r2 hr2 => ⟨fun z2 => x2 hf (fun w => hr2.f z2 (lo_vin (by decide) w.1)), fun z2 => ?_⟩)
  have ht := hr2.t z2
  have hv : vp_in p1 4 := vin_lo (by decide) ht.1 ht.2
  refine s_isNumber (fun r3 hr3 => ⟨fun z3 => x2 hf (fun w => hr3.f z3 (lo_vin (by decide) w.2.1)), fun z3 => ?_⟩)
  have ht3 := hr3.t z3
  have hv3 : vp_in p3 8 := vin_lo (by decide) ht3.1 ht3.2
  refine ⟨fun q => x2 hf (fun w => w.2.2.1 q), fun q => ⟨fun q2 => ⟨fun q3 => ?_, fun q3 => x3 hf ⟨hv, hv3, q, q2⟩ ((nL_lt hL).2 q3)⟩, fun q2 => x2 hf (fun w => q2 w.2.2.2)⟩⟩
  have hn := (nL_lt hL).1 q3
  exact s_tell h hn ⟨hf, vin_6 5 (by decide), fun k => k.elim (fun e => absurd e (by decide)) (fun e => absurd e (by decide)), fun e => absurd e (by decide), fun _ => hv3, fun _ => rank_in q q2⟩ (hp hf ⟨hv, hv3, q, q2⟩ hn)
theorem LV.mst9 {σ : Mem} {nF nL p j : Nat} {x : Int32} (h : LV σ nF nL) (hp : p = 2 ∨ p = 3 ∨ p = 5 ∨ p = 9 ∨ p = 10) : LV (mst σ p j x) nF nL := by
  unfold LV at h ⊢
  rw [mst_ne (show 1 ≠ p by omega), mst_ne (show 4 ≠ p by omega), mst_ne (show 6 ≠ p by omega), mst_ne (show 7 ≠ p by omega), mst_ne (show 8 ≠ p by omega)]
  exact h
theorem ctP_sm {σ τ : Mem} (e : ∀ p : Nat, p ≤ 10 → τ p = σ p) (j : Nat) : ctP τ j ↔ ctP σ j := by
  unfold ctP
  rw [e 10 (by omega), e 9 (by omega), e 5 (by omega), e 2 (by omega), e 6 (by omega)]
theorem s_X5_approve {post : Int32 → Mem → Prop} {px : String → Mem → Prop} {σ : Mem} {nF nL nC : Nat} {p1 p2 : Int32} (h : CI σ nF nL nC)
    (x1 : ¬ vp_in p1 nL → px xIO σ) (hp : ∀ j : Nat, j < nL → p1 = nI j → ∀ r : Int32, bl (ctP (mst σ 9 j (vp_nar .boolean p2)) j) r → post r (rnw nF nL (mst σ 9 j (vp_nar .boolean p2)))) : q_X5_approve post px p1 p2 σ := by
  have hL := h.lv
  have h30 := hL.2.1
  unfold q_X5_approve
  refine s_isLine hL (fun r hr => ⟨fun z => ?_, fun z => x1 (hr.f z)⟩)
  obtain ⟨j, hj, rfl⟩ := vin_ex (by omega) (hr.t z)
  have e : (nI j).toNatClampNeg = j := nI_clamp (by omega)
  rw [e]
  refine ⟨vin_j (by omega) (by decide), ?_⟩
  rintro _ rfl
  have hL2 : LV (mst σ 9 j (vp_nar .boolean p2)) nF nL := hL.mst9 (by omega)
  refine s_renew hL2 (by rw [mst_ne (by decide)]; exact h.2.2.2.2.1) ?_
  have hL3 : LV (rnw nF nL (mst σ 9 j (vp_nar .boolean p2))) nF nL := hL2.sm (fun p hp9 => rnw_fr (by omega))
  refine s_counts (by omega) (hL3.ab hj) (fun r2 hr2 => ⟨hr2.1, hp j hj rfl r2 (hr2.iff (ctP_sm (fun p hp9 => rnw_fr (by omega)) j))⟩)
theorem s_X5_withdraw {post : Int32 → Mem → Prop} {px : String → Mem → Prop} {σ : Mem} {nF nL nC : Nat} {p1 p2 : Int32} (h : CI σ nF nL nC)
    (x1 : ¬ vp_in p1 nL → px xIO σ) (hp : ∀ j : Nat, j < nL → p1 = nI j → ∀ r : Int32, bl (ctP (mst σ 10 j (vp_nar .boolean p2)) j) r → post r (rnw nF nL (mst σ 10 j (vp_nar .boolean p2)))) : q_X5_withdraw post px p1 p2 σ := by
  have hL := h.lv
  have h30 := hL.2.1
  unfold q_X5_withdraw
  refine s_isLine hL (fun r hr => ⟨fun z => ?_, fun z => x1 (hr.f z)⟩)
  obtain ⟨j, hj, rfl⟩ := vin_ex (by omega) (hr.t z)
  have e : (nI j).toNatClampNeg = j := nI_clamp (by omega)
  rw [e]
  refine ⟨vin_j (by omega) (by decide), ?_⟩
  rintro _ rfl
  have hL2 : LV (mst σ 10 j (vp_nar .boolean p2)) nF nL := hL.mst9 (by omega)
  refine s_renew hL2 (by rw [mst_ne (by decide)]; exact h.2.2.2.2.1) ?_
  have hL3 : LV (rnw nF nL (mst σ 10 j (vp_nar .boolean p2))) nF nL := hL2.sm (fun p hp9 => rnw_fr (by omega))
  refine s_counts (by omega) (hL3.ab hj) (fun r2 hr2 => ⟨hr2.1, hp j hj rfl r2 (hr2.iff (ctP_sm (fun p hp9 => rnw_fr (by omega)) j))⟩)
theorem s_X5_weight {post : Int32 → Mem → Prop} {px : String → Mem → Prop} {σ : Mem} {nF nL nC : Nat} {p1 p2 : Int32} (h : CI σ nF nL nC)
    (x1 : ¬ vp_in p1 nF → px xIO σ) (x2 : vp_in p1 nF → ¬ (¬ p2 < 0 ∧ p2 ≤ 9) → px xIA σ) (hp : ∀ f : Nat, f < nF → p1 = nI f → (¬ p2 < 0 ∧ p2 ≤ 9) → post (σ 3 f) (rnw nF nL (mst σ 3 f p2))) : q_X5_weight post px p1 p2 σ := by
  have hL := h.lv
  have h5 := hL.1
  unfold q_X5_weight q_X5_weight_28
  refine s_isField hL (fun r hr => ⟨fun z => ?_, fun z => x1 (hr.f z)⟩)
  have hf := hr.t z
  refine ⟨fun q => x2 hf (fun w => w.1 q), fun q => ⟨fun q2 => ?_, fun q2 => x2 hf (fun w => q2 w.2)⟩⟩
  obtain ⟨f, hf2, rfl⟩ := vin_ex (by omega) hf
  have e : (nI f).toNatClampNeg = f := nI_clamp (by omega)
  rw [e]
  refine ⟨vin_j (by omega) (by decide), ?_⟩
  rintro _ rfl
  refine ⟨vin_j (by omega) (by decide), ?_⟩
  rintro _ rfl
  exact s_renew (hL.mst9 (by omega)) (by rw [mst_ne (by decide)]; exact h.2.2.2.2.1) (hp f hf2 rfl ⟨q, q2⟩)
