/-! SIDE BY SIDE: approve, withdraw, weight, knock, what is only asked -/
section JX
variable {am g : Nat → Nat} {a1 a2 a3 a4 : Int32} {σ τ : Mem} {nF : Nat} {n : Int64} {v : Value}
/-- a place of a line written on both sides: 9 and 5, or 10 and 6 -/
theorem rr_mk {j p i : Nat} {y : Int32} (h : RR σ g τ nF) (hj : j < g 0) (hp : p = 9 ∧ i = 5 ∨ p = 10 ∧ i = 6) : RR (rnw nF (g 0) (mst σ p j y)) g (mst (mst τ 0 0 0) (100 + j) i y) nF := by
  have h30 := h.lv.2.1
  have k : ∀ q : Nat, q ≠ 0 → q ≠ 100 + j → mst (mst τ 0 0 0) (100 + j) i y q = τ q := fun q a b => by rw [mst_ne b, mst_ne a]
  have k0 : ∀ q : Nat, q ≠ 0 → mst (mst τ 0 0 0) (100 + j) i y 0 q = τ 0 q := fun q a => by rw [mst_ne (by omega), mst_eq, upd_ne a]
  have kj : mst (mst τ 0 0 0) (100 + j) i y (100 + j) = upd (τ (100 + j)) i y := by rw [mst_eq, mst_ne (by omega)]
  have A : Agr (mst σ p j y) (tm (g 0) (mst (mst τ 0 0 0) (100 + j) i y)) := fun q t a b c => by
    have hag := h.ag q t a b c
    by_cases e : q = p
    · subst e
      rw [mst_eq]
      rcases hp with ⟨rfl, rfl⟩ | ⟨rfl, rfl⟩
      · show upd (σ 9) j y t = mst (mst τ 0 0 0) (100 + j) 5 y (100 + t) 5
        by_cases e2 : t = j
        · subst e2; rw [upd_eq, kj, upd_eq]
        · rw [upd_ne e2, k (100 + t) (by omega) (by omega)]; exact hag
      · show upd (σ 10) j y t = mst (mst τ 0 0 0) (100 + j) 6 y (100 + t) 6
        by_cases e2 : t = j
        · subst e2; rw [upd_eq, kj, upd_eq]
        · rw [upd_ne e2, k (100 + t) (by omega) (by omega)]; exact hag
    · rw [mst_ne e, hag]
      have kk : ∀ i2 : Nat, i2 ≠ i → mst (mst τ 0 0 0) (100 + j) i y (100 + t) i2 = τ (100 + t) i2 := fun i2 hne => by
        by_cases e2 : t = j
        · subst e2; rw [kj, upd_ne hne]
        · rw [k (100 + t) (by omega) (by omega)]
      unfold tm
      rw [k0 3 (by decide), k 1 (by decide) (by omega), k 2 (by decide) (by omega), kk 0 (by omega), kk 1 (by omega), kk 2 (by omega), kk 3 (by omega), kk 4 (by omega)]
      rcases hp with ⟨rfl, rfl⟩ | ⟨rfl, rfl⟩
      · rw [kk 6 (by omega)]
        by_cases e3 : q = 9
        · exact absurd e3 e
        · simp only [if_neg e3]
      · rw [kk 5 (by omega)]
        by_cases e3 : q = 10
        · exact absurd e3 e
        · simp only [if_neg e3]
  have hL9 : LV (tm (g 0) (mst (mst τ 0 0 0) (100 + j) i y)) nF (g 0) := ag_lv A (h.ci.lv.mst9 (by omega))
  refine h.t (fun q hq => mst_ne (by omega)) (Nat.le_refl _) rfl hL9 A (fun t a b => ?_) (k 5 (by decide) (by omega)) (k 6 (by decide) (by omega)) (fun q hq => k (200 + q) (by omega) (by omega)) (k0 8 (by decide)) (fun f hf => by rw [k 1 (by decide) (by omega)]; exact h.te f hf) (fun f hf => by rw [mst_ne (by omega)]; exact h.bw.1 f hf)
  rw [k (100 + t) (by omega) (by omega)]
  exact h.fr t a b
theorem bl_eq {c : Prop} {r s : Int32} (h : bl c r) (h2 : bl c s) : r = s := by
  rcases bz_or h.1 with e | e <;> rcases bz_or h2.1 with e2 | e2
  · rw [e, e2]
  · exact absurd (h2.t (by rw [e2]; decide)) (h.f e)
  · exact absurd (h.t (by rw [e]; decide)) (h2.f e2)
  · rw [e, e2]
theorem x_mark5 {n c : Nat} {post : Int32 → Mem → Prop} {x y : Int32} (hL : LV (tm n τ) nF n) (hy : bz y) (x1 : ¬ vp_in x n → post 0 (mst τ 0 0 1)) (hp : ∀ j : Nat, j < n → x = nI j → ∀ r : Int32, bl (ctP (tm n (mst (mst τ 0 0 0) (100 + j) 5 y)) j) r → post r (mst (mst τ 0 0 0) (100 + j) 5 y)) : q_X8_approve n c post x y τ := by
  have h30 := hL.2.1
  unfold q_X8_approve q_X8_approve_14
  refine s_X8_isLine h30 (fun r hr => ⟨fun z => ?_, fun z => ?_⟩)
  · rintro _ rfl
    rw [mst_eq, upd_eq]
    exact ⟨fun z => absurd z (by decide), fun _ => x1 (hr.f z)⟩
  · obtain ⟨j, hj, rfl⟩ := vin_ex (by omega) (hr.t z)
    rintro _ rfl
    refine ⟨fun _ => ⟨j, ⟨hj, rfl⟩, hy, ?_⟩, fun z => absurd (by rw [mst_eq, upd_eq]; decide) z⟩
    rintro _ rfl
    refine ⟨j, ⟨hj, rfl⟩, s_X8_counts (n := n) ?_ (fun r2 hr2 => ⟨hr2.1, hp j hj rfl r2 hr2⟩)⟩
    rw [mst_eq, upd_ne (by decide), mst_ne (by omega)]
    exact hL.ab hj
theorem x_mark6 {n c : Nat} {post : Int32 → Mem → Prop} {x y : Int32} (hL : LV (tm n τ) nF n) (hy : bz y) (x1 : ¬ vp_in x n → post 0 (mst τ 0 0 1)) (hp : ∀ j : Nat, j < n → x = nI j → ∀ r : Int32, bl (ctP (tm n (mst (mst τ 0 0 0) (100 + j) 6 y)) j) r → post r (mst (mst τ 0 0 0) (100 + j) 6 y)) : q_X8_withdraw n c post x y τ := by
  have h30 := hL.2.1
  unfold q_X8_withdraw q_X8_withdraw_14
  refine s_X8_isLine h30 (fun r hr => ⟨fun z => ?_, fun z => ?_⟩)
  · rintro _ rfl
    rw [mst_eq, upd_eq]
    exact ⟨fun z => absurd z (by decide), fun _ => x1 (hr.f z)⟩
  · obtain ⟨j, hj, rfl⟩ := vin_ex (by omega) (hr.t z)
    rintro _ rfl
    refine ⟨fun _ => ⟨j, ⟨hj, rfl⟩, hy, ?_⟩, fun z => absurd (by rw [mst_eq, upd_eq]; decide) z⟩
    rintro _ rfl
    refine ⟨j, ⟨hj, rfl⟩, s_X8_counts (n := n) ?_ (fun r2 hr2 => ⟨hr2.1, hp j hj rfl r2 hr2⟩)⟩
    rw [mst_eq, upd_ne (by decide), mst_ne (by omega)]
    exact hL.ab hj
theorem RR.ref1 {x : Int32} (h : RR σ g τ nF) : RR σ g (mst τ 0 0 x) nF := h.q (fun _ _ => rfl) ⟨h.ci.2.2.2.2.1, rfl, rfl⟩ (mst0_we (by omega))
/-- what may come of approve and withdraw: a truth told as a number -/
abbrev J3 (g : Nat → Nat) (K : Int32 → Mem → Int64 → Value → Int32 → Mem → Prop) : Prop := ∀ (k : Int32) (σ2 : Mem) (n3 : Int64) (v4 : Value) (r5 : Int32) (τ6 : Mem) (nF' : Nat), RR σ2 g τ6 nF' → τ6 0 0 = k → (k = 0 → bz r5 ∧ n3 = (if r5 = 0 then 0 else 1)) → K k σ2 n3 v4 r5 τ6
theorem j_approve {K : Int32 → Mem → Int64 → Value → Int32 → Mem → Prop} (h : RR σ g τ nF) (hy : bz a2) (ey : vp_nar .boolean a2 = a2) (hp : J3 g K) : q_L_approve (fun k1 σ2 n3 v4 => q_X8_approve (g 0) (g 2) (fun r5 τ6 => K k1 σ2 n3 v4 r5 τ6) a1 a2 τ) a1 a2 n v σ := by
  have h30 := h.lv.2.1
  unfold q_L_approve
  refine s_X5_approve h.ci (fun c => ⟨rfl, x_mark5 h.lv hy (fun _ => hp _ _ _ _ _ _ _ h.ref1 (by rw [mst_eq, upd_eq]) (fun z => absurd z (by decide))) (fun j hj e => absurd (by rw [e]; exact vin_j hj (by omega)) c)⟩) (fun j hj e r hr => ?_)
  rw [ey] at hr ⊢
  have R := rr_mk (p := 9) (i := 5) (y := a2) h hj (Or.inl ⟨rfl, rfl⟩)
  have main : ∀ (n3 : Int64) (v4 : Value), (n3 = (if r = 0 then 0 else 1)) → q_X8_approve (g 0) (g 2) (fun r5 τ6 => K 0 (rnw nF (g 0) (mst σ 9 j a2)) n3 v4 r5 τ6) a1 a2 τ := fun n3 v4 hn => by
    refine x_mark5 h.lv hy (fun c => absurd (by rw [e]; exact vin_j hj (by omega)) c) (fun j2 hj2 e2 r2 hr2 => ?_)
    have ej : j2 = j := nI_inj (by omega) (by omega) (e2.symm.trans e)
    subst ej
    have er : r = r2 := by
      refine bl_eq hr (hr2.iff ?_)
      have k1 := ag_ct R.ag R.ci.lv hj
      rw [← k1]
      exact ctP_sm (fun p hp9 => rnw_fr (by omega)) j2
    exact hp _ _ _ _ _ _ _ R (by rw [mst_ne (by omega), mst_eq, upd_eq]) (fun _ => ⟨hr2.1, by rw [hn, er]⟩)
  exact ⟨fun z => main 1 v (by rw [if_neg z]), fun z => main 0 v (by rw [if_pos z])⟩
theorem j_withdraw {K : Int32 → Mem → Int64 → Value → Int32 → Mem → Prop} (h : RR σ g τ nF) (hy : bz a2) (ey : vp_nar .boolean a2 = a2) (hp : J3 g K) : q_L_withdraw (fun k1 σ2 n3 v4 => q_X8_withdraw (g 0) (g 2) (fun r5 τ6 => K k1 σ2 n3 v4 r5 τ6) a1 a2 τ) a1 a2 n v σ := by
  have h30 := h.lv.2.1
  unfold q_L_withdraw
  refine s_X5_withdraw h.ci (fun c => ⟨rfl, x_mark6 h.lv hy (fun _ => hp _ _ _ _ _ _ _ h.ref1 (by rw [mst_eq, upd_eq]) (fun z => absurd z (by decide))) (fun j hj e => absurd (by rw [e]; exact vin_j hj (by omega)) c)⟩) (fun j hj e r hr => ?_)
  rw [ey] at hr ⊢
  have R := rr_mk (p := 10) (i := 6) (y := a2) h hj (Or.inr ⟨rfl, rfl⟩)
  have main : ∀ (n3 : Int64) (v4 : Value), (n3 = (if r = 0 then 0 else 1)) → q_X8_withdraw (g 0) (g 2) (fun r5 τ6 => K 0 (rnw nF (g 0) (mst σ 10 j a2)) n3 v4 r5 τ6) a1 a2 τ := fun n3 v4 hn => by
    refine x_mark6 h.lv hy (fun c => absurd (by rw [e]; exact vin_j hj (by omega)) c) (fun j2 hj2 e2 r2 hr2 => ?_)
    have ej : j2 = j := nI_inj (by omega) (by omega) (e2.symm.trans e)
    subst ej
    have er : r = r2 := by
      refine bl_eq hr (hr2.iff ?_)
      have k1 := ag_ct R.ag R.ci.lv hj
      rw [← k1]
      exact ctP_sm (fun p hp9 => rnw_fr (by omega)) j2
    exact hp _ _ _ _ _ _ _ R (by rw [mst_ne (by omega), mst_eq, upd_eq]) (fun _ => ⟨hr2.1, by rw [hn, er]⟩)
  exact ⟨fun z => main 1 v (by rw [if_neg z]), fun z => main 0 v (by rw [if_pos z])⟩
/-- a weight told -/
theorem rr_wt {f : Nat} {y : Int32} (h : RR σ g τ nF) (hf : f < 5) (hy : vp_in y 10) : RR (rnw nF (g 0) (mst σ 3 f y)) g (mst (mst τ 0 0 0) 2 f y) nF := by
  have k : ∀ q : Nat, q ≠ 0 → q ≠ 2 → mst (mst τ 0 0 0) 2 f y q = τ q := fun q a b => by rw [mst_ne b, mst_ne a]
  have k0 : ∀ q : Nat, q ≠ 0 → mst (mst τ 0 0 0) 2 f y 0 q = τ 0 q := fun q a => by rw [mst_ne (by omega), mst_eq, upd_ne a]
  have A : Agr (mst σ 3 f y) (tm (g 0) (mst (mst τ 0 0 0) 2 f y)) := fun q t a b c => by
    have hag := h.ag q t a b c
    by_cases e : q = 3
    · subst e
      show mst σ 3 f y 3 t = mst (mst τ 0 0 0) 2 f y 2 t
      have hag : σ 3 t = τ 2 t := hag
      rw [mst_eq, mst_eq, mst_ne (show (2 : Nat) ≠ 0 by decide)]
      by_cases e2 : t = f
      · subst e2; rw [upd_eq, upd_eq]
      · rw [upd_ne e2, upd_ne e2]; exact hag
    · rw [mst_ne e, hag]
      unfold tm
      rw [k0 3 (by decide), k 1 (by decide) (by decide), k (100 + t) (by omega) (by omega)]
      simp only [if_neg e]
  have hL9 : LV (tm (g 0) (mst (mst τ 0 0 0) 2 f y)) nF (g 0) := ag_lv A (h.ci.lv.mst9 (by omega))
  refine h.t (fun q hq => mst_ne (by omega)) (Nat.le_refl _) rfl hL9 A (fun t a b => ?_) (k 5 (by decide) (by omega)) (k 6 (by decide) (by omega)) (fun q hq => k (200 + q) (by omega) (by omega)) (k0 8 (by decide)) (fun f hf => by rw [k 1 (by decide) (by omega)]; exact h.te f hf) (fun f2 hf2 => ?_)
  rotate_left
  · rw [mst_eq]
    by_cases e : f2 = f
    · subst e; rw [upd_eq]; exact hy
    · rw [upd_ne e]; exact h.bw.1 f2 hf2
  rw [k (100 + t) (by omega) (by omega)]
  exact h.fr t a b
theorem x_weight {n c : Nat} {post : Int32 → Mem → Prop} {x y : Int32} (hL : LV (tm n τ) nF n) (x1 : ¬ vp_in x nF → post 0 (mst (mst τ 0 0 0) 0 0 1)) (x2 : vp_in x nF → ¬ (¬ y < 0 ∧ y ≤ 9) → post 0 (mst (mst τ 0 0 0) 0 0 2)) (hp : ∀ f : Nat, f < nF → x = nI f → (¬ y < 0 ∧ y ≤ 9) → post (τ 2 f) (mst (mst τ 0 0 0) 2 f y)) : q_X8_weight n c post x y τ := by
  have h5 := hL.1
  have w1 : WE τ (mst τ 0 0 0) := mst0_we (by omega)
  unfold q_X8_weight
  rintro _ rfl
  refine s_X8_isField (w1.lv hL) (fun r hr => ⟨fun z => s_X8_is (fun r2 hr2 => ⟨fun z2 => ?_, fun z2 => x_refuse (x2 (hr.t z) (fun w => hr2.f z2 ⟨w.1, Int32.not_lt.mpr w.2⟩))⟩), fun z => x_refuse (x1 (hr.f z))⟩)
  obtain ⟨f, hf, rfl⟩ := vin_ex (by omega) (hr.t z)
  have ef : (nI f).toNatClampNeg = f := nI_clamp (by omega)
  have hv : vp_in (nI f) 5 := vin_j (by omega) (by decide)
  refine ⟨hv, ?_⟩
  rintro _ rfl
  refine ⟨hv, ?_⟩
  rintro _ rfl
  rw [ef, mst_ne (show (2 : Nat) ≠ 0 by decide)]
  exact hp f hf rfl ⟨(hr2.t z2).1, Int32.not_lt.mp (hr2.t z2).2⟩
theorem j_weight {K : Int32 → Mem → Int64 → Value → Int32 → Mem → Prop} (h : RR σ g τ nF) (hp : J1 g K) : q_L_weight (fun k1 σ2 n3 v4 => q_X8_weight (g 0) (g 2) (fun r5 τ6 => K k1 σ2 n3 v4 r5 τ6) a1 a2 τ) a1 a2 n v σ := by
  have h5 := h.lv.1
  unfold q_L_weight
  refine s_X5_weight h.ci (fun c => Or.inl ⟨rfl, x_weight h.lv (fun _ => hp _ _ _ _ _ _ _ h.ref rf_0 (no1 (by decide))) (fun a => absurd a c) (fun f hf e => absurd (by rw [e]; exact vin_j hf (by omega)) c)⟩) (fun a c => Or.inr ⟨rfl, x_weight h.lv (fun b => absurd a b) (fun _ _ => hp _ _ _ _ _ _ _ h.ref rf_0 (no1 (by decide))) (fun _ _ _ b => absurd b c)⟩) (fun f hf e b => x_weight h.lv (fun c => absurd (by rw [e]; exact vin_j hf (by omega)) c) (fun _ c => absurd b c) (fun f2 hf2 e2 _ => ?_))
  have ej : f2 = f := nI_inj (by omega) (by omega) (e2.symm.trans e)
  subst ej
  have ew : σ 3 f2 = τ 2 f2 := h.ag 3 f2 (by decide) (by decide) (by omega)
  exact hp _ _ _ _ _ _ _ (rr_wt h (by omega) (rank_in b.1 b.2)) (by rw [mst_ne (by decide), mst_eq, upd_eq]) (fun _ => by rw [ew])
end JX
