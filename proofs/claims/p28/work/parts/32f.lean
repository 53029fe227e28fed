/-! SIDE BY SIDE: commit, wave, patch, absorb, knock -/
section JG
variable {am g : Nat → Nat} {a1 a2 a3 a4 : Int32} {σ τ : Mem} {nF : Nat} {n : Int64} {v : Value}
theorem RR.w (h : RR σ g τ nF) {ρ : Mem} (w : WE τ ρ) : RR σ g ρ nF := h.q (fun _ _ => rfl) ⟨h.ci.2.2.2.2.1, rfl, rfl⟩ w
theorem x_patch {post : Int32 → Mem → Prop} {x y z : Int32} (h : RR σ g τ nF) (x1 : ¬ (vp_in x 6 ∧ vp_in y nF) → post 0 (mst (mst τ 0 0 0) 0 0 1)) (x2 : (vp_in x 6 ∧ vp_in y nF) → ¬ vp_in z 8 → post 0 (mst (mst τ 0 0 0) 0 0 2)) (hp : ∀ m f : Nat, m < 6 → f < nF → x = nI m → y = nI f → vp_in z 8 → post (τ 6 (5 * m + f)) (mst (mst τ 0 0 0) 6 (5 * m + f) z)) : q_X8_patch (g 0) (g 2) post x y z τ := by
  have h5 := h.lv.1
  have w1 : WE τ (mst τ 0 0 0) := mst0_we (by omega)
  unfold q_X8_patch q_X8_patch_20
  rintro _ rfl
  refine s_X8_isMachine (fun r hr => ⟨fun q => x_refuse (x1 (fun w => hr.f q w.1)), fun q => s_X8_isField (w1.lv h.lv) (fun r2 hr2 => ⟨fun q2 => s_X8_is (fun r3 hr3 => ⟨fun q3 => ?_, fun q3 => x_refuse (x2 ⟨hr.t q, hr2.t q2⟩ (fun w => hr3.f q3 ((is_vin (n := 8) (by decide)).mpr w)))⟩), fun q2 => x_refuse (x1 (fun w => hr2.f q2 w.2))⟩)⟩)
  obtain ⟨m, hm, rfl⟩ := vin_ex (by decide) (hr.t q)
  obtain ⟨f, hf, rfl⟩ := vin_ex (by omega) (hr2.t q2)
  obtain ⟨i1, i2⟩ := ix30 hm (show f < 5 by omega)
  refine ⟨i1, ?_⟩
  rintro _ rfl
  refine ⟨i1, ?_⟩
  rintro _ rfl
  rw [i2, mst_ne (show (6 : Nat) ≠ 0 by decide)]
  exact hp m f hm hf rfl rfl ((is_vin (n := 8) (by decide)).mp (hr3.t q3))
theorem j_patch {K : Int32 → Mem → Int64 → Value → Int32 → Mem → Prop} (h : RR σ g τ nF) (hp : J1 g K) : q_L_patch (fun k1 σ2 n3 v4 => q_X8_patch (g 0) (g 2) (fun r5 τ6 => K k1 σ2 n3 v4 r5 τ6) a1 a2 a3 τ) a1 a2 a3 n v σ := by
  have h5 := h.lv.1
  have w1 : WE τ (mst τ 0 0 0) := mst0_we (by omega)
  unfold q_L_patch
  refine s_X5_patch h.ci (fun c => Or.inl ⟨rfl, x_patch h (fun _ => hp _ _ _ _ _ _ _ h.ref rf_0 (no1 (by decide))) (fun a => absurd a c) (fun m f hm hf e e2 => absurd ⟨by rw [e]; exact vin_j hm (by decide), by rw [e2]; exact vin_j hf (by omega)⟩ c)⟩) (fun a c => Or.inr ⟨rfl, x_patch h (fun b => absurd a b) (fun _ _ => hp _ _ _ _ _ _ _ h.ref rf_0 (no1 (by decide))) (fun _ _ _ _ _ _ b => absurd b c)⟩) (fun m f hm hf e e2 hv => x_patch h (fun c => absurd ⟨by rw [e]; exact vin_j hm (by decide), by rw [e2]; exact vin_j hf (by omega)⟩ c) (fun _ c => absurd hv c) (fun m2 f2 hm2 hf2 e3 e4 _ => ?_))
  have em : m2 = m := nI_inj (by omega) (by omega) (e3.symm.trans e)
  have ef : f2 = f := nI_inj (by omega) (by omega) (e4.symm.trans e2)
  subst em; subst ef
  exact hp _ _ _ _ _ _ _ (rr_patch (h.w w1) hm hf hv) (by rw [mst_ne (by decide), mst_eq, upd_eq]) (fun _ => by rw [h.ha m2 f2 hm (by omega)])
theorem x_absorb {post : GP} {x y : Int32} (hk : gk g) (h : RR σ g τ nF) (x1 : ¬ (vp_in x 6 ∧ vp_in y nF) → post 0 am g (mst (mst τ 0 0 0) 0 0 1))
    (x2 : ∀ m f : Nat, m < 6 → f < nF → x = nI m → y = nI f → ¬ (drP σ m f ∧ vp_in (σ (39 + m) f) 8 ∧ g 0 < 30) → post 0 am g (mst (mst τ 0 0 0) 0 0 2))
    (hp : ∀ m f : Nat, m < 6 → f < nF → x = nI m → y = nI f → drP σ m f → vp_in (σ (39 + m) f) 8 → g 0 < 30 → ∀ ad1 g1 : Nat → Nat, ad1 0 = am 0 → gk g1 → g1 0 = g 0 + 1 → g1 2 = g 2 → post (nI (g 0)) ad1 g1 (lnT (g 0) 0 (σ 2 f) (nI f) ((1 : Int32) <<< (σ (39 + m) f &&& 31)) 0 (mst τ 0 0 0))) : q_X8_absorb am g post x y τ := by
  have h5 := h.lv.1
  have h30 : g 0 ≤ 30 := hk.1.2.2.1
  have w1 : WE τ (mst τ 0 0 0) := mst0_we (by omega)
  unfold q_X8_absorb q_X8_absorb_20 q_X8_absorb_47
  rintro _ rfl
  have h1 := h.w w1
  refine s_X8_isMachine (fun r hr => ⟨fun q => x_refuse (x1 (fun w => hr.f q w.1)), fun q => s_X8_isField h1.lv (fun r2 hr2 => ⟨fun q2 => ?_, fun q2 => x_refuse (x1 (fun w => hr2.f q2 w.2))⟩)⟩)
  obtain ⟨m, hm, rfl⟩ := vin_ex (by decide) (hr.t q)
  obtain ⟨f, hf, rfl⟩ := vin_ex (by omega) (hr2.t q2)
  obtain ⟨i1, i2⟩ := ix30 hm (show f < 5 by omega)
  have ef : (nI f).toNatClampNeg = f := nI_clamp (by omega)
  refine x_drifts h1 hm (by omega) (fun r3 hr3 => ⟨fun q3 => x_refuse (x2 m f hm hf rfl rfl (fun w => hr3.f q3 w.1)), fun q3 => ⟨fun q4 => ⟨vin_j (by omega) (by decide), i1, ?_⟩, fun q4 => x_refuse (x2 m f hm hf rfl rfl (fun w => ?_))⟩⟩)
  · have hd := hr3.t q3
    have hv : vp_in (σ (39 + m) f) 8 := by
      rw [h1.ha m f hm (by omega)]
      obtain ⟨t1, t2⟩ := h1.tk hm
      rcases h1.fl m hm with e | ⟨k, hk2, e, hf9⟩
      · exact absurd hd (t1 e f)
      · exact (hf9 f (by omega)).resolve_left ((t2 k hk2 e f (by omega)).mp hd)
    have hlt : g 0 < 30 := by
      rcases Nat.lt_or_ge (g 0) 30 with w | w
      · exact w
      · exact absurd (by rw [show g 0 = 30 by omega]; rfl) q4
    have e1 : mst τ 0 0 0 1 f = σ 2 f := (h1.ag 2 f (by decide) (by decide) (by omega)).symm
    have e6 : mst τ 0 0 0 6 (5 * m + f) = σ (39 + m) f := (h1.ha m f hm (by omega)).symm
    rw [i2, ef, e1, e6]
    refine x_tellc hk h1.lv (A := True) (B := True) ⟨fun _ => trivial, fun _ => ⟨vin_j hf (by omega), fun t => by rcases t with t | t <;> exact absurd t (by decide)⟩⟩ (fun _ => ⟨fun _ => trivial, fun _ => ⟨?_, by decide, fun t => by rcases t with t | t <;> exact absurd t (by decide)⟩⟩) (fun w => absurd trivial w) (fun _ w => absurd trivial w) (fun _ _ w => absurd w (by omega)) (fun _ _ w => hp m f hm hf rfl rfl hd hv w)
    have := h1.te f hf
    rwa [e1] at this
  · have : g 0 = 30 := nI_inj (by omega) (by decide) q4
    omega
theorem j_absorb {K : Int32 → Mem → Int64 → Value → Int32 → (Nat → Nat) → (Nat → Nat) → Mem → Prop} (hk : gk g) (h : RR σ g τ nF) (hp : J2 am K) : q_L_absorb (fun k1 σ2 n3 v4 => q_X8_absorb am g (fun r5 am6 g7 τ8 => K k1 σ2 n3 v4 r5 am6 g7 τ8) a1 a2 τ) a1 a2 n v σ := by
  have h5 := h.lv.1
  have w1 : WE τ (mst τ 0 0 0) := mst0_we (by omega)
  unfold q_L_absorb
  refine s_X5_absorb h.ci (fun c => Or.inl ⟨rfl, x_absorb hk h (fun _ => hp _ _ _ _ _ _ _ _ _ rfl hk h.ref rf_0 (no1 (by decide))) (fun m f hm hf e e2 => absurd ⟨by rw [e]; exact vin_j hm (by decide), by rw [e2]; exact vin_j hf (by omega)⟩ c) (fun m f hm hf e e2 => absurd ⟨by rw [e]; exact vin_j hm (by decide), by rw [e2]; exact vin_j hf (by omega)⟩ c)⟩) (fun m f hm hf e e2 c => Or.inr ⟨rfl, x_absorb hk h (fun b => absurd ⟨by rw [e]; exact vin_j hm (by decide), by rw [e2]; exact vin_j hf (by omega)⟩ b) (fun _ _ _ _ _ _ _ => hp _ _ _ _ _ _ _ _ _ rfl hk h.ref rf_0 (no1 (by decide))) (fun m2 f2 hm2 hf2 e3 e4 d1 d2 d3 => ?_)⟩) (fun m f hm hf e e2 d1 d2 d3 => x_absorb hk h (fun b => absurd ⟨by rw [e]; exact vin_j hm (by decide), by rw [e2]; exact vin_j hf (by omega)⟩ b) (fun m2 f2 hm2 hf2 e3 e4 c => ?_) (fun m2 f2 hm2 hf2 e3 e4 _ _ _ ad1 g1 k1 gk1 k0 k2 => ?_))
  · have em : m2 = m := nI_inj (by omega) (by omega) (e3.symm.trans e)
    have ef : f2 = f := nI_inj (by omega) (by omega) (e4.symm.trans e2)
    subst em; subst ef
    exact absurd ⟨d1, d2, d3⟩ c
  · have em : m2 = m := nI_inj (by omega) (by omega) (e3.symm.trans e)
    have ef : f2 = f := nI_inj (by omega) (by omega) (e4.symm.trans e2)
    subst em; subst ef
    exact absurd ⟨d1, d2, d3⟩ c
  · have em : m2 = m := nI_inj (by omega) (by omega) (e3.symm.trans e)
    have ef : f2 = f := nI_inj (by omega) (by omega) (e4.symm.trans e2)
    subst em; subst ef
    obtain ⟨j, hj, ej⟩ := vin_ex (by decide) d2
    have t := rr_tell (h.w w1) d3 k0 k2 (kd := 0) (by_ := σ 2 f2) (ab := nI f2) (sd := (1 : Int32) <<< (σ (39 + m2) f2 &&& 31)) (bs := 0) ⟨vin_j hf (by omega), vin_6 0 (by decide), fun k => by rcases k with k | k <;> exact absurd k (by decide), fun _ => by rw [ej]; exact one8 j hj, fun k => by rcases k with k | k | k <;> exact absurd k (by decide), fun k => absurd k (by decide)⟩
    exact hp _ _ _ _ _ _ _ _ _ k1 gk1 t.1 t.2 (fun _ => rfl)
theorem x_wave {post : Int32 → Mem → Prop} {x y : Int32} (h : RR σ g τ nF) (x1 : ¬ vp_in x (g 2) → post 0 (mst (mst τ 0 0 0) 0 0 1)) (x2 : vp_in x (g 2) → ¬ (¬ y < 0 ∧ y ≤ 63) → post 0 (mst (mst τ 0 0 0) 0 0 2))
    (hp : ∀ c : Nat, c < g 2 → x = nI c → (¬ y < 0 ∧ y ≤ 63) → ∀ ρ : Mem, RR (wvF c y 6 0 0 σ).2 g ρ nF → ρ 0 0 = 0 → post (wvF c y 6 0 0 σ).1 ρ) : q_X8_wave (g 0) (g 2) post x y τ := by
  have h12 := h.ci.2.1
  have w1 : WE τ (mst τ 0 0 0) := mst0_we (by omega)
  have h1 := h.w w1
  have z0 : mst τ 0 0 0 0 0 = 0 := by rw [mst_eq, upd_eq]
  unfold q_X8_wave
  rintro _ rfl
  generalize mst τ 0 0 0 = τ1 at h1 z0 x1 x2 w1
  refine s_X8_is (fun r hr => ⟨fun z => s_X8_is (fun r2 hr2 => ⟨fun z2 => ?_, fun z2 => x_refuse (x2 ((cm_vin h12 hr).t z) (fun w => hr2.f z2 ⟨w.1, Int32.not_lt.mpr w.2⟩))⟩), fun z => x_refuse (x1 ((cm_vin h12 hr).f z))⟩)
  obtain ⟨c, hc, rfl⟩ := vin_ex (by omega) ((cm_vin h12 hr).t z)
  have hp := hp c hc rfl ⟨(hr2.t z2).1, Int32.not_lt.mp (hr2.t z2).2⟩
  have key : ∀ (d m : Nat) (x3 : Int32) (σ1 ρ : Mem), m + d = 6 → RR σ1 g ρ nF → ρ 0 0 = 0 → (∀ χ : Mem, RR (wvF c y d m x3 σ1).2 g χ nF → χ 0 0 = 0 → post (wvF c y d m x3 σ1).1 χ) → lp_5 (q_X8_wave_49 (g 0) (g 2) post (q_X8_wave_151 (g 0) (g 2) post)) (d + 1) (nI c) y x3 (nI m) ρ := by
    intro d
    induction d with
    | zero =>
      intro m x3 σ1 ρ hm hR h0 hp
      show q_X8_wave_49 _ _ _ _ _ _ _ _ _ _
      unfold q_X8_wave_49 q_X8_wave_151
      rw [show m = 6 by omega]
      exact ⟨fun _ => hp ρ hR h0, fun z => absurd (by decide) z⟩
    | succ d ih =>
      intro m x3 σ1 ρ hm hR h0 hp
      show q_X8_wave_49 _ _ _ _ _ _ _ _ _ _
      have hm6 : m < 6 := by omega
      have em : (nI m).toNatClampNeg = m := nI_clamp (by omega)
      unfold wvF at hp
      have e94 : ∀ s0 : Int32, x3 + s0 = (if ¬ σ1 26 m = nI c ∨ ¬ dgF σ1 m 5 0 0 = 0 then x3 + 1 else x3) → ¬ ((y >>> (nI m &&& 31)) &&& 1) = 0 → q_X8_wave_94 (g 0) (g 2) post (q_X8_wave_151 (g 0) (g 2) post) (lp_5 (q_X8_wave_49 (g 0) (g 2) post (q_X8_wave_151 (g 0) (g 2) post)) (d + 1)) s0 x3 (nI c) y (nI m) ρ := fun s0 es hb => by
        rw [if_neg hb, ← es] at hp
        unfold q_X8_wave_94
        rintro _ rfl
        refine ⟨vin_j hm6 (by decide), ?_⟩
        rintro _ rfl
        rw [em]
        have inner : ∀ (d2 f : Nat) (χ : Mem), f + d2 = 5 → (∀ p : Nat, p ≠ 5 → p ≠ 6 → χ p = ρ p) → χ 5 = upd (ρ 5) m (nI c) → (∀ i : Nat, χ 6 i = if 5 * m ≤ i ∧ i < 5 * m + f then ρ (200 + c) (i - 5 * m) else ρ 6 i) → lp_6 (q_X8_wave_107 (g 0) (g 2) post (q_X8_wave_145 (g 0) (g 2) post (q_X8_wave_151 (g 0) (g 2) post) (lp_5 (q_X8_wave_49 (g 0) (g 2) post (q_X8_wave_151 (g 0) (g 2) post)) (d + 1)))) (d2 + 1) (nI c) y (x3 + s0) (nI m) (nI f) χ := by
          intro d2
          induction d2 with
          | zero =>
            intro f χ hf e e5 e6
            show q_X8_wave_107 _ _ _ _ _ _ _ _ _ _ _
            unfold q_X8_wave_107 q_X8_wave_145
            rw [show f = 5 by omega] at e6 ⊢
            refine ⟨fun _ => ?_, fun z => absurd (by decide) z⟩
            rintro _ rfl
            rw [nI_1]
            exact ih (m + 1) _ _ χ (by omega) (rr_bring hR hm6 hc e e5 e6) (by rw [e 0 (by decide) (by decide)]; exact h0) hp
          | succ d2 ih2 =>
            intro f χ hf e e5 e6
            show q_X8_wave_107 _ _ _ _ _ _ _ _ _ _ _
            unfold q_X8_wave_107
            have hf5 : f < 5 := by omega
            obtain ⟨i1, i2⟩ := ix30 hm6 hf5
            refine ⟨fun z => absurd ((nI_leI (a := 5) (b := f) (by decide) (by omega)).mp z) (by omega), fun _ => ⟨c, ⟨hc, rfl⟩, vin_j hf5 (by decide), i1, ?_⟩⟩
            rintro _ rfl _ rfl
            rw [i2, nI_clamp (show f < 2 ^ 31 by omega), nI_1]
            refine ih2 (f + 1) _ (by omega) (fun p a b => by rw [mst_ne b]; exact e p a b) (by rw [mst_ne (by decide)]; exact e5) (fun i => ?_)
            rw [mst_eq]
            by_cases q : i = 5 * m + f
            · subst q
              rw [upd_eq, if_pos (by omega), e (200 + c) (by omega) (by omega), show 5 * m + f - 5 * m = f by omega]
            · rw [upd_ne q, e6]
              by_cases q2 : 5 * m ≤ i ∧ i < 5 * m + f
              · rw [if_pos q2, if_pos (by omega)]
              · rw [if_neg q2, if_neg (by omega)]
        refine ⟨6, inner 5 0 _ rfl (fun p a _ => mst_ne a) (by rw [mst_eq]) (fun i => ?_)⟩
        rw [mst_ne (by decide), if_neg (by omega)]
      unfold q_X8_wave_49 q_X8_wave_89
      rw [em]
      refine ⟨fun z => absurd ((nI_leI (a := 6) (b := m) (by decide) (by omega)).mp z) (by omega), fun _ => ⟨fun hb => ⟨vin_j hm6 (by decide), fun q => e94 1 ?_ hb, fun q => x_drifting hR hm6 ⟨fun z => e94 0 ?_ hb, fun z => e94 1 ?_ hb⟩⟩, fun hb => ?_⟩⟩
      · rw [if_pos (Or.inl (by rw [hR.co m hm6]; exact q))]
      · rw [if_neg (by rw [hR.co m hm6]; exact fun w => w.elim (fun w => w q) (fun w => w z))]
        exact Int32.add_zero _
      · rw [if_pos (Or.inr z)]
      · unfold q_X8_wave_145
        rintro _ rfl
        rw [nI_1]
        rw [if_pos hb] at hp
        exact ih (m + 1) x3 σ1 ρ (by omega) hR h0 hp
  exact ⟨7, key 6 0 0 σ τ1 rfl h1 z0 hp⟩
theorem j_wave {K : Int32 → Mem → Int64 → Value → Int32 → Mem → Prop} (h : RR σ g τ nF) (hp : J1 g K) : q_L_wave (fun k1 σ2 n3 v4 => q_X8_wave (g 0) (g 2) (fun r5 τ6 => K k1 σ2 n3 v4 r5 τ6) a1 a2 τ) a1 a2 n v σ := by
  have h12 := h.ci.2.1
  unfold q_L_wave
  refine s_X5_wave h.ci (fun c => Or.inl ⟨rfl, x_wave h (fun _ => hp _ _ _ _ _ _ _ h.ref rf_0 (no1 (by decide))) (fun a => absurd a c) (fun k hk e => absurd (by rw [e]; exact vin_j hk (by omega)) c)⟩) (fun a c => Or.inr ⟨rfl, x_wave h (fun b => absurd a b) (fun _ _ => hp _ _ _ _ _ _ _ h.ref rf_0 (no1 (by decide))) (fun _ _ _ b => absurd b c)⟩) (fun c hc e b => x_wave h (fun w => absurd (by rw [e]; exact vin_j hc (by omega)) w) (fun _ w => absurd b w) (fun c2 hc2 e2 _ ρ hR h0 => ?_))
  have ec : c2 = c := nI_inj (by omega) (by omega) (e2.symm.trans e)
  subst ec
  exact hp _ _ _ _ _ _ _ hR h0 (fun _ => rfl)
end JG
