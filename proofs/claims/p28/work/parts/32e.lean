/-! SIDE BY SIDE: the fleet -/
section JF
variable {am g : Nat → Nat} {a1 a2 a3 a4 : Int32} {σ τ : Mem} {nF : Nat} {n : Int64} {v : Value}
theorem RR.tk {m : Nat} (h : RR σ g τ nF) (hm : m < 6) : (τ 5 m = -1 → ∀ f : Nat, ¬ drP σ m f) ∧ ∀ k : Nat, k < g 2 → τ 5 m = nI k → ∀ f : Nat, f < 5 → (drP σ m f ↔ ¬ τ 6 (5 * m + f) = τ (200 + k) f) := by
  have h12 := h.ci.2.1
  refine ⟨fun e f z => ?_, fun k hk e f hf => ?_⟩
  · have := z.1
    rw [h.co m hm, e] at this
    exact this (by decide)
  · have e2 : σ 26 m = nI k := (h.co m hm).trans e
    unfold drP
    rw [e2, h.ci.nc, nI_clamp (by omega), h.ha m f hm hf, h.kp k f hk hf]
    exact ⟨fun z => z.2.2, fun z => ⟨nI_pos0 (by omega), fun q => absurd ((nI_leI (by omega) (by omega)).mp q) (by omega), z⟩⟩
theorem x_drifts {m f : Nat} {post : Int32 → Mem → Prop} (h : RR σ g τ nF) (hm : m < 6) (hf : f < 5) (hp : ∀ r : Int32, bl (drP σ m f) r → post r τ) : q_X8_drifts (g 0) (g 2) post (nI m) (nI f) τ := by
  have em : (nI m).toNatClampNeg = m := nI_clamp (by omega)
  have ef : (nI f).toNatClampNeg = f := nI_clamp (by omega)
  obtain ⟨i1, i2⟩ := ix30 hm hf
  obtain ⟨t1, t2⟩ := h.tk hm
  unfold q_X8_drifts q_X8_drifts_45 q_X8_drifts_46
  rw [em, ef, i2]
  refine ⟨vin_j hm (by decide), fun q => ⟨bz0, hp 0 (bl0 (t1 q f))⟩, fun q => ⟨i1, vin_j hm (by decide), ?_⟩⟩
  obtain ⟨k, hk, e, -⟩ := (h.fl m hm).resolve_left q
  exact ⟨k, ⟨hk, e⟩, vin_j hf (by decide), fun q2 => ⟨bz0, hp 0 (bl0 (fun z => (t2 k hk e f hf).mp z q2))⟩, fun q2 => ⟨bz1, hp 1 (bl1 ((t2 k hk e f hf).mpr q2))⟩⟩
theorem dg_beh {m : Nat} (h : RR σ g τ nF) (hm : m < 6) : ∀ (d f : Nat) (x : Int32), nF ≤ f → f + d ≤ 5 → dgF σ m d f x = x := by
  intro d
  induction d with
  | zero => intro f x _ _; rfl
  | succ d ih =>
    intro f x h1 h2
    have hn : ¬ drP σ m f := fun z => by
      obtain ⟨t1, t2⟩ := h.tk hm
      obtain ⟨b1, b2⟩ := h.bh f h1 (by omega)
      rcases h.fl m hm with e | ⟨k, hk, e, -⟩
      · exact t1 e f z
      · exact (t2 k hk e f (by omega)).mp z (by rw [b1 m hm, b2 k hk])
    unfold dgF
    rw [if_neg hn]
    exact ih (f + 1) x (by omega) (by omega)
theorem x_drifting {m : Nat} {post : Int32 → Mem → Prop} (h : RR σ g τ nF) (hm : m < 6) (hp : post (dgF σ m 5 0 0) τ) : q_X8_drifting (g 0) (g 2) post (nI m) τ := by
  have h5 := h.lv.1
  unfold q_X8_drifting
  have key : ∀ (k f : Nat) (x : Int32), f + k = nF → post (dgF σ m (k + (5 - nF)) f x) τ → lp_4 (q_X8_drifting_4 (g 0) (g 2) post (q_X8_drifting_37 (g 0) (g 2) post)) (k + 1) (nI m) x (nI f) τ := by
    intro k
    induction k with
    | zero =>
      intro f x hf hp
      show q_X8_drifting_4 _ _ _ _ _ _ _ _ _
      unfold q_X8_drifting_4 q_X8_drifting_37
      rw [nfm h.lv]
      rw [dg_beh h hm _ _ _ (by omega) (by omega)] at hp
      exact ⟨fun _ => hp, fun q => absurd (nI_le (by omega) (by omega)) q⟩
    | succ k ih =>
      intro f x hf hp
      show q_X8_drifting_4 _ _ _ _ _ _ _ _ _
      unfold q_X8_drifting_4 q_X8_drifting_29
      rw [nfm h.lv]
      rw [show k + 1 + (5 - nF) = (k + (5 - nF)) + 1 by omega] at hp
      unfold dgF at hp
      refine ⟨fun q => absurd ((nI_leI (by omega) (by omega)).mp q) (by omega), fun _ => x_drifts h hm (by omega) (fun r hr => ⟨fun z => ?_, fun z => ?_⟩)⟩
      · rintro _ rfl _ rfl
        rw [nI_1]
        rw [if_neg (hr.f z)] at hp
        rw [show x ||| 0 = x by apply Int32.toBitVec_inj.mp; simp]
        exact ih (f + 1) _ (by omega) hp
      · rintro _ rfl _ rfl
        rw [nI_1]
        rw [if_pos (hr.t z)] at hp
        exact ih (f + 1) _ (by omega) hp
  refine ⟨nF + 1, key nF 0 0 (Nat.zero_add _) ?_⟩
  rw [show nF + (5 - nF) = 5 by omega]
  exact hp
/-- the fleet's places written, on both sides: what is told stays -/
theorem RR.fle {σ' τ' : Mem} {g1 : Nat → Nat} (h : RR σ g τ nF) (g0 : g1 0 = g 0) (c12 : g1 2 ≤ 12) (e : ∀ p : Nat, (p ≤ 22 ∨ p = 24 ∨ p = 25) → σ' p = σ p) (n23 : σ' 23 3 = nI (g1 2)) (e' : ∀ p : Nat, (1 ≤ p ∧ p < 4 ∨ 100 ≤ p ∧ p < 130) → τ' p = τ p) (e0 : ∀ i : Nat, (1 ≤ i ∧ i < 12) → τ' 0 i = τ 0 i)
    (fl : ∀ m : Nat, m < 6 → FLm (g1 2) τ' m) (co : ∀ m : Nat, m < 6 → σ' 26 m = τ' 5 m) (ha : ∀ m f : Nat, m < 6 → f < 5 → σ' (39 + m) f = τ' 6 (5 * m + f)) (kp : ∀ k f : Nat, k < g1 2 → f < 5 → σ' (27 + k) f = τ' (200 + k) f)
    (bh : ∀ f : Nat, nF ≤ f → f < 5 → (∀ m : Nat, m < 6 → τ' 6 (5 * m + f) = -1) ∧ ∀ k : Nat, k < g1 2 → τ' (200 + k) f = -1) : RR σ' g1 τ' nF := by
  have h30 := h.lv.2.1
  have et : ∀ p j : Nat, j < 30 → tm (g 0) τ' p j = tm (g 0) τ p j := fun p j hj => by
    unfold tm
    rw [e0 3 (by omega), e' 1 (by omega), e' 2 (by omega), e' (100 + j) (by omega)]
  have A : Agr (tm (g 0) τ) (tm (g 0) τ') := fun p j _ _ hj => (et p j hj).symm
  obtain ⟨c1, c2, c3, c4, c5, c6, c7⟩ := h.ci
  refine (RR.mk (ci := ⟨?_, c12, n23, by rw [e 12 (by omega)]; exact c4, by rw [e 14 (by omega)]; exact c5, by rw [e 22 (by omega)]; exact c6, fun m hm => ?_⟩) (lv := by rw [g0]; exact ag_lv A h.lv) (ag := fun p j a b c => ?_) (fr := fun j a b => ?_) (oi := ?_) (fl := fl) (co := co) (ha := ha) (kp := kp) (kn := ?_) (bh := bh) (te := fun f hf => by rw [e' 1 (by omega)]; exact h.te f hf) (bw := by rw [g0]; exact h.bw.sm h.ci.lv (fun p _ hp => e p (by omega)) (e 21 (by omega)) (by rw [e 18 (by omega)]) (by rw [e 18 (by omega)])))
  · rw [g0]; exact c1.sm (fun p hp => e p (by omega))
  · rw [co m hm]
    exact (fl m hm).imp id (fun ⟨k, hk, ek, _⟩ => by rw [ek]; exact vin_j hk (by omega))
  · rw [g0, e p (by omega), et p j c]; exact h.ag p j a b c
  · rw [g0] at a; rw [e' (100 + j) (by omega)]; exact h.fr j a b
  · rw [g0]; exact h.oi.sm h.ci.lv (fun p hp _ => e p (by omega))
  · rw [e 0 (by omega), e0 8 (by omega)]; exact h.kn
theorem rr_knock (h : RR σ g τ nF) : RR (mst σ 0 3 (σ 0 3 + 1)) g (mst (mst τ 0 0 0) 0 8 (mst τ 0 0 0 0 8 + 1)) nF := by
  have w1 : WE τ (mst τ 0 0 0) := mst0_we (by omega)
  have h1 : RR σ g (mst τ 0 0 0) nF := h.q (fun _ _ => rfl) ⟨h.ci.2.2.2.2.1, rfl, rfl⟩ w1
  generalize mst τ 0 0 0 = ρ at h1
  have et : tm (g 0) (mst ρ 0 8 (ρ 0 8 + 1)) = tm (g 0) ρ := by
    funext p j
    unfold tm
    rw [mst_eq, upd_ne (by decide), mst_ne (by decide), mst_ne (by decide), mst_ne (by omega)]
  refine (RR.mk (ci := ?_) (lv := by rw [et]; exact h1.lv) (ag := fun p j a b c => by rw [et, mst_ne (by omega)]; exact h1.ag p j a b c) (fr := fun j a b => by rw [mst_ne (by omega)]; exact h1.fr j a b) (oi := h1.oi.sm h1.ci.lv (fun p _ hp => mst_ne hp)) (fl := fun m hm => fl_56 (h1.fl m hm) (mst_ne (by decide)) (mst_ne (by decide)) (fun k _ => mst_ne (by omega))) (co := fun m hm => by rw [mst_ne (by decide), mst_ne (by decide)]; exact h1.co m hm) (ha := fun m f a b => by rw [mst_ne (by omega), mst_ne (by decide)]; exact h1.ha m f a b) (kp := fun k f a b => by rw [mst_ne (by omega), mst_ne (by omega)]; exact h1.kp k f a b) (kn := by rw [mst_eq, mst_eq, upd_eq, upd_eq, h1.kn]) (bh := fun f a b => ⟨fun m hm => by rw [mst_ne (by decide)]; exact (h1.bh f a b).1 m hm, fun k hk => by rw [mst_ne (by omega)]; exact (h1.bh f a b).2 k hk⟩) (te := fun f hf => by rw [mst_ne (by decide)]; exact h1.te f hf) (bw := h1.bw.sm h1.ci.lv (fun p hp _ => mst_ne (by omega)) (mst_ne (by decide)) (by rw [mst_ne (by decide)]) (by rw [mst_ne (by decide)])))
  obtain ⟨c1, c2, c3, c4, c5, c6, c7⟩ := h1.ci
  refine ⟨?_, c2, by rw [mst_ne (by decide)]; exact c3, by rw [mst_ne (by decide)]; exact c4, by rw [mst_ne (by decide)]; exact c5, by rw [mst_ne (by decide)]; exact c6, by rw [mst_ne (by decide)]; exact c7⟩
  unfold LV at c1 ⊢
  rw [mst_ne (by decide), mst_ne (by decide), mst_ne (by decide), mst_ne (by decide), mst_ne (by decide)]
  exact c1
theorem rr_patch {m f : Nat} {y : Int32} (h : RR σ g τ nF) (hm : m < 6) (hf : f < nF) (hy : vp_in y 8) : RR (mup σ (39 + m) (upd (σ (39 + m)) f y)) g (mst τ 6 (5 * m + f) y) nF := by
  have h5 := h.lv.1
  have h12 := h.ci.2.1
  refine h.fle rfl h12 (fun p hp => mup_ne (by omega)) (by rw [mup_ne (by omega)]; exact h.ci.nc) (fun p hp => mst_ne (by omega)) (fun i _ => by rw [mst_ne (by decide)]) (fun m2 hm2 => ?_) (fun m2 hm2 => by rw [mup_ne (by omega), mst_ne (by decide)]; exact h.co m2 hm2) (fun m2 f2 a b => ?_) (fun k f2 a b => by rw [mup_ne (by omega), mst_ne (by omega)]; exact h.kp k f2 a b) (fun f2 a b => ⟨fun m2 hm2 => ?_, fun k hk => by rw [mst_ne (by omega)]; exact (h.bh f2 a b).2 k hk⟩)
  · have := h.fl m2 hm2
    unfold FLm at this ⊢
    rw [mst_ne (show (5 : Nat) ≠ 6 by decide), mst_eq]
    rcases this with q | ⟨k2, hk2, e, hf9⟩
    · exact Or.inl q
    · refine Or.inr ⟨k2, hk2, e, fun f3 hf3 => ?_⟩
      rw [mst_ne (show 200 + k2 ≠ 6 by omega)]
      by_cases e9 : 5 * m2 + f3 = 5 * m + f
      · rw [e9, upd_eq]; exact Or.inr hy
      · rw [upd_ne e9]; exact hf9 f3 hf3
  · rw [mst_eq]
    by_cases e : m2 = m
    · subst e
      rw [mup_eq]
      by_cases e2 : f2 = f
      · subst e2; rw [upd_eq, upd_eq]
      · rw [upd_ne e2, upd_ne (by omega)]; exact h.ha m2 f2 a b
    · rw [mup_ne (by omega), upd_ne (by omega)]; exact h.ha m2 f2 a b
  · rw [mst_eq, upd_ne (by omega)]; exact (h.bh f2 a b).1 m2 hm2
theorem rr_bring {m c : Nat} {ρ : Mem} (h : RR σ g τ nF) (hm : m < 6) (hc : c < g 2) (e : ∀ p : Nat, p ≠ 5 → p ≠ 6 → ρ p = τ p) (e5 : ρ 5 = upd (τ 5) m (nI c)) (e6 : ∀ i : Nat, ρ 6 i = if 5 * m ≤ i ∧ i < 5 * m + 5 then τ (200 + c) (i - 5 * m) else τ 6 i) : RR (brM σ m c) g ρ nF := by
  have h12 := h.ci.2.1
  have k : ∀ p : Nat, p ≠ 26 → p ≠ 39 + m → brM σ m c p = σ p := fun p a b => by unfold brM; rw [mup_ne b, mst_ne a]
  have k26 : brM σ m c 26 = upd (σ 26) m (nI c) := by unfold brM; rw [mup_ne (by omega), mst_eq]
  have k39 : brM σ m c (39 + m) = cp5 (σ (27 + c)) (σ (39 + m)) := by unfold brM; rw [mup_eq]
  refine h.fle rfl h12 (fun p hp => k p (by omega) (by omega)) (by rw [k 23 (by omega) (by omega)]; exact h.ci.nc) (fun p hp => e p (by omega) (by omega)) (fun i _ => by rw [e 0 (by decide) (by decide)]) (fun m2 hm2 => ?_) (fun m2 hm2 => ?_) (fun m2 f2 a b => ?_) (fun q f2 a b => by rw [k (27 + q) (by omega) (by omega), e (200 + q) (by omega) (by omega)]; exact h.kp q f2 a b) (fun f2 a b => ⟨fun m2 hm2 => ?_, fun q hq => by rw [e (200 + q) (by omega) (by omega)]; exact (h.bh f2 a b).2 q hq⟩)
  · by_cases em : m2 = m
    · subst em
      refine Or.inr ⟨c, hc, by rw [e5, upd_eq], fun f hf => Or.inl ?_⟩
      rw [e6, if_pos (by omega), e (200 + c) (by omega) (by omega), show 5 * m2 + f - 5 * m2 = f by omega]
    · have := h.fl m2 hm2
      unfold FLm at this ⊢
      rw [e5, upd_ne em]
      rcases this with q | ⟨k2, hk2, ek, hf9⟩
      · exact Or.inl q
      · exact Or.inr ⟨k2, hk2, ek, fun f hf => by rw [e6, if_neg (by omega), e (200 + k2) (by omega) (by omega)]; exact hf9 f hf⟩
  · rw [k26, e5]
    by_cases em : m2 = m
    · subst em; rw [upd_eq, upd_eq]
    · rw [upd_ne em, upd_ne em]; exact h.co m2 hm2
  · rw [e6]
    by_cases em : m2 = m
    · subst em
      rw [k39, if_pos (by omega), show 5 * m2 + f2 - 5 * m2 = f2 by omega, cp_lt b]
      exact h.kp c f2 hc b
    · rw [k (39 + m2) (by omega) (by omega), if_neg (by omega)]; exact h.ha m2 f2 a b
  · rw [e6]
    split
    · rename_i hq
      have : m2 = m := by omega
      subst this
      rw [show 5 * m2 + f2 - 5 * m2 = f2 by omega]
      exact (h.bh f2 a b).2 c hc
    · exact (h.bh f2 a b).1 m2 hm2
end JF
