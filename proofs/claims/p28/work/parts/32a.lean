/-! CLASS AND REFERENCE, SIDE BY SIDE -/
def RR (σ : Mem) (g : Nat → Nat) (τ : Mem) (nF : Nat) : Prop := (CI σ nF (g 0) (g 2)) ∧ (LV (tm (g 0) τ) nF (g 0)) ∧ (Agr σ (tm (g 0) τ)) ∧ (∀ j : Nat, g 0 ≤ j → j < 30 → τ (100 + j) 5 = 0 ∧ τ (100 + j) 6 = 0) ∧ (OI σ nF (g 0)) ∧ (∀ m : Nat, m < 6 → FLm (g 2) τ m) ∧ (∀ m : Nat, m < 6 → σ 26 m = τ 5 m) ∧ (∀ m f : Nat, m < 6 → f < 5 → σ (39 + m) f = τ 6 (5 * m + f)) ∧ (∀ k f : Nat, k < g 2 → f < 5 → σ (27 + k) f = τ (200 + k) f) ∧ (σ 0 3 = τ 0 8) ∧ (∀ f : Nat, nF ≤ f → f < 5 → (∀ m : Nat, m < 6 → τ 6 (5 * m + f) = -1) ∧ ∀ k : Nat, k < g 2 → τ (200 + k) f = -1) ∧ (∀ f : Nat, f < nF → vp_in (τ 1 f) 4) ∧ BW σ nF (g 0)
theorem RR.mk {σ : Mem} {g : Nat → Nat} {τ : Mem} {nF : Nat} (ci : CI σ nF (g 0) (g 2)) (lv : LV (tm (g 0) τ) nF (g 0)) (ag : Agr σ (tm (g 0) τ)) (fr : ∀ j : Nat, g 0 ≤ j → j < 30 → τ (100 + j) 5 = 0 ∧ τ (100 + j) 6 = 0) (oi : OI σ nF (g 0)) (fl : ∀ m : Nat, m < 6 → FLm (g 2) τ m) (co : ∀ m : Nat, m < 6 → σ 26 m = τ 5 m) (ha : ∀ m f : Nat, m < 6 → f < 5 → σ (39 + m) f = τ 6 (5 * m + f)) (kp : ∀ k f : Nat, k < g 2 → f < 5 → σ (27 + k) f = τ (200 + k) f) (kn : σ 0 3 = τ 0 8) (bh : ∀ f : Nat, nF ≤ f → f < 5 → (∀ m : Nat, m < 6 → τ 6 (5 * m + f) = -1) ∧ ∀ k : Nat, k < g 2 → τ (200 + k) f = -1) (te : ∀ f : Nat, f < nF → vp_in (τ 1 f) 4) (bw : BW σ nF (g 0)) : RR σ g τ nF := ⟨ci, lv, ag, fr, oi, fl, co, ha, kp, kn, bh, te, bw⟩
theorem RR.ci {σ : Mem} {g : Nat → Nat} {τ : Mem} {nF : Nat} (h : RR σ g τ nF) : CI σ nF (g 0) (g 2) := h.1
theorem RR.lv {σ : Mem} {g : Nat → Nat} {τ : Mem} {nF : Nat} (h : RR σ g τ nF) : LV (tm (g 0) τ) nF (g 0) := h.2.1
theorem RR.ag {σ : Mem} {g : Nat → Nat} {τ : Mem} {nF : Nat} (h : RR σ g τ nF) : Agr σ (tm (g 0) τ) := h.2.2.1
theorem RR.fr {σ : Mem} {g : Nat → Nat} {τ : Mem} {nF : Nat} (h : RR σ g τ nF) : ∀ j : Nat, g 0 ≤ j → j < 30 → τ (100 + j) 5 = 0 ∧ τ (100 + j) 6 = 0 := h.2.2.2.1
theorem RR.oi {σ : Mem} {g : Nat → Nat} {τ : Mem} {nF : Nat} (h : RR σ g τ nF) : OI σ nF (g 0) := h.2.2.2.2.1
theorem RR.fl {σ : Mem} {g : Nat → Nat} {τ : Mem} {nF : Nat} (h : RR σ g τ nF) : ∀ m : Nat, m < 6 → FLm (g 2) τ m := h.2.2.2.2.2.1
theorem RR.co {σ : Mem} {g : Nat → Nat} {τ : Mem} {nF : Nat} (h : RR σ g τ nF) : ∀ m : Nat, m < 6 → σ 26 m = τ 5 m := h.2.2.2.2.2.2.1
theorem RR.ha {σ : Mem} {g : Nat → Nat} {τ : Mem} {nF : Nat} (h : RR σ g τ nF) : ∀ m f : Nat, m < 6 → f < 5 → σ (39 + m) f = τ 6 (5 * m + f) := h.2.2.2.2.2.2.2.1
theorem RR.kp {σ : Mem} {g : Nat → Nat} {τ : Mem} {nF : Nat} (h : RR σ g τ nF) : ∀ k f : Nat, k < g 2 → f < 5 → σ (27 + k) f = τ (200 + k) f := h.2.2.2.2.2.2.2.2.1
theorem RR.kn {σ : Mem} {g : Nat → Nat} {τ : Mem} {nF : Nat} (h : RR σ g τ nF) : σ 0 3 = τ 0 8 := h.2.2.2.2.2.2.2.2.2.1
theorem RR.bh {σ : Mem} {g : Nat → Nat} {τ : Mem} {nF : Nat} (h : RR σ g τ nF) : ∀ f : Nat, nF ≤ f → f < 5 → (∀ m : Nat, m < 6 → τ 6 (5 * m + f) = -1) ∧ ∀ k : Nat, k < g 2 → τ (200 + k) f = -1 := h.2.2.2.2.2.2.2.2.2.2.1
theorem RR.te {σ : Mem} {g : Nat → Nat} {τ : Mem} {nF : Nat} (h : RR σ g τ nF) : ∀ f : Nat, f < nF → vp_in (τ 1 f) 4 := h.2.2.2.2.2.2.2.2.2.2.2.1
theorem RR.bw {σ : Mem} {g : Nat → Nat} {τ : Mem} {nF : Nat} (h : RR σ g τ nF) : BW σ nF (g 0) := h.2.2.2.2.2.2.2.2.2.2.2.2
theorem RR.rg {σ τ : Mem} {g : Nat → Nat} {nF : Nat} (h : RR σ g τ nF) : RG (g 0) (g 2) τ := ⟨⟨nF, h.lv⟩, h.fl⟩
/-- only asked -/
theorem RR.q {σ τ σ' τ' : Mem} {g : Nat → Nat} {nF : Nat} (h : RR σ g τ nF) (e : ∀ p : Nat, (p ≤ 13 ∨ p = 17 ∨ 21 ≤ p) → σ' p = σ p) (b : bz (σ' 14 2) ∧ σ' 18 4 = σ 18 4 ∧ σ' 18 5 = σ 18 5) (w : WE τ τ') : RR σ' g τ' nF :=
  RR.mk (ci := h.ci.sm (fun p hp => e p (by omega)) (by rw [e 12 (by decide)]; exact h.ci.2.2.2.1) b.1)
    (lv := w.lv h.lv)
    (ag := fun p j a b2 c => by rw [e p (by omega), w.etm]; exact h.ag p j a b2 c)
    (fr := fun j a b2 => by rw [w.2 (100 + j) (by omega)]; exact h.fr j a b2)
    (oi := h.oi.sm h.ci.lv (fun p hp _ => e p (by omega)))
    (fl := (w.rg h.rg).2)
    (co := fun m hm => by rw [e 26 (by decide), w.2 5 (by decide)]; exact h.co m hm)
    (ha := fun m f hm hf => by rw [e (39 + m) (by omega), w.2 6 (by decide)]; exact h.ha m f hm hf)
    (kp := fun k f hk hf => by rw [e (27 + k) (by omega), w.2 (200 + k) (by omega)]; exact h.kp k f hk hf)
    (kn := by rw [e 0 (by decide), w.1 8 (by decide)]; exact h.kn)
    (bh := fun f a b => ⟨fun m hm => by rw [w.2 6 (by decide)]; exact (h.bh f a b).1 m hm, fun k hk => by rw [w.2 (200 + k) (by omega)]; exact (h.bh f a b).2 k hk⟩)
    (te := fun f hf => by rw [w.2 1 (by decide)]; exact h.te f hf)
    (bw := h.bw.sm h.ci.lv (fun p _ hp => e p (by omega)) (e 21 (by omega)) b.2.1 b.2.2)
/-- what is told anew, the rest as it was: on both sides -/
theorem RR.t {σ τ σ1 τ' : Mem} {g g1 : Nat → Nat} {nF nF' : Nat} (h : RR σ g τ nF) (h1 : ∀ p : Nat, (p = 0 ∨ 11 ≤ p) → σ1 p = σ p) (hn : nF ≤ nF') (hg : g1 2 = g 2) (hL : LV (tm (g1 0) τ') nF' (g1 0)) (ha : Agr σ1 (tm (g1 0) τ'))
    (hf : ∀ j : Nat, g1 0 ≤ j → j < 30 → τ' (100 + j) 5 = 0 ∧ τ' (100 + j) 6 = 0) (e5 : τ' 5 = τ 5) (e6 : τ' 6 = τ 6) (e2 : ∀ k : Nat, k < 12 → τ' (200 + k) = τ (200 + k)) (e8 : τ' 0 8 = τ 0 8) (ht : ∀ f : Nat, f < nF' → vp_in (τ' 1 f) 4) (hw : ∀ f : Nat, f < nF' → vp_in (σ1 3 f) 10) : RR (rnw nF' (g1 0) σ1) g1 τ' nF' := by
  have hL1 : LV σ1 nF' (g1 0) := ag_lv ha.symm hL
  have h12 := h.ci.2.1
  have k : ∀ p : Nat, (p = 0 ∨ 23 ≤ p) → rnw nF' (g1 0) σ1 p = σ p := fun p hp => by rw [rnw_fr (by omega), h1 p (by omega)]
  refine (RR.mk (ci := ?_) (lv := hL) (ag := ?_) (fr := hf) (oi := ?_) (fl := ?_) (co := ?_) (ha := ?_) (kp := ?_) (kn := ?_) (bh := ?_) (te := ht) (bw := bw_rnw hL1 hw (fun i hi => by rw [h1 13 (by decide)]; exact (h.oi.1 i hi).1)))
  · rw [hg]; exact h.ci.rnw hL1 (fun p hp => h1 p (by omega))
  · exact fun p j a b c => by rw [rnw_fr (by omega)]; exact ha p j a b c
  · refine oi_rnw hL1 (fun i hi => ?_) (fun f a b => ?_)
    · rw [h1 13 (by decide), h1 17 (by decide)]; exact h.oi.1 i hi
    · rw [h1 22 (by decide)]; exact h.oi.2.2.1 f (by omega) b
  · exact fun m hm => fl_56 (by rw [hg]; exact h.fl m hm) e5 e6 (fun k hk => e2 k (by rw [hg] at hk; omega))
  · exact fun m hm => by rw [k 26 (by decide), e5]; exact h.co m hm
  · exact fun m f hm hf5 => by rw [k (39 + m) (by omega), e6]; exact h.ha m f hm hf5
  · exact fun q f hq hf5 => by rw [hg] at hq; rw [k (27 + q) (by omega), e2 q (by omega)]; exact h.kp q f hq hf5
  · rw [k 0 (by decide), e8]; exact h.kn
  · exact fun f a b => ⟨fun m hm => by rw [e6]; exact (h.bh f (by omega) b).1 m hm, fun q hq => by rw [hg] at hq; rw [e2 q (by omega)]; exact (h.bh f (by omega) b).2 q hq⟩
/-- refused: the code stands at 0 0 -/
theorem rf_we {τ : Mem} {x y : Int32} : WE τ (mst (mst τ 0 0 y) 0 0 x) := (mst0_we (by omega)).trans (mst0_we (by omega))
theorem rf_0 {τ : Mem} {x y : Int32} : mst (mst τ 0 0 y) 0 0 x 0 0 = x := by rw [mst_eq, upd_eq]
theorem x_refuse {n c : Nat} {post : Int32 → Mem → Prop} {x : Int32} {τ : Mem} (hp : post 0 (mst τ 0 0 x)) : q_X8_refuse n c post x τ := by
  unfold q_X8_refuse
  rintro _ rfl
  exact hp
/-- a field told -/
def fdR (nF : Nat) (x : Int32) (τ : Mem) : Mem := mst (mst (mst (mst τ 0 0 0) 1 nF x) 2 nF 1) 0 3 (nI (nF + 1))
theorem x_field {n c nF : Nat} {post : Int32 → Mem → Prop} {x : Int32} {τ : Mem} (hL : LV (tm n τ) nF n) (x1 : ¬ vp_in x 4 → post 0 (mst (mst τ 0 0 0) 0 0 1)) (x2 : vp_in x 4 → nF = 5 → post 0 (mst (mst τ 0 0 0) 0 0 2)) (hp : vp_in x 4 → nF < 5 → post (nI nF) (fdR nF x τ)) : q_X8_field n c post x τ := by
  have h5 := hL.1
  have e3 : mst τ 0 0 0 0 3 = nI nF := by rw [mst_eq, upd_ne (by decide)]; exact nfm hL
  unfold q_X8_field
  rintro _ rfl
  rw [e3]
  refine s_X8_is (fun r hr => ⟨fun z => ?_, fun z => x_refuse (x1 (fun w => hr.f z ((is_vin (n := 4) (by decide)).mpr w)))⟩)
  have hv : vp_in x 4 := (is_vin (n := 4) (by decide)).mp (hr.t z)
  refine ⟨fun q => ?_, fun q => x_refuse (x2 hv (nI_inj (by omega) (by decide) q))⟩
  have hlt : nF < 5 := by
    rcases Nat.lt_or_ge nF 5 with w | w
    · exact w
    · exact absurd (by rw [show nF = 5 by omega]; rfl) q
  have ec : (nI nF).toNatClampNeg = nF := nI_clamp (by omega)
  rw [ec]
  refine ⟨vin_j hlt (by decide), ?_⟩
  rintro _ rfl
  rw [mst_ne (show (0 : Nat) ≠ 1 by decide), e3, ec]
  refine ⟨vin_j hlt (by decide), ?_⟩
  rintro _ rfl _ rfl
  have e9 : mst (mst (mst τ 0 0 0) 1 nF x) 2 nF 1 0 3 = nI nF := by rw [mst_ne (by decide), mst_ne (by decide), e3]
  rw [e9, nI_1]
  have e10 : mst (mst (mst (mst τ 0 0 0) 1 nF x) 2 nF 1) 0 3 (nI (nF + 1)) 0 3 - 1 = nI nF := by
    rw [mst_eq, upd_eq, ← nI_1]
    exact Int32.add_sub_cancel _ _
  rw [e10]
  exact hp hv hlt
theorem rr_field {σ τ : Mem} {g : Nat → Nat} {nF : Nat} {x : Int32} (h : RR σ g τ nF) (hlt : nF < 5) (hx : vp_in x 4) : RR (rnw (nF + 1) (g 0) (fdM nF x σ)) g (fdR nF x τ) (nF + 1) ∧ fdR nF x τ 0 0 = 0 := by
  have k : ∀ p : Nat, p ≠ 0 → p ≠ 1 → p ≠ 2 → fdR nF x τ p = τ p := fun p a b c => by
    unfold fdR
    rw [mst_ne a, mst_ne c, mst_ne b, mst_ne a]
  have k0 : ∀ i : Nat, i ≠ 0 → i ≠ 3 → fdR nF x τ 0 i = τ 0 i := fun i a b => by
    unfold fdR
    rw [mst_eq, upd_ne b, mst_ne (by decide), mst_ne (by decide), mst_eq, upd_ne a]
  have k3 : fdR nF x τ 0 3 = nI (nF + 1) := by unfold fdR; rw [mst_eq, upd_eq]
  have hL := lv_of (ρ := fdR nF x τ) h.lv (show nF ≤ nF + 1 by omega) (by omega) k3 (fun j hj i hi => by rw [k (100 + j) (by omega) (by omega) (by omega)])
  refine ⟨h.t (fun p hp => ?_) (by omega) rfl hL (fun p j a b c => ?_) (fun j a b => ?_) (k 5 (by decide) (by decide) (by decide)) (k 6 (by decide) (by decide) (by decide)) (fun q hq => k (200 + q) (by omega) (by omega) (by omega)) (k0 8 (by decide) (by decide)) (fun f hf => ?_) (fun f hf => ?_), ?_⟩
  · unfold fdM
    rw [mst_ne (by omega), mst_ne (by omega), mst_ne (by omega)]
  · have := h.ag p j a b c
    rcases (show p = 1 ∨ p = 2 ∨ p = 3 ∨ 4 ≤ p by omega) with rfl | rfl | rfl | hp
    · show fdM nF x σ 1 j = (if j = 9 then fdR nF x τ 0 3 else if j = 10 then nI (g 0) else 0)
      have this : σ 1 j = (if j = 9 then τ 0 3 else if j = 10 then nI (g 0) else 0) := this
      unfold fdM
      rw [mst_eq, mst_ne (by decide), mst_ne (by decide), k3]
      by_cases e : j = 9
      · rw [if_pos e, e, upd_eq]
      · rw [upd_ne e, if_neg e, this, if_neg e]
    · show fdM nF x σ 2 j = fdR nF x τ 1 j
      have this : σ 2 j = τ 1 j := this
      unfold fdM fdR
      rw [mst_ne (by decide), mst_ne (by decide), mst_eq, mst_ne (show (1 : Nat) ≠ 0 by decide), mst_ne (show (1 : Nat) ≠ 2 by decide), mst_eq, mst_ne (show (1 : Nat) ≠ 0 by decide)]
      by_cases e : j = nF
      · subst e; rw [upd_eq, upd_eq]
      · rw [upd_ne e, upd_ne e]; exact this
    · show fdM nF x σ 3 j = fdR nF x τ 2 j
      have this : σ 3 j = τ 2 j := this
      unfold fdM fdR
      rw [mst_ne (by decide), mst_eq, mst_ne (show (3 : Nat) ≠ 2 by decide), mst_ne (show (2 : Nat) ≠ 0 by decide), mst_eq, mst_ne (show (2 : Nat) ≠ 1 by decide), mst_ne (show (2 : Nat) ≠ 0 by decide)]
      by_cases e : j = nF
      · subst e; rw [upd_eq, upd_eq]
      · rw [upd_ne e, upd_ne e]; exact this
    · have e1 : fdM nF x σ p = σ p := by unfold fdM; rw [mst_ne (by omega), mst_ne (by omega), mst_ne (by omega)]
      have e2 : tm (g 0) (fdR nF x τ) p j = tm (g 0) τ p j := by
        have n1 : ¬ p = 1 := by omega
        have n2 : ¬ p = 2 := by omega
        have n3 : ¬ p = 3 := by omega
        unfold tm
        rw [k (100 + j) (by omega) (by omega) (by omega)]
        simp only [if_neg n1, if_neg n2, if_neg n3]
      rw [e1, e2]
      exact this
  · rw [k (100 + j) (by omega) (by omega) (by omega)]; exact h.fr j a b
  · have e1 : fdR nF x τ 1 = upd (τ 1) nF x := by
      unfold fdR
      rw [mst_ne (by decide), mst_ne (by decide), mst_eq, mst_ne (by decide)]
    rw [e1]
    by_cases e : f = nF
    · subst e; rw [upd_eq]; exact hx
    · rw [upd_ne e]; exact h.te f (by omega)
  · have e1 : fdM nF x σ 3 = upd (σ 3) nF 1 := by
      unfold fdM
      rw [mst_ne (by decide), mst_eq, mst_ne (by decide)]
    rw [e1]
    by_cases e : f = nF
    · subst e; rw [upd_eq]; exact vin_j (j := 1) (by decide) (by decide)
    · rw [upd_ne e]; exact h.bw.1 f (by omega)
  · unfold fdR
    rw [mst_eq, upd_ne (by decide), mst_ne (by decide), mst_ne (by decide), mst_eq, upd_eq]
