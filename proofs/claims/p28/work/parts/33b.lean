/-! SIDE BY SIDE: lines met, narrower fields -/
theorem fl_cp {g : Mw} : fl_row 5 255 g = cp5 full g := by
  funext i
  unfold fl_row cp5 full
  by_cases q : i < 5
  · simp only [if_pos q]
  · simp only [if_neg q]
section JM
variable {am g : Nat → Nat} {a1 a2 a3 a4 : Int32} {σ τ : Mem} {nF : Nat} {n : Int64} {v : Value}
theorem bg_15 {set : Int32} {f : Nat} (h : RR σ g τ nF) (hf : f < 5) : bgM 14 15 nF (g 0) set σ 15 f = mtF (tm (g 0) τ) set nF (g 0) full f ∧ bgM 14 15 nF (g 0) set σ 14 2 = mtC (tm (g 0) τ) set nF (g 0) full := by
  obtain ⟨e1, e2⟩ := ag_mt (set := set) (nF := nF) h.ag h.ci.lv.2.1
  unfold bgM
  constructor
  · rw [mst_ne (by decide), mup_eq, fl_cp, (cp_mt h.ci.lv).1, cp_lt hf, e1]
  · rw [mst_eq, upd_eq, fl_cp, (cp_mt h.ci.lv).2, e2]
theorem x_met {post : Int32 → Mem → Prop} {x y : Int32} (h : RR σ g τ nF) (x1 : ¬ vp_in y nF → post 0 (mst (mst τ 0 0 0) 0 0 1)) (x2 : vp_in y nF → ¬ (¬ x < 0 ∧ (x >>> (nI (g 0) &&& 31)) = 0) → post 0 (mst (mst τ 0 0 0) 0 0 2)) (hp : ∀ f : Nat, f < nF → y = nI f → (¬ x < 0 ∧ (x >>> (nI (g 0) &&& 31)) = 0) → ∀ ρ : Mem, WE (mst τ 0 0 0) ρ → ρ 0 0 = 0 → post (mtF (tm (g 0) τ) x nF (g 0) full f) ρ) : q_X8_met (g 0) (g 2) post x y τ := by
  have h1 := (h00 h).1
  have z0 := (h00 h).2
  have h5 := h.lv.1
  have et : tm (g 0) (mst τ 0 0 0) = tm (g 0) τ := (mst0_we (τ := τ) (i := 0) (x := 0) (by omega)).etm
  unfold q_X8_met q_X8_met_35
  rintro _ rfl
  refine s_X8_isField h1.lv (fun r hr => ⟨fun q => ⟨fun z => x_refuse (x2 (hr.t q) (fun w => w.1 z)), fun z => ⟨fun z2 => s_meetAnew (d := 0) h1.lv (by decide) ?_, fun z2 => x_refuse (x2 (hr.t q) (fun w => z2 w.2))⟩⟩, fun q => x_refuse (x1 (hr.f q))⟩)
  obtain ⟨f, hf, rfl⟩ := vin_ex (by omega) (hr.t q)
  refine s_setOf (d := 0) (by decide) (by omega) ?_
  rw [row_put (mt_RW h1.lv full_RW), et]
  exact hp f hf rfl ⟨z, z2⟩ _ put_we (by rw [put_ne (by decide)]; exact z0)
theorem j_met {K : Int32 → Mem → Int64 → Value → Int32 → Mem → Prop} (h : RR σ g τ nF) (hp : J1 g K) : q_L_met (fun k1 σ2 n3 v4 => q_X8_met (g 0) (g 2) (fun r5 τ6 => K k1 σ2 n3 v4 r5 τ6) a1 a2 τ) a1 a2 n v σ := by
  have h5 := h.lv.1
  unfold q_L_met
  refine s_X5_met h.ci (fun c => Or.inl ⟨rfl, x_met h (fun _ => hp _ _ _ _ _ _ _ h.ref rf_0 (no1 (by decide))) (fun a => absurd a c) (fun f hf e => absurd (by rw [e]; exact vin_j hf (by omega)) c)⟩) (fun a c => Or.inr ⟨rfl, x_met h (fun b => absurd a b) (fun _ _ => hp _ _ _ _ _ _ _ h.ref rf_0 (no1 (by decide))) (fun _ _ _ b => absurd b c)⟩) (fun f hf e b => x_met h (fun c => absurd (by rw [e]; exact vin_j hf (by omega)) c) (fun _ c => absurd b c) (fun f2 hf2 e2 _ ρ w z0 => ?_))
  have ef : f2 = f := nI_inj (by omega) (by omega) (e2.symm.trans e)
  subst ef
  have qe := qe_ae h.ci (bgM_ae (nF := nF) (nL := g 0) (set := a1) (σ := σ))
  exact hp _ _ _ _ _ _ _ (h.q qe.1 qe.2 ((mst0_we (by omega)).trans w)) z0 (fun _ => by rw [(bg_15 h (by omega)).1])
theorem j_isNarrower {K : Int32 → Mem → Int64 → Value → Int32 → Mem → Prop} (h : RR σ g τ nF) (hp : J3 g K) : q_L_isNarrower (fun k1 σ2 n3 v4 => q_X8_isNarrower (g 0) (g 2) (fun r5 τ6 => K k1 σ2 n3 v4 r5 τ6) a1 a2 τ) a1 a2 n v σ := by
  have h5 := h.lv.1
  have no : ¬ (vp_in a1 nF ∧ vp_in a2 nF) → ∀ (n3 : Int64) (v4 : Value), q_X8_isNarrower (g 0) (g 2) (fun r5 τ6 => K 1 σ n3 v4 r5 τ6) a1 a2 τ := fun c n3 v4 => by
    have done : ∀ (X : Mem → Prop), (∀ σ2001 : Mem, σ2001 = mst τ 0 0 1 → (((σ2001 0 0) ≠ 0 → (bz 0 ∧ K 1 σ n3 v4 0 σ2001)) ∧ ((σ2001 0 0) = 0 → X σ2001))) := fun X => by
      rintro _ rfl
      refine ⟨fun _ => ⟨bz0, hp _ _ _ _ _ _ _ h.ref1 (by rw [mst_eq, upd_eq]) (fun z => absurd z (by decide))⟩, fun z => absurd z (by rw [mst_eq, upd_eq]; decide)⟩
    unfold q_X8_isNarrower q_X8_isNarrower_21 q_X8_isNarrower_22 q_X8_isNarrower_52 q_X8_isNarrower_53
    exact s_X8_isField h.lv (fun r hr => ⟨fun _ => done _, fun q => s_X8_isField h.lv (fun r2 hr2 => ⟨fun _ => done _, fun q2 => absurd ⟨hr.t q, hr2.t q2⟩ c⟩)⟩)
  unfold q_L_isNarrower
  refine s_X5_isNarrower h.ci (fun c => ⟨rfl, no c _ _⟩) (fun f f2 hf hf2 e1 e2 r hr => ?_)
  obtain ⟨o1, o2, o3, o4⟩ := h.oi
  have e13 : σ 13 = aM (tm (g 0) τ) nF (g 0) := by rw [(o4 (by omega)).1, (ag_a h.ag h.ci.lv).1]
  rw [e13] at hr
  have main : ∀ (n3 : Int64) (v4 : Value), (n3 = (if r = 0 then 0 else 1)) → q_X8_isNarrower (g 0) (g 2) (fun r5 τ6 => K 0 σ n3 v4 r5 τ6) a1 a2 τ := fun n3 v4 hn => by
    unfold q_X8_isNarrower q_X8_isNarrower_21 q_X8_isNarrower_22 q_X8_isNarrower_52 q_X8_isNarrower_53
    refine s_X8_isField h.lv (fun r1 hr1 => ⟨fun q => absurd (by rw [e1]; exact vin_j hf (by omega)) (hr1.f q), fun _ => s_X8_isField h.lv (fun r2 hr2 => ⟨fun q => absurd (by rw [e2]; exact vin_j hf2 (by omega)) (hr2.f q), fun _ => ?_⟩)⟩)
    rintro _ rfl
    have h1 := (h00 h).1
    have z0 := (h00 h).2
    have w1 : WE τ (mst τ 0 0 0) := mst0_we (by omega)
    rw [e1, e2]
    refine ⟨fun q => absurd z0 q, fun _ => s_mayBe h1.lv (by omega) (s_mayBe (put_we.lv h1.lv) (by omega) ?_)⟩
    rw [put_we.etm, w1.etm]
    have w2 : WE τ (put 0 (aM (tm (g 0) τ) nF (g 0)) (put 0 (aM (tm (g 0) τ) nF (g 0)) (mst τ 0 0 0))) := (w1.trans put_we).trans put_we
    have z2 : put 0 (aM (tm (g 0) τ) nF (g 0)) (put 0 (aM (tm (g 0) τ) nF (g 0)) (mst τ 0 0 0)) 0 0 = 0 := by rw [put_ne (by decide), put_ne (by decide)]; exact z0
    refine ⟨fun q => ⟨bz0, hp _ _ _ _ _ _ _ (h.w w2) z2 (fun _ => ⟨bz0, ?_⟩)⟩, fun q => ⟨bz1, hp _ _ _ _ _ _ _ (h.w w2) z2 (fun _ => ⟨bz1, ?_⟩)⟩⟩
    · rw [hn, if_pos (hr.2.mpr q), if_pos rfl]
    · rw [hn, if_neg (fun z => hr.f z q), if_neg (by decide)]
  exact ⟨fun z => main 1 v (by rw [if_neg z]), fun z => main 0 v (by rw [if_pos z])⟩
end JM
