/-! SIDE BY SIDE: machines, what they have, commits asked -/
theorem sv_no {x : Int32} {n : Nat} (hn : n < 2 ^ 31) (h : vp_in x n) : ¬ sw_out x n := by
  obtain ⟨j, hj, rfl⟩ := vin_ex hn h
  unfold sw_out
  rw [nI_toInt (by omega)]
  omega
theorem sv_yes {x : Int32} {n : Nat} (h : ¬ vp_in x n) (hn : n < 2 ^ 31) : sw_out x n := by
  rcases sw_in x n hn with q | ⟨j, hj, rfl⟩
  · exact q
  · exact absurd (vin_j hj (by omega)) h
section JQ
variable {am g : Nat → Nat} {a1 a2 a3 a4 : Int32} {σ τ : Mem} {nF : Nat} {n : Int64} {v : Value}
theorem h00 (h : RR σ g τ nF) : RR σ g (mst τ 0 0 0) nF ∧ mst τ 0 0 0 0 0 = 0 := ⟨h.w (mst0_we (by omega)), by rw [mst_eq, upd_eq]⟩
theorem x_has {post : Int32 → Mem → Prop} {x y : Int32} (h : RR σ g τ nF) (x1 : ¬ (vp_in x 6 ∧ vp_in y nF) → post 0 (mst (mst τ 0 0 0) 0 0 1)) (hp : ∀ m f : Nat, m < 6 → f < nF → x = nI m → y = nI f → post (σ (39 + m) f) (mst τ 0 0 0)) : q_X8_has (g 0) (g 2) post x y τ := by
  have h1 := (h00 h).1
  have h5 := h.lv.1
  unfold q_X8_has q_X8_has_33 q_X8_has_38
  rintro _ rfl
  refine s_X8_isMachine (fun r hr => ⟨fun q => x_refuse (x1 (fun w => hr.f q w.1)), fun q => s_X8_isField h1.lv (fun r2 hr2 => ⟨fun q2 => x_refuse (x1 (fun w => hr2.f q2 w.2)), fun q2 => ?_⟩)⟩)
  obtain ⟨m, hm, rfl⟩ := vin_ex (by decide) (hr.t q)
  obtain ⟨f, hf, rfl⟩ := vin_ex (by omega) (hr2.t q2)
  obtain ⟨i1, i2⟩ := ix30 hm (show f < 5 by omega)
  refine ⟨i1, ?_⟩
  rw [i2, ← h1.ha m f hm (by omega)]
  exact hp m f hm hf rfl rfl
theorem j_has {K : Int32 → Mem → Int64 → Value → Int32 → Mem → Prop} (h : RR σ g τ nF) (hp : J1 g K) : q_L_has (fun k1 σ2 n3 v4 => q_X8_has (g 0) (g 2) (fun r5 τ6 => K k1 σ2 n3 v4 r5 τ6) a1 a2 τ) a1 a2 n v σ := by
  have h5 := h.lv.1
  unfold q_L_has
  refine s_X5_has h.ci (fun c => ⟨rfl, x_has h (fun _ => hp _ _ _ _ _ _ _ h.ref rf_0 (no1 (by decide))) (fun m f hm hf e e2 => absurd ⟨by rw [e]; exact vin_j hm (by decide), by rw [e2]; exact vin_j hf (by omega)⟩ c)⟩) (fun m f hm hf e e2 => x_has h (fun c => absurd ⟨by rw [e]; exact vin_j hm (by decide), by rw [e2]; exact vin_j hf (by omega)⟩ c) (fun m2 f2 hm2 hf2 e3 e4 => ?_))
  have em : m2 = m := nI_inj (by omega) (by omega) (e3.symm.trans e)
  have ef : f2 = f := nI_inj (by omega) (by omega) (e4.symm.trans e2)
  subst em; subst ef
  exact hp _ _ _ _ _ _ _ (h00 h).1 (h00 h).2 (fun _ => rfl)
theorem x_ofCommit {post : Int32 → Mem → Prop} {x y : Int32} (h : RR σ g τ nF) (x1 : ¬ (vp_in x (g 2) ∧ vp_in y nF) → post 0 (mst (mst τ 0 0 0) 0 0 1)) (hp : ∀ c f : Nat, c < g 2 → f < nF → x = nI c → y = nI f → post (σ (27 + c) f) (mst τ 0 0 0)) : q_X8_ofCommit (g 0) (g 2) post x y τ := by
  have h1 := (h00 h).1
  have h5 := h.lv.1
  have h12 := h.ci.2.1
  unfold q_X8_ofCommit q_X8_ofCommit_46 q_X8_ofCommit_51
  rintro _ rfl
  refine s_X8_is (fun r hr => ⟨fun q => x_refuse (x1 (fun w => (cm_vin h12 hr).f q w.1)), fun q => s_X8_isField h1.lv (fun r2 hr2 => ⟨fun q2 => x_refuse (x1 (fun w => hr2.f q2 w.2)), fun q2 => ?_⟩)⟩)
  obtain ⟨c, hc, rfl⟩ := vin_ex (by omega) ((cm_vin h12 hr).t q)
  obtain ⟨f, hf, rfl⟩ := vin_ex (by omega) (hr2.t q2)
  refine ⟨c, ⟨hc, rfl⟩, vin_j (by omega) (by decide), ?_⟩
  rw [nI_clamp (show f < 2 ^ 31 by omega), ← h1.kp c f hc (by omega)]
  exact hp c f hc hf rfl rfl
theorem j_ofCommit {K : Int32 → Mem → Int64 → Value → Int32 → Mem → Prop} (h : RR σ g τ nF) (hp : J1 g K) : q_L_ofCommit (fun k1 σ2 n3 v4 => q_X8_ofCommit (g 0) (g 2) (fun r5 τ6 => K k1 σ2 n3 v4 r5 τ6) a1 a2 τ) a1 a2 n v σ := by
  have h5 := h.lv.1
  have h12 := h.ci.2.1
  unfold q_L_ofCommit
  refine s_X5_ofCommit h.ci (fun c => ⟨rfl, x_ofCommit h (fun _ => hp _ _ _ _ _ _ _ h.ref rf_0 (no1 (by decide))) (fun m f hm hf e e2 => absurd ⟨by rw [e]; exact vin_j hm (by omega), by rw [e2]; exact vin_j hf (by omega)⟩ c)⟩) (fun m f hm hf e e2 => x_ofCommit h (fun c => absurd ⟨by rw [e]; exact vin_j hm (by omega), by rw [e2]; exact vin_j hf (by omega)⟩ c) (fun m2 f2 hm2 hf2 e3 e4 => ?_))
  have em : m2 = m := nI_inj (by omega) (by omega) (e3.symm.trans e)
  have ef : f2 = f := nI_inj (by omega) (by omega) (e4.symm.trans e2)
  subst em; subst ef
  exact hp _ _ _ _ _ _ _ (h00 h).1 (h00 h).2 (fun _ => rfl)
theorem x_ofMachineNow {m w : Nat} {post : Int32 → Mem → Prop} (h : RR σ g τ nF) (hm : m < 6) (hw : w < 3) (hp : post (mcA σ m w) τ) : q_X8_ofMachineNow (g 0) (g 2) post (nI m) (nI w) τ := by
  have em : (nI m).toNatClampNeg = m := nI_clamp (by omega)
  unfold mcA at hp
  unfold q_X8_ofMachineNow q_X8_ofMachineNow_34
  rw [em]
  refine ⟨fun q => ⟨fun q2 => x_drifting h hm ?_, fun q2 => x_drifting h hm (s_bitCount ?_)⟩, fun q => ⟨vin_j hm (by decide), ?_⟩⟩
  · have e0 : ¬ w = 0 := fun e => q (by rw [e]; rfl)
    have e1 : ¬ w = 1 := fun e => q2 (by rw [e]; rfl)
    rwa [if_neg e0, if_neg e1] at hp
  · have e1 : w = 1 := nI_inj (by omega) (by decide) q2
    subst e1
    exact hp
  · have e0 : w = 0 := nI_inj (by omega) (by decide) q
    subst e0
    rw [← h.co m hm]
    exact hp
theorem x_ofMachine {post : Int32 → Mem → Prop} {x y : Int32} (h : RR σ g τ nF) (x1 : ¬ vp_in x 6 → post 0 (mst (mst τ 0 0 0) 0 0 1)) (x2 : vp_in x 6 → ¬ vp_in y 3 → post 0 (mst (mst τ 0 0 0) 0 0 2)) (hp : ∀ m w : Nat, m < 6 → w < 3 → x = nI m → y = nI w → post (mcA σ m w) (mst τ 0 0 0)) : q_X8_ofMachine (g 0) (g 2) post x y τ := by
  have h1 := (h00 h).1
  have i3 : (¬ y < 0 ∧ ¬ (2 : Int32) < y) ↔ vp_in y 3 := is_vin (n := 3) (by decide)
  unfold q_X8_ofMachine q_X8_ofMachine_41
  rintro _ rfl
  refine s_X8_isMachine (fun r hr => ⟨fun q => s_X8_is (fun r2 hr2 => ⟨fun z => x_refuse (x2 (hr.t q) (fun w => hr2.f z (i3.mpr w))), fun z => ?_⟩), fun q => x_refuse (x1 (hr.f q))⟩)
  obtain ⟨m, hm, rfl⟩ := vin_ex (by decide) (hr.t q)
  obtain ⟨w, hw, rfl⟩ := vin_ex (by decide) (i3.mp (hr2.t z))
  exact x_ofMachineNow h1 hm hw (hp m w hm hw rfl rfl)
theorem j_ofMachine {K : Int32 → Mem → Int64 → Value → Int32 → Mem → Prop} (h : RR σ g τ nF) (hp : J1 g K) : q_L_ofMachine (fun k1 σ2 n3 v4 => q_X8_ofMachine (g 0) (g 2) (fun r5 τ6 => K k1 σ2 n3 v4 r5 τ6) a1 a2 τ) a1 a2 n v σ := by
  unfold q_L_ofMachine
  refine s_X5_ofMachine h.ci (fun c => Or.inl ⟨rfl, x_ofMachine h (fun _ => hp _ _ _ _ _ _ _ h.ref rf_0 (no1 (by decide))) (fun a => absurd a c) (fun m w hm hw e e2 => absurd (by rw [e]; exact vin_j hm (by decide)) c)⟩) (fun a c => Or.inr ⟨rfl, x_ofMachine h (fun b => absurd a b) (fun _ _ => hp _ _ _ _ _ _ _ h.ref rf_0 (no1 (by decide))) (fun m w hm hw e e2 => absurd c (sv_no (by decide) (by rw [e2]; exact vin_j hw (by decide))))⟩) (fun m hm e w hw e2 => x_ofMachine h (fun c => absurd (by rw [e]; exact vin_j hm (by decide)) c) (fun _ c => absurd (by rw [e2]; exact vin_j hw (by decide)) c) (fun m2 w2 hm2 hw2 e3 e4 => ?_))
  have em : m2 = m := nI_inj (by omega) (by omega) (e3.symm.trans e)
  have ew : w2 = w := nI_inj (by omega) (by omega) (e4.symm.trans e2)
  subst em; subst ew
  exact hp _ _ _ _ _ _ _ (h00 h).1 (h00 h).2 (fun _ => rfl)
end JQ
