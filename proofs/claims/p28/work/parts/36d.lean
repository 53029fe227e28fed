/-! SIDE BY SIDE: how many choices there are with a number -/
section JD
variable {am g : Nat → Nat} {a1 a2 a3 a4 : Int32} {σ τ : Mem} {nF : Nat} {n : Int64} {v : Value}
theorem qe_ct {nL nC f : Nat} {p : Int32} (h : CI σ nF nL nC) : QE σ (ctR nF nL σ f p) := by
  refine ⟨fun p hp => ?_, ?_, ctR_best.2 4 (by decide), ctR_best.2 5 (by decide)⟩
  · by_cases e : p = 21
    · subst e; exact ctR_best.1
    · exact ctR_fr (by unfold chK; omega) (by omega) _ _ _
  · rw [ctR_fr (by unfold chK; omega) (by decide)]; exact h.2.2.2.2.1
theorem x_choices {post : Int32 → Mem → Prop} {x y : Int32} (h : RR σ g τ nF) (x1 : ¬ vp_in x nF → post 0 (mst (mst τ 0 0 0) 0 0 1)) (x2 : vp_in x nF → ¬ vp_in y 8 → post 0 (mst (mst τ 0 0 0) 0 0 2)) (hp : ∀ f : Nat, f < nF → x = nI f → vp_in y 8 → ∀ ρ : Mem, WE τ ρ → ρ 0 0 = 0 → post (ctR nF (g 0) σ f y 18 6) ρ) : q_X8_choices (g 0) (g 2) post x y τ := by
  have h1 := (h00 h).1
  have z0 := (h00 h).2
  have h5 := h.lv.1
  have w1 : WE τ (mst τ 0 0 0) := mst0_we (by omega)
  have i8 : (¬ y < 0 ∧ ¬ (7 : Int32) < y) ↔ vp_in y 8 := is_vin (n := 8) (by decide)
  unfold q_X8_choices
  rintro _ rfl
  have c1 : ¬ vp_in x nF → post 0 (mst (mst τ 0 0 0) 0 0 1) := x1
  refine s_X8_isField h1.lv (fun r hr => ⟨fun q => s_X8_is (fun r2 hr2 => ⟨fun z => ?_, fun z => x_refuse (x2 (hr.t q) (fun w => hr2.f z (i8.mpr w)))⟩), fun q => x_refuse (c1 (hr.f q))⟩)
  generalize mst τ 0 0 0 = τ1 at h1 z0 w1
  have hy := i8.mp (hr2.t z)
  obtain ⟨f, hf, rfl⟩ := vin_ex (by omega) (hr.t q)
  obtain ⟨N, hN, rfl⟩ := vin_ex (by decide) hy
  have hc : ctR nF (g 0) σ f (nI N) 18 6 = nI (cv_cf (cv_P (tm (g 0) τ1) (stF (tm (g 0) τ1) (g 0) 0 0) (g 0) nF (cv_al f N)) nF 0 (fun _ => 0) 0) := by
    rw [ct_cf h1.ci.lv hf h1.bw.2.1 (fun i _ => by rw [(h1.oi.2.2.2 (by omega)).1]; rfl), ← ag_st h1.ag h1.ci.lv (g 0) 0 0 (Nat.zero_add _), ← P_ag h1.ag h1.lv.2.1]
  have hp2 := hp f hf rfl hy
  rw [hc] at hp2
  exact s_counting h1.lv (x_count h1.lv hf hN (fun ρ hρ => hp2 ρ (w1.trans hρ.1) (hρ.z.trans z0)))
theorem j_choices {K : Int32 → Mem → Int64 → Value → Int32 → Mem → Prop} (h : RR σ g τ nF) (hp : J1 g K) : q_L_choices (fun k1 σ2 n3 v4 => q_X8_choices (g 0) (g 2) (fun r5 τ6 => K k1 σ2 n3 v4 r5 τ6) a1 a2 τ) a1 a2 n v σ := by
  have h5 := h.lv.1
  unfold q_L_choices
  refine s_X5_choices h.ci (fun c => Or.inl ⟨rfl, x_choices h (fun _ => hp _ _ _ _ _ _ _ h.ref rf_0 (no1 (by decide))) (fun a => absurd a c) (fun f hf e _ => absurd (by rw [e]; exact vin_j hf (by omega)) c)⟩) (fun a c => Or.inr ⟨rfl, x_choices h (fun b => absurd a b) (fun _ _ => hp _ _ _ _ _ _ _ h.ref rf_0 (no1 (by decide))) (fun _ _ _ b => absurd b c)⟩) (fun f hf e b => x_choices h (fun c => absurd (by rw [e]; exact vin_j hf (by omega)) c) (fun _ c => absurd b c) (fun f2 hf2 e2 _ ρ wr z0 => ?_))
  have ef : f2 = f := nI_inj (by omega) (by omega) (e2.symm.trans e)
  subst ef
  have qe := qe_ct (f := f2) (p := a2) h.ci
  exact hp _ _ _ _ _ _ _ (h.q qe.1 qe.2 wr) z0 (fun _ => rfl)
end JD
