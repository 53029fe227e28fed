/-! SIDE BY SIDE: what is asked of a field -/
section JO
variable {am g : Nat → Nat} {a1 a2 a3 a4 : Int32} {σ τ : Mem} {nF : Nat} {n : Int64} {v : Value}
theorem may_eq (h : RR σ g τ nF) (h0 : 0 < nF) : aM (tm (g 0) τ) nF (g 0) = σ 13 := by
  rw [(h.oi.2.2.2 h0).1, (ag_a h.ag h.ci.lv).1]
theorem x_ofFieldNow {post : Int32 → Mem → Prop} {f w : Nat} (h : RR σ g τ nF) (hf : f < nF) (hw : w < 7) (hp : ∀ ρ : Mem, WY τ ρ → post (fdA σ (g 2) f w) ρ) : q_X8_ofFieldNow (g 0) (g 2) post (nI f) (nI w) τ := by
  have h5 := h.lv.1
  have hf5 : f < 5 := by omega
  have hv : vp_in (nI f) 5 := vin_j hf5 (by decide)
  have em := may_eq h (by omega)
  have ew : ∀ k : Nat, k < 7 → nI w = nI k → w = k := fun k hk z => nI_inj (by omega) (by omega) z
  have e1 : σ 2 f = τ 1 f := h.ag 2 f (by decide) (by decide) (by omega)
  have e2 : σ 3 f = τ 2 f := h.ag 3 f (by decide) (by decide) (by omega)
  unfold q_X8_ofFieldNow q_X8_ofFieldNow_92
  rw [nI_clamp (show f < 2 ^ 31 by omega)]
  refine ⟨fun q => ?_, fun q => ⟨hv, ?_⟩, fun q => s_mayBe h.lv hf5 ?_, fun q => s_mayBe h.lv hf5 (s_bitCount ?_), fun q => x_whatIs h hf (fun ρ hs => ?_), fun q => ⟨hv, ?_⟩, fun q => x_best h (fun r ρ hρ hr hb => ⟨fun z => ?_, fun z => ⟨hv, ?_⟩⟩)⟩
  · have w6 : w = 6 := by
      unfold sw_out at q
      rw [nI_toInt (by omega)] at q
      omega
    subst w6
    exact x_changed h hf5 (hp τ WY.rf)
  · have := ew 0 (by decide) q; subst this
    rw [← e1]; exact hp τ WY.rf
  · have := ew 1 (by decide) q; subst this
    rw [em]; exact hp _ put_wy
  · have := ew 2 (by decide) q; subst this
    rw [em]; exact hp _ put_wy
  · have := ew 3 (by decide) q; subst this
    exact hp ρ hs.wy
  · have := ew 4 (by decide) q; subst this
    rw [← e2]; exact hp τ WY.rf
  · have := ew 5 (by decide) q; subst this
    have e : σ 18 4 = -1 := Classical.byContradiction (fun y => hr.f z y)
    have k := hp ρ hρ
    have e3 : fdA σ (g 2) f 5 = -1 := best_none h e f hf5
    rwa [e3] at k
  · have := ew 5 (by decide) q; subst this
    rw [(hb (hr.t z)).2 f hf]; exact hp ρ hρ
theorem x_ofField {post : Int32 → Mem → Prop} {x y : Int32} (h : RR σ g τ nF) (x1 : ¬ vp_in x nF → post 0 (mst (mst τ 0 0 0) 0 0 1)) (x2 : vp_in x nF → ¬ vp_in y 7 → post 0 (mst (mst τ 0 0 0) 0 0 2)) (hp : ∀ f w : Nat, f < nF → w < 7 → x = nI f → y = nI w → ∀ ρ : Mem, WE τ ρ → ρ 0 0 = 0 → post (fdA σ (g 2) f w) ρ) : q_X8_ofField (g 0) (g 2) post x y τ := by
  have h1 := (h00 h).1
  have z0 := (h00 h).2
  have h5 := h.lv.1
  have w1 : WE τ (mst τ 0 0 0) := mst0_we (by omega)
  have i7 : (¬ y < 0 ∧ ¬ (6 : Int32) < y) ↔ vp_in y 7 := is_vin (n := 7) (by decide)
  unfold q_X8_ofField q_X8_ofField_43
  rintro _ rfl
  refine s_X8_isField h1.lv (fun r hr => ⟨fun q => s_X8_is (fun r2 hr2 => ⟨fun z => x_refuse (x2 (hr.t q) (fun w => hr2.f z (i7.mpr w))), fun z => ?_⟩), fun q => x_refuse (x1 (hr.f q))⟩)
  obtain ⟨f, hf, rfl⟩ := vin_ex (by omega) (hr.t q)
  obtain ⟨w, hw, rfl⟩ := vin_ex (by decide) (i7.mp (hr2.t z))
  exact x_ofFieldNow h1 hf hw (fun ρ hs => hp f w hf hw rfl rfl ρ (w1.trans hs.1) (hs.z.trans z0))
theorem j_ofField {K : Int32 → Mem → Int64 → Value → Int32 → Mem → Prop} (h : RR σ g τ nF) (hp : J1 g K) : q_L_ofField (fun k1 σ2 n3 v4 => q_X8_ofField (g 0) (g 2) (fun r5 τ6 => K k1 σ2 n3 v4 r5 τ6) a1 a2 τ) a1 a2 n v σ := by
  have h5 := h.lv.1
  unfold q_L_ofField
  refine s_X5_ofField h.ci (fun c => Or.inl ⟨rfl, x_ofField h (fun _ => hp _ _ _ _ _ _ _ h.ref rf_0 (no1 (by decide))) (fun a => absurd a c) (fun f w hf hw e e2 => absurd (by rw [e]; exact vin_j hf (by omega)) c)⟩) (fun a c => Or.inr ⟨rfl, x_ofField h (fun b => absurd a b) (fun _ _ => hp _ _ _ _ _ _ _ h.ref rf_0 (no1 (by decide))) (fun f w hf hw e e2 => absurd c (sv_no (by decide) (by rw [e2]; exact vin_j hw (by decide))))⟩) (fun f hf e w hw e2 => x_ofField h (fun c => absurd (by rw [e]; exact vin_j hf (by omega)) c) (fun _ c => absurd (by rw [e2]; exact vin_j hw (by decide)) c) (fun f2 w2 hf2 hw2 e3 e4 ρ wr z0 => ?_))
  have ef : f2 = f := nI_inj (by omega) (by omega) (e3.symm.trans e)
  have ew : w2 = w := nI_inj (by omega) (by omega) (e4.symm.trans e2)
  subst ef; subst ew
  exact hp _ _ _ _ _ _ _ (h.w wr) z0 (fun _ => rfl)
end JO
