/-! SIDE BY SIDE: reason, ofLine -/
section JL
variable {am g : Nat → Nat} {a1 a2 a3 a4 : Int32} {σ τ : Mem} {nF : Nat} {n : Int64} {v : Value}
theorem x_reason {post : Int32 → Mem → Prop} {x : Int32} (h : RR σ g τ nF) (x1 : ¬ (x = -1 ∨ vp_in x nF) → post 0 (mst (mst τ 0 0 0) 0 0 1)) (hp : (x = -1 ∨ vp_in x nF) → ∀ ρ : Mem, WE τ ρ → ρ 0 0 = 0 → post (rsF nF (g 0) x σ).1 ρ) : q_X8_reason (g 0) (g 2) post x τ := by
  have h1 := (h00 h).1
  have z0 := (h00 h).2
  have w1 : WE τ (mst τ 0 0 0) := mst0_we (by omega)
  unfold q_X8_reason q_X8_reason_18 q_X8_reason_31
  rintro _ rfl
  exact ⟨fun q => x_reasonFor h1 (Or.inl q) (fun ρ hs => hp (Or.inl q) ρ (w1.trans hs.we) (by rw [hs 0 (by decide)]; exact z0)), fun q => s_X8_isField h1.lv (fun r hr => ⟨fun z => x_refuse (x1 (fun w => w.elim q (hr.f z))), fun z => x_reasonFor h1 (Or.inr (hr.t z)) (fun ρ hs => hp (Or.inr (hr.t z)) ρ (w1.trans hs.we) (by rw [hs 0 (by decide)]; exact z0))⟩)⟩
theorem j_reason {K : Int32 → Mem → Int64 → Value → Int32 → Mem → Prop} (h : RR σ g τ nF) (hp : J1 g K) : q_L_reason (fun k1 σ2 n3 v4 => q_X8_reason (g 0) (g 2) (fun r5 τ6 => K k1 σ2 n3 v4 r5 τ6) a1 τ) a1 n v σ := by
  have qe := qe_ae h.ci (rsF_ae (nF := nF) (nL := g 0) (x := a1) h.ci.2.2.2.2.1)
  unfold q_L_reason
  exact s_X5_reason h.ci (fun c => ⟨rfl, x_reason h (fun _ => hp _ _ _ _ _ _ _ h.ref rf_0 (no1 (by decide))) (fun a => absurd a c)⟩) (fun a => x_reason h (fun c => absurd a c) (fun _ ρ w z0 => hp _ _ _ _ _ _ _ (h.q qe.1 qe.2 w) z0 (fun _ => rfl)))
theorem x_ofLineNow {j w : Nat} {post : Int32 → Mem → Prop} (h : RR σ g τ nF) (hj : j < g 0) (hw : w < 7) (hp : ∀ ρ : Mem, SE τ ρ → post (liA σ nF (g 0) j w) ρ) : q_X8_ofLineNow (g 0) (g 2) post (nI j) (nI w) τ := by
  have h30 := h.lv.2.1
  have e : ∀ p i : Nat, (p = 4 ∧ i = 0 ∨ p = 5 ∧ i = 1 ∨ p = 6 ∧ i = 2 ∨ p = 7 ∧ i = 3 ∨ p = 8 ∧ i = 4) → τ (100 + j) i = σ p j := fun p i hpi => by
    have := h.ag p j (by omega) (by omega) (by omega)
    rw [this]
    rcases hpi with ⟨rfl, rfl⟩ | ⟨rfl, rfl⟩ | ⟨rfl, rfl⟩ | ⟨rfl, rfl⟩ | ⟨rfl, rfl⟩ <;> rfl
  have ew : ∀ k : Nat, k < 7 → nI w = nI k → w = k := fun k hk z => nI_inj (by omega) (by omega) z
  unfold liA at hp
  unfold q_X8_ofLineNow q_X8_ofLineNow_90
  refine ⟨j, ⟨hj, rfl⟩, fun q => ?_, fun q => ?_, fun q => ?_, fun q => ?_, fun q => ?_, fun q => ?_, fun q => ?_⟩
  · have w6 : w = 6 := by
      unfold sw_out at q
      rw [nI_toInt (by omega)] at q
      omega
    subst w6
    refine x_reasonFor h (Or.inl rfl) (fun ρ hs => ?_)
    have := hp ρ hs
    simp only [show ¬ (6 : Nat) = 0 by decide, show ¬ (6 : Nat) = 1 by decide, show ¬ (6 : Nat) = 2 by decide, show ¬ (6 : Nat) = 3 by decide, show ¬ (6 : Nat) = 4 by decide, show ¬ (6 : Nat) = 5 by decide, if_false] at this
    rcases and1 ((rsF nF (g 0) (-1) σ).1 >>> (nI j &&& 31)) with z | z
    · rw [if_pos z] at this
      rw [z]; exact this
    · rw [if_neg (by rw [z]; decide)] at this
      rw [z]; exact this
  · have := ew 0 (by decide) q; subst this
    rw [e 4 0 (by omega)]; exact hp τ SE.rf
  · have := ew 1 (by decide) q; subst this
    rw [e 5 1 (by omega)]; exact hp τ SE.rf
  · have := ew 2 (by decide) q; subst this
    rw [e 6 2 (by omega)]; exact hp τ SE.rf
  · have := ew 3 (by decide) q; subst this
    rw [e 7 3 (by omega)]; exact hp τ SE.rf
  · have := ew 4 (by decide) q; subst this
    rw [e 8 4 (by omega)]; exact hp τ SE.rf
  · have := ew 5 (by decide) q; subst this
    have k := ag_ct h.ag h.ci.lv hj
    have hp := hp τ SE.rf
    simp only [show ¬ (5 : Nat) = 0 by decide, show ¬ (5 : Nat) = 1 by decide, show ¬ (5 : Nat) = 2 by decide, show ¬ (5 : Nat) = 3 by decide, show ¬ (5 : Nat) = 4 by decide, if_false, if_true] at hp
    refine s_X8_counts (n := g 0) (h.lv.ab hj) (fun r hr => ⟨fun z => ?_, fun z => ?_⟩)
    · rwa [if_neg (fun y => hr.f z (k.mp y))] at hp
    · rwa [if_pos (k.mpr (hr.t z))] at hp
theorem x_ofLine {post : Int32 → Mem → Prop} {x y : Int32} (h : RR σ g τ nF) (x1 : ¬ vp_in x (g 0) → post 0 (mst (mst τ 0 0 0) 0 0 1)) (x2 : vp_in x (g 0) → ¬ vp_in y 7 → post 0 (mst (mst τ 0 0 0) 0 0 2)) (hp : ∀ j w : Nat, j < g 0 → w < 7 → x = nI j → y = nI w → ∀ ρ : Mem, WE τ ρ → ρ 0 0 = 0 → post (liA σ nF (g 0) j w) ρ) : q_X8_ofLine (g 0) (g 2) post x y τ := by
  have h1 := (h00 h).1
  have z0 := (h00 h).2
  have h30 := h.lv.2.1
  have w1 : WE τ (mst τ 0 0 0) := mst0_we (by omega)
  have i7 : (¬ y < 0 ∧ ¬ (6 : Int32) < y) ↔ vp_in y 7 := is_vin (n := 7) (by decide)
  unfold q_X8_ofLine q_X8_ofLine_43
  rintro _ rfl
  refine s_X8_isLine h30 (fun r hr => ⟨fun q => s_X8_is (fun r2 hr2 => ⟨fun z => x_refuse (x2 (hr.t q) (fun w => hr2.f z (i7.mpr w))), fun z => ?_⟩), fun q => x_refuse (x1 (hr.f q))⟩)
  obtain ⟨j, hj, rfl⟩ := vin_ex (by omega) (hr.t q)
  obtain ⟨w, hw, rfl⟩ := vin_ex (by decide) (i7.mp (hr2.t z))
  exact x_ofLineNow h1 hj hw (fun ρ hs => hp j w hj hw rfl rfl ρ (w1.trans hs.we) (by rw [hs 0 (by decide)]; exact z0))
theorem j_ofLine {K : Int32 → Mem → Int64 → Value → Int32 → Mem → Prop} (h : RR σ g τ nF) (hp : J1 g K) : q_L_ofLine (fun k1 σ2 n3 v4 => q_X8_ofLine (g 0) (g 2) (fun r5 τ6 => K k1 σ2 n3 v4 r5 τ6) a1 a2 τ) a1 a2 n v σ := by
  have h30 := h.lv.2.1
  unfold q_L_ofLine
  refine s_X5_ofLine h.ci (fun c => Or.inl ⟨rfl, x_ofLine h (fun _ => hp _ _ _ _ _ _ _ h.ref rf_0 (no1 (by decide))) (fun a => absurd a c) (fun m w hm hw e e2 => absurd (by rw [e]; exact vin_j hm (by omega)) c)⟩) (fun a c => Or.inr ⟨rfl, x_ofLine h (fun b => absurd a b) (fun _ _ => hp _ _ _ _ _ _ _ h.ref rf_0 (no1 (by decide))) (fun m w hm hw e e2 => absurd c (sv_no (by decide) (by rw [e2]; exact vin_j hw (by decide))))⟩) (fun j hj e w hw e2 => x_ofLine h (fun c => absurd (by rw [e]; exact vin_j hj (by omega)) c) (fun _ c => absurd (by rw [e2]; exact vin_j hw (by decide)) c) (fun j2 w2 hj2 hw2 e3 e4 ρ wr z0 => ?_))
  have ej : j2 = j := nI_inj (by omega) (by omega) (e3.symm.trans e)
  have ew : w2 = w := nI_inj (by omega) (by omega) (e4.symm.trans e2)
  subst ej; subst ew
  have qe : QE σ (if w2 = 6 then (rsF nF (g 0) (-1) σ).2 else σ) := by
    split
    · exact qe_ae h.ci (rsF_ae h.ci.2.2.2.2.1)
    · exact qe_rf h.ci
  exact hp _ _ _ _ _ _ _ (h.q qe.1 qe.2 wr) z0 (fun _ => rfl)
end JL
