/-! THE DIGEST, the reference's way -/
def Dg (τ ρ : Mem) (s : Int64) : Prop := WE τ ρ ∧ ρ 0 0 = 0 ∧ dl64 (ρ 0 14) (ρ 0 15) = s
theorem mlg_14 {τ : Mem} {x : Int64} : dl64 (mlg τ 0 14 x 0 14) (mlg τ 0 14 x 0 15) = x := by
  unfold mlg
  rw [mst_eq, upd_ne (by decide), mst_eq, upd_eq, upd_eq]
  exact dl64_ok x
theorem Dg.mv {τ ρ χ : Mem} {s : Int64} (h : Dg τ ρ s) (w : WY ρ χ) : Dg τ χ s := ⟨h.1.trans w.1, w.z.trans h.2.1, by rw [w.2 14 (Or.inr (Nat.le_refl _)), w.2 15 (Or.inr (by decide))]; exact h.2.2⟩
theorem x_add {n c : Nat} {post : Mem → Prop} {x : Int64} {τ χ : Mem} {s : Int64} (w : Dg τ χ s) (hp : ∀ ω : Mem, Dg τ ω (s * 31 + x) → post ω) : q_X8_add n c post x χ := by
  unfold q_X8_add
  rintro _ rfl
  rw [w.2.2]
  refine hp _ ⟨w.1.trans mlg_we, ?_, mlg_14⟩
  unfold mlg
  rw [mst_eq, upd_ne (by decide), mst_eq, upd_ne (by decide)]
  exact w.2.1
section JG7
variable {am g : Nat → Nat} {a1 a2 a3 a4 : Int32} {σ τ : Mem} {nF : Nat} {n : Int64} {v : Value}
theorem x_digest {post : Int64 → Mem → Prop} (h : RR σ g τ nF) (hp : ∀ ρ : Mem, WE τ ρ → ρ 0 0 = 0 → post (DG σ nF (g 0) (g 2)) ρ) : q_X8_digest (g 0) (g 2) post τ := by
  have hL := h.lv
  have h5 := hL.1
  have h30 := hL.2.1
  have h12 := h.ci.2.1
  have e249 : ∀ (x : Int64) (ρ : Mem), Dg τ ρ x → (∀ χ : Mem, Dg τ χ (x * 31 + 1) → post (x * 31 + 1) χ) → q_X8_digest_249 (g 0) (g 2) post ρ := fun x ρ w hp => by
    unfold q_X8_digest_249 q_X8_digest_262
    refine x_isSoundNow (h.w w.1) (fun χ w2 => ⟨fun z => absurd z (by decide), fun _ => x_add (w.mv w2) (fun ω w3 => ?_)⟩)
    rw [w3.2.2]
    exact hp ω w3
  have e196 : ∀ (x : Int64) (ρ : Mem), Dg τ ρ x → (∀ χ : Mem, Dg τ χ ((dg6 σ nF (g 2) x) * 31 + 1) → post ((dg6 σ nF (g 2) x) * 31 + 1) χ) → q_X8_digest_196 (g 0) (g 2) post ρ := fun x ρ w hp => by
    unfold q_X8_digest_196
    have key : ∀ (d k : Nat) (x : Int64) (ρ : Mem), k + d = g 2 → Dg τ ρ x → (∀ χ : Mem, Dg τ χ ((dgD (fun k s => dgS (fun f => σ (27 + k) f) nF 0 s) d k x) * 31 + 1) → post ((dgD (fun k s => dgS (fun f => σ (27 + k) f) nF 0 s) d k x) * 31 + 1) χ) → lp_2 (q_X8_digest_198 (g 0) (g 2) post (q_X8_digest_249 (g 0) (g 2) post)) (d + 1) (nI k) ρ := by
      intro d
      induction d with
      | zero =>
        intro k x ρ hk w hp
        show q_X8_digest_198 _ _ _ _ _ _ _
        unfold q_X8_digest_198
        exact ⟨fun _ => e249 x ρ w hp, fun q => absurd (nI_le (by omega) (by omega)) q⟩
      | succ d ih =>
        intro k x ρ hk w hp
        rw [dgD_s] at hp
        show q_X8_digest_198 _ _ _ _ _ _ _
        unfold q_X8_digest_198
        refine ⟨fun q => absurd ((nI_leI (by omega) (by omega)).mp q) (by omega), fun _ => ?_⟩
        have inner : ∀ (d2 f : Nat) (x : Int64) (χ : Mem), f + d2 = nF → Dg τ χ x → (∀ χ : Mem, Dg τ χ ((dgD (fun k s => dgS (fun f => σ (27 + k) f) nF 0 s) d (k + 1) (dgS (fun f => σ (27 + k) f) d2 f x)) * 31 + 1) → post ((dgD (fun k s => dgS (fun f => σ (27 + k) f) nF 0 s) d (k + 1) (dgS (fun f => σ (27 + k) f) d2 f x)) * 31 + 1) χ) → lp_3 (q_X8_digest_211 (g 0) (g 2) post (q_X8_digest_243 (g 0) (g 2) post (q_X8_digest_249 (g 0) (g 2) post) (lp_2 (q_X8_digest_198 (g 0) (g 2) post (q_X8_digest_249 (g 0) (g 2) post)) (d + 1)))) (d2 + 1) (nI k) (nI f) χ := by
          intro d2
          induction d2 with
          | zero =>
            intro f x χ hf w9 hp
            show q_X8_digest_211 _ _ _ _ _ _ _ _
            unfold q_X8_digest_211 q_X8_digest_243
            rw [nfm (w9.1.lv hL)]
            refine ⟨fun _ => ?_, fun q => absurd (nI_le (by omega) (by omega)) q⟩
            rintro _ rfl
            rw [nI_1]
            exact ih (k + 1) x χ (by omega) w9 hp
          | succ d2 ih2 =>
            intro f x χ hf w9 hp
            rw [dgS_s] at hp
            show q_X8_digest_211 _ _ _ _ _ _ _ _
            unfold q_X8_digest_211
            rw [nfm (w9.1.lv hL), nI_clamp (show f < 2 ^ 31 by omega)]
            refine ⟨fun q => absurd ((nI_leI (by omega) (by omega)).mp q) (by omega), fun _ => ⟨k, ⟨by omega, rfl⟩, vin_j (by omega) (by decide), x_add w9 (fun ω w3 => ?_)⟩⟩
            rintro _ rfl
            rw [nI_1]
            rw [← (h.w w9.1).kp k f (by omega) (by omega)] at w3
            exact ih2 (f + 1) _ ω (by omega) w3 hp
        exact ⟨nF + 1, inner nF 0 x ρ (Nat.zero_add _) w hp⟩
    exact ⟨g 2 + 1, key (g 2) 0 x ρ (Nat.zero_add _) w hp⟩
  have e127 : ∀ (x : Int64) (ρ : Mem), Dg τ ρ x → (∀ χ : Mem, Dg τ χ ((dg6 σ nF (g 2) (dg5 σ nF x)) * 31 + 1) → post ((dg6 σ nF (g 2) (dg5 σ nF x)) * 31 + 1) χ) → q_X8_digest_127 (g 0) (g 2) post ρ := fun x ρ w hp => by
    unfold q_X8_digest_127
    have key : ∀ (d m : Nat) (x : Int64) (ρ : Mem), m + d = 6 → Dg τ ρ x → (∀ χ : Mem, Dg τ χ ((dg6 σ nF (g 2) (dgD (fun m s => dgS (fun f => σ (39 + m) f) nF 0 (dgS (mcA σ m) 3 0 s)) d m x)) * 31 + 1) → post ((dg6 σ nF (g 2) (dgD (fun m s => dgS (fun f => σ (39 + m) f) nF 0 (dgS (mcA σ m) 3 0 s)) d m x)) * 31 + 1) χ) → lp_2 (q_X8_digest_129 (g 0) (g 2) post (q_X8_digest_196 (g 0) (g 2) post)) (d + 1) (nI m) ρ := by
      intro d
      induction d with
      | zero =>
        intro m x ρ hm w hp
        show q_X8_digest_129 _ _ _ _ _ _ _
        unfold q_X8_digest_129
        rw [show m = 6 by omega]
        exact ⟨fun _ => e196 x ρ w hp, fun z => absurd (by decide) z⟩
      | succ d ih =>
        intro m x ρ hm w hp
        rw [dgD_s] at hp
        show q_X8_digest_129 _ _ _ _ _ _ _
        have hm6 : m < 6 := by omega
        unfold q_X8_digest_129
        refine ⟨fun z => absurd ((nI_leI (a := 6) (b := m) (by decide) (by omega)).mp z) (by omega), fun _ => ?_⟩
        have two : ∀ (d2 f : Nat) (x : Int64) (χ : Mem), f + d2 = nF → Dg τ χ x → (∀ χ : Mem, Dg τ χ ((dg6 σ nF (g 2) (dgD (fun m s => dgS (fun f => σ (39 + m) f) nF 0 (dgS (mcA σ m) 3 0 s)) d (m + 1) (dgS (fun f => σ (39 + m) f) d2 f x))) * 31 + 1) → post ((dg6 σ nF (g 2) (dgD (fun m s => dgS (fun f => σ (39 + m) f) nF 0 (dgS (mcA σ m) 3 0 s)) d (m + 1) (dgS (fun f => σ (39 + m) f) d2 f x))) * 31 + 1) χ) → lp_3 (q_X8_digest_161 (g 0) (g 2) post (q_X8_digest_190 (g 0) (g 2) post (q_X8_digest_196 (g 0) (g 2) post) (lp_2 (q_X8_digest_129 (g 0) (g 2) post (q_X8_digest_196 (g 0) (g 2) post)) (d + 1)))) (d2 + 1) (nI m) (nI f) χ := by
          intro d2
          induction d2 with
          | zero =>
            intro f x χ hf w9 hp
            show q_X8_digest_161 _ _ _ _ _ _ _ _
            unfold q_X8_digest_161 q_X8_digest_190
            rw [nfm (w9.1.lv hL)]
            refine ⟨fun _ => ?_, fun q => absurd (nI_le (by omega) (by omega)) q⟩
            rintro _ rfl
            rw [nI_1]
            exact ih (m + 1) x χ (by omega) w9 hp
          | succ d2 ih2 =>
            intro f x χ hf w9 hp
            rw [dgS_s] at hp
            obtain ⟨i1, i2⟩ := ix30 hm6 (show f < 5 by omega)
            show q_X8_digest_161 _ _ _ _ _ _ _ _
            unfold q_X8_digest_161
            rw [nfm (w9.1.lv hL), i2]
            refine ⟨fun q => absurd ((nI_leI (by omega) (by omega)).mp q) (by omega), fun _ => ⟨i1, x_add w9 (fun ω w3 => ?_)⟩⟩
            rintro _ rfl
            rw [nI_1]
            rw [← (h.w w9.1).ha m f hm6 (by omega)] at w3
            exact ih2 (f + 1) _ ω (by omega) w3 hp
        have one : ∀ (d2 i : Nat) (x : Int64) (χ : Mem), i + d2 = 3 → Dg τ χ x → (∀ χ : Mem, Dg τ χ ((dg6 σ nF (g 2) (dgD (fun m s => dgS (fun f => σ (39 + m) f) nF 0 (dgS (mcA σ m) 3 0 s)) d (m + 1) (dgS (fun f => σ (39 + m) f) nF 0 (dgS (mcA σ m) d2 i x)))) * 31 + 1) → post ((dg6 σ nF (g 2) (dgD (fun m s => dgS (fun f => σ (39 + m) f) nF 0 (dgS (mcA σ m) 3 0 s)) d (m + 1) (dgS (fun f => σ (39 + m) f) nF 0 (dgS (mcA σ m) d2 i x)))) * 31 + 1) χ) → lp_3 (q_X8_digest_137 (g 0) (g 2) post (q_X8_digest_159 (g 0) (g 2) post (q_X8_digest_196 (g 0) (g 2) post) (lp_2 (q_X8_digest_129 (g 0) (g 2) post (q_X8_digest_196 (g 0) (g 2) post)) (d + 1)))) (d2 + 1) (nI m) (nI i) χ := by
          intro d2
          induction d2 with
          | zero =>
            intro i x χ hi w9 hp
            show q_X8_digest_137 _ _ _ _ _ _ _ _
            unfold q_X8_digest_137 q_X8_digest_159
            rw [show i = 3 by omega]
            exact ⟨fun _ => ⟨nF + 1, two nF 0 x χ (Nat.zero_add _) w9 hp⟩, fun z => absurd (by decide) z⟩
          | succ d2 ih2 =>
            intro i x χ hi w9 hp
            rw [dgS_s] at hp
            show q_X8_digest_137 _ _ _ _ _ _ _ _
            unfold q_X8_digest_137
            refine ⟨fun z => absurd ((nI_leI (a := 3) (b := i) (by decide) (by omega)).mp z) (by omega), fun _ => x_ofMachineNow (h.w w9.1) hm6 (by omega) (x_add w9 (fun ψ w4 => ?_))⟩
            rintro _ rfl
            rw [nI_1]
            exact ih2 (i + 1) _ ψ (by omega) w4 hp
        exact ⟨4, one 3 0 x ρ rfl w hp⟩
    exact ⟨7, key 6 0 x ρ rfl w hp⟩
  have e87 : ∀ (x : Int64) (ρ : Mem), Dg τ ρ x → (∀ χ : Mem, Dg τ χ ((dg6 σ nF (g 2) (dg5 σ nF (dg4 σ (g 0) (dg3 σ nF (g 0) x)))) * 31 + 1) → post ((dg6 σ nF (g 2) (dg5 σ nF (dg4 σ (g 0) (dg3 σ nF (g 0) x)))) * 31 + 1) χ) → q_X8_digest_87 (g 0) (g 2) post ρ := fun x ρ w hp => by
    unfold q_X8_digest_87
    refine x_reasonFor (h.w w.1) (Or.inl rfl) (fun χ hs => x_add (w.mv hs.wy) (fun ω w4 => ?_))
    have key : ∀ (d j : Nat) (x : Int64) (ρ : Mem), j + d = g 0 → Dg τ ρ x → (∀ χ : Mem, Dg τ χ ((dg6 σ nF (g 2) (dg5 σ nF (dgS (fun j => if ctP σ j then 1 else 0) d j x))) * 31 + 1) → post ((dg6 σ nF (g 2) (dg5 σ nF (dgS (fun j => if ctP σ j then 1 else 0) d j x))) * 31 + 1) χ) → lp_2 (q_X8_digest_99 (g 0) (g 2) post (q_X8_digest_127 (g 0) (g 2) post)) (d + 1) (nI j) ρ := by
      intro d
      induction d with
      | zero =>
        intro j x ρ hj w hp
        show q_X8_digest_99 _ _ _ _ _ _ _
        unfold q_X8_digest_99
        exact ⟨fun _ => e127 x ρ w hp, fun q => absurd (nI_le (by omega) (by omega)) q⟩
      | succ d ih =>
        intro j x ρ hj w hp
        rw [dgS_s] at hp
        show q_X8_digest_99 _ _ _ _ _ _ _
        unfold q_X8_digest_99
        refine ⟨fun q => absurd ((nI_leI (by omega) (by omega)).mp q) (by omega), fun _ => x_ofLineNow (w := 5) (h.w w.1) (by omega) (by decide) (fun χ2 w5 => x_add (w.mv w5.wy) (fun ψ w6 => ?_))⟩
        rintro _ rfl
        rw [nI_1]
        exact ih (j + 1) _ ψ (by omega) w6 hp
    exact ⟨g 0 + 1, key (g 0) 0 _ ω (Nat.zero_add _) w4 hp⟩
  have e36 : ∀ (x : Int64) (ρ : Mem), Dg τ ρ x → (∀ χ : Mem, Dg τ χ ((dg6 σ nF (g 2) (dg5 σ nF (dg4 σ (g 0) (dg3 σ nF (g 0) (dg2 σ nF (g 0) (g 2) x))))) * 31 + 1) → post ((dg6 σ nF (g 2) (dg5 σ nF (dg4 σ (g 0) (dg3 σ nF (g 0) (dg2 σ nF (g 0) (g 2) x))))) * 31 + 1) χ) → q_X8_digest_36 (g 0) (g 2) post ρ := fun x ρ w hp => by
    unfold q_X8_digest_36
    have key : ∀ (d f : Nat) (x : Int64) (ρ : Mem), f + d = nF → Dg τ ρ x → (∀ χ : Mem, Dg τ χ ((dg6 σ nF (g 2) (dg5 σ nF (dg4 σ (g 0) (dg3 σ nF (g 0) (dgD (fun f s => (dgS (fdA σ (g 2) f) 7 0 s) * 31 + ((rsF nF (g 0) (nI f) σ).1).toInt64) d f x))))) * 31 + 1) → post ((dg6 σ nF (g 2) (dg5 σ nF (dg4 σ (g 0) (dg3 σ nF (g 0) (dgD (fun f s => (dgS (fdA σ (g 2) f) 7 0 s) * 31 + ((rsF nF (g 0) (nI f) σ).1).toInt64) d f x))))) * 31 + 1) χ) → lp_2 (q_X8_digest_38 (g 0) (g 2) post (q_X8_digest_87 (g 0) (g 2) post)) (d + 1) (nI f) ρ := by
      intro d
      induction d with
      | zero =>
        intro f x ρ hf w hp
        show q_X8_digest_38 _ _ _ _ _ _ _
        unfold q_X8_digest_38
        rw [nfm (w.1.lv hL)]
        exact ⟨fun _ => e87 x ρ w hp, fun q => absurd (nI_le (by omega) (by omega)) q⟩
      | succ d ih =>
        intro f x ρ hf w hp
        rw [dgD_s] at hp
        show q_X8_digest_38 _ _ _ _ _ _ _
        unfold q_X8_digest_38
        rw [nfm (w.1.lv hL)]
        have hfn : f < nF := by omega
        refine ⟨fun q => absurd ((nI_leI (by omega) (by omega)).mp q) (by omega), fun _ => ?_⟩
        have inner : ∀ (d2 i : Nat) (x : Int64) (χ : Mem), i + d2 = 7 → Dg τ χ x → (∀ χ : Mem, Dg τ χ ((dg6 σ nF (g 2) (dg5 σ nF (dg4 σ (g 0) (dg3 σ nF (g 0) (dgD (fun f s => (dgS (fdA σ (g 2) f) 7 0 s) * 31 + ((rsF nF (g 0) (nI f) σ).1).toInt64) d (f + 1) ((dgS (fdA σ (g 2) f) d2 i x) * 31 + ((rsF nF (g 0) (nI f) σ).1).toInt64)))))) * 31 + 1) → post ((dg6 σ nF (g 2) (dg5 σ nF (dg4 σ (g 0) (dg3 σ nF (g 0) (dgD (fun f s => (dgS (fdA σ (g 2) f) 7 0 s) * 31 + ((rsF nF (g 0) (nI f) σ).1).toInt64) d (f + 1) ((dgS (fdA σ (g 2) f) d2 i x) * 31 + ((rsF nF (g 0) (nI f) σ).1).toInt64)))))) * 31 + 1) χ) → lp_3 (q_X8_digest_48 (g 0) (g 2) post (q_X8_digest_71 (g 0) (g 2) post (q_X8_digest_87 (g 0) (g 2) post) (lp_2 (q_X8_digest_38 (g 0) (g 2) post (q_X8_digest_87 (g 0) (g 2) post)) (d + 1)))) (d2 + 1) (nI f) (nI i) χ := by
          intro d2
          induction d2 with
          | zero =>
            intro i x χ hi w9 hp
            show q_X8_digest_48 _ _ _ _ _ _ _ _
            unfold q_X8_digest_48 q_X8_digest_71
            rw [show i = 7 by omega]
            refine ⟨fun _ => x_reasonFor (h.w w9.1) (Or.inr (vin_j (by omega) (by omega))) (fun ω hs => x_add (w9.mv hs.wy) (fun ψ w4 => ?_)), fun z => absurd (by decide) z⟩
            rintro _ rfl
            rw [nI_1]
            exact ih (f + 1) _ ψ (by omega) w4 hp
          | succ d2 ih2 =>
            intro i x χ hi w9 hp
            rw [dgS_s] at hp
            show q_X8_digest_48 _ _ _ _ _ _ _ _
            unfold q_X8_digest_48
            refine ⟨fun z => absurd ((nI_leI (a := 7) (b := i) (by decide) (by omega)).mp z) (by omega), fun _ => x_ofFieldNow (h.w w9.1) hfn (by omega) (fun ω w3 => x_add (w9.mv w3) (fun ψ w4 => ?_))⟩
            rintro _ rfl
            rw [nI_1]
            exact ih2 (i + 1) _ ψ (by omega) w4 hp
        exact ⟨8, inner 7 0 x ρ rfl w hp⟩
    exact ⟨nF + 1, key nF 0 x ρ (Nat.zero_add _) w hp⟩
  have step : ∀ (w : Nat) (x : Int64) (ρ : Mem) (K : Mem → Prop), w < 9 → Dg τ ρ x → (∀ χ : Mem, Dg τ χ (x * 31 + (hoA σ nF (g 0) (g 2) w).toInt64) → K χ) → q_X8_houseNow (g 0) (g 2) (fun (r3 : Int32) (σ4 : Mem) => q_X8_add (g 0) (g 2) (fun (σ6 : Mem) => K σ6) (r3.toInt64) σ4) (nI w) ρ := fun w x ρ K hw wd hK => x_houseNow (h.w wd.1) hw (fun χ w2 => x_add (wd.mv w2) hK)
  unfold q_X8_digest
  rintro _ rfl _ rfl
  have w0 : Dg τ (mlg (mst τ 0 0 0) 0 14 7703) 7703 := ⟨(mst0_we (by omega)).trans mlg_we, by unfold mlg; rw [mst_eq, upd_ne (by decide), mst_eq, upd_ne (by decide), mst_eq, upd_eq], mlg_14⟩
  exact step 0 _ _ _ (by decide) w0 (fun χ w => step 1 _ _ _ (by decide) w (fun χ w => step 2 _ _ _ (by decide) w (fun χ w => step 3 _ _ _ (by decide) w (fun χ w => step 4 _ _ _ (by decide) w (fun χ w => step 5 _ _ _ (by decide) w (fun χ w => step 6 _ _ _ (by decide) w (fun χ w => step 7 _ _ _ (by decide) w (fun χ w => step 8 _ _ _ (by decide) w (fun χ w => e36 _ χ w (fun ρ wρ => hp ρ wρ.1 wρ.2.1))))))))))
end JG7
