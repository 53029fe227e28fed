/-! THE REFERENCE: sound, digest, value -/
theorem r_isSoundNow {n c : Nat} {post : Int32 → Mem → Prop} {τ : Mem} (h : RG n c τ) (hc : c ≤ 12) (hp : ∀ (r : Int32) (ρ : Mem), bz r → WE τ ρ → post r ρ) : q_X8_isSoundNow n c post τ := by
  obtain ⟨⟨nF, hL⟩, hF⟩ := id h
  have h5 := hL.1
  have h30 := hL.2.1
  have p0 : ∀ ρ : Mem, WE τ ρ → post 0 ρ := fun ρ w => hp 0 ρ bz0 w
  have p1 : ∀ ρ : Mem, WE τ ρ → post 1 ρ := fun ρ w => hp 1 ρ bz1 w
  have e131 : ∀ ρ : Mem, WE τ ρ → q_X8_isSoundNow_131 n c post ρ := fun ρ w => by
    have hL2 := w.lv hL
    unfold q_X8_isSoundNow_131
    intro wi
    have key : ∀ (d j : Nat) (w1 : Int32), j + d = n → lp_5 (q_X8_isSoundNow_139 n c post (q_X8_isSoundNow_176 n c post) (q_X8_isSoundNow_181 n c post)) (d + 1) wi (nI j) w1 (ρ 3 0) ρ := by
      intro d
      induction d with
      | zero =>
        intro j w1 hj
        show q_X8_isSoundNow_139 _ _ _ _ _ _ _ _ _ _ _
        unfold q_X8_isSoundNow_139 q_X8_isSoundNow_181
        refine ⟨j, ⟨by omega, rfl⟩, ?_⟩
        rintro _ rfl
        exact ⟨fun _ => p1 ρ w, fun z => absurd (if_neg (by omega)) z⟩
      | succ d ih =>
        intro j w1 hj
        show q_X8_isSoundNow_139 _ _ _ _ _ _ _ _ _ _ _
        unfold q_X8_isSoundNow_139 q_X8_isSoundNow_178 q_X8_isSoundNow_176 q_X8_isSoundNow_181
        refine ⟨j, ⟨by omega, rfl⟩, ?_⟩
        rintro _ rfl
        refine ⟨fun _ => p1 ρ w, fun _ => ⟨j, ⟨by omega, rfl, rfl⟩, ?_⟩⟩
        rintro _ rfl _ rfl
        exact ⟨fun _ => ih (j + 1) _ (by omega), fun _ => s_X8_counts (n := n) (hL2.ab (by omega)) (fun r _ => ⟨fun _ => ih (j + 1) _ (by omega), fun _ => p0 ρ w⟩)⟩
    exact ⟨n + 1, key n 0 _ (Nat.zero_add _)⟩
  have e97 : ∀ ρ : Mem, WE τ ρ → q_X8_isSoundNow_97 n c post ρ := fun ρ w => by
    obtain ⟨-, hF2⟩ := w.rg h
    have hL2 := w.lv hL
    unfold q_X8_isSoundNow_97
    have key : ∀ (d m : Nat), m + d = 6 → lp_2 (q_X8_isSoundNow_99 n c post (q_X8_isSoundNow_123 n c post) (q_X8_isSoundNow_131 n c post)) (d + 1) (nI m) ρ := by
      intro d
      induction d with
      | zero =>
        intro m hm
        show q_X8_isSoundNow_99 _ _ _ _ _ _ _ _
        unfold q_X8_isSoundNow_99
        rw [show m = 6 by omega]
        exact ⟨fun _ => e131 ρ w, fun z => absurd (by decide) z⟩
      | succ d ih =>
        intro m hm
        show q_X8_isSoundNow_99 _ _ _ _ _ _ _ _
        unfold q_X8_isSoundNow_99 q_X8_isSoundNow_125 q_X8_isSoundNow_123
        refine ⟨fun z => absurd ((nI_leI (a := 6) (b := m) (by decide) (by omega)).mp z) (by omega), fun _ => ⟨vin_j (by omega) (by decide), fun _ => ?_, fun _ => r_drifting hL2 (hF2 m (by omega)) (by omega) hc (fun r => ⟨fun _ => ?_, fun _ => p0 ρ w⟩)⟩⟩
        · rintro _ rfl
          rw [nI_1]
          exact ih (m + 1) (by omega)
        · rintro _ rfl
          rw [nI_1]
          exact ih (m + 1) (by omega)
    exact ⟨7, key 6 0 rfl⟩
  have e76 : ∀ (x1 : Int32) (ρ : Mem), WE τ ρ → q_X8_isSoundNow_76 n c post x1 ρ := fun x1 ρ w => by
    unfold q_X8_isSoundNow_76
    refine ⟨fun _ => e97 ρ w, fun _ => w_reasonFor (w.lv hL) (Or.inl rfl) (fun r χ hs => s_meetAnew (d := 0) ((w.trans hs.we).lv hL) (by decide) ⟨fun _ => e97 _ ((w.trans hs.we).trans put_we), fun _ => p0 _ ((w.trans hs.we).trans put_we)⟩)⟩
  unfold q_X8_isSoundNow
  refine s_isContradiction hL ?_
  have w1 : WE τ (put 0 (aM (tm n τ) nF n) τ) := put_we
  generalize aC (tm n τ) nF n = x1
  generalize put 0 (aM (tm n τ) nF n) τ = τ1 at w1
  refine w_isChosen (w1.lv hL) (fun x2 τ2 w2 => ?_)
  have key : ∀ (d f : Nat) (ρ : Mem), f + d = nF → WE τ ρ → lp_4 (q_X8_isSoundNow_12 n c post (q_X8_isSoundNow_68 n c post) (q_X8_isSoundNow_76 n c post)) (d + 1) x1 x2 (nI f) ρ := by
    intro d
    induction d with
    | zero =>
      intro f ρ hf w
      show q_X8_isSoundNow_12 _ _ _ _ _ _ _ _ _ _
      unfold q_X8_isSoundNow_12
      rw [nfm (w.lv hL)]
      exact ⟨fun _ => e76 x1 ρ w, fun q => absurd (nI_le (by omega) (by omega)) q⟩
    | succ d ih =>
      intro f ρ hf w
      show q_X8_isSoundNow_12 _ _ _ _ _ _ _ _ _ _
      have e50 : ∀ (x4 : Int32) (χ : Mem), WE τ χ → q_X8_isSoundNow_50 n c post (q_X8_isSoundNow_68 n c post) (q_X8_isSoundNow_76 n c post) (lp_4 (q_X8_isSoundNow_12 n c post (q_X8_isSoundNow_68 n c post) (q_X8_isSoundNow_76 n c post)) (d + 1)) x1 x2 (nI f) x4 χ := fun x4 χ w9 => by
        have nx : q_X8_isSoundNow_70 n c post (q_X8_isSoundNow_68 n c post) (q_X8_isSoundNow_76 n c post) (lp_4 (q_X8_isSoundNow_12 n c post (q_X8_isSoundNow_68 n c post) (q_X8_isSoundNow_76 n c post)) (d + 1)) x1 x2 (nI f) χ := by
          unfold q_X8_isSoundNow_70
          rintro _ rfl
          rw [nI_1]
          exact ih (f + 1) χ (by omega) w9
        unfold q_X8_isSoundNow_50
        exact ⟨fun _ => nx, fun _ => ⟨vin_j (by omega) (by decide), fun _ => nx, fun _ => p0 χ w9⟩⟩
      unfold q_X8_isSoundNow_12
      rw [nfm (w.lv hL)]
      refine ⟨fun q => absurd ((nI_leI (by omega) (by omega)).mp q) (by omega), fun _ => s_mayBe (w.lv hL) (by omega) (w_whatIs ((w.trans put_we).lv hL) (by omega) (fun r χ hs => ?_))⟩
      have w9 : WE τ χ := (w.trans put_we).trans hs.we
      exact ⟨fun _ => e50 _ χ w9, fun _ => ⟨fun _ => p0 χ w9, fun _ => e50 _ χ w9⟩⟩
  exact ⟨nF + 1, key nF 0 τ2 (Nat.zero_add _) (w1.trans w2)⟩
theorem r_isSound {n c : Nat} {post : Int32 → Mem → Prop} {τ : Mem} (h : RG n c τ) (hc : c ≤ 12) (hp : WQ τ post) : q_X8_isSound n c post τ := by
  unfold q_X8_isSound
  rintro _ rfl
  have w1 : WE τ (mst τ 0 0 0) := mst0_we (by omega)
  exact r_isSoundNow (w1.rg h) hc (fun r ρ hb w => ⟨hb, hp r ρ (w1.trans w)⟩)
theorem r_add {n c : Nat} {post : Mem → Prop} {x : Int64} {τ : Mem} (hp : ∀ ρ : Mem, WE τ ρ → post ρ) : q_X8_add n c post x τ := by
  unfold q_X8_add
  rintro _ rfl
  exact hp _ mlg_we
theorem r_digest {n c : Nat} {post : Int64 → Mem → Prop} {τ : Mem} (h : RG n c τ) (hc : c ≤ 12) (hp : ∀ (r : Int64) (ρ : Mem), WE τ ρ → post r ρ) : q_X8_digest n c post τ := by
  obtain ⟨⟨nF, hL⟩, hF⟩ := id h
  have h5 := hL.1
  have h30 := hL.2.1
  have e249 : ∀ ρ : Mem, WE τ ρ → q_X8_digest_249 n c post ρ := fun ρ w => by
    unfold q_X8_digest_249 q_X8_digest_262
    exact r_isSoundNow (w.rg h) hc (fun r χ _ w2 => ⟨fun _ => r_add (fun ω w3 => hp _ ω ((w.trans w2).trans w3)), fun _ => r_add (fun ω w3 => hp _ ω ((w.trans w2).trans w3))⟩)
  have e196 : ∀ ρ : Mem, WE τ ρ → q_X8_digest_196 n c post ρ := fun ρ w => by
    unfold q_X8_digest_196
    have key : ∀ (d k : Nat) (ρ : Mem), k + d = c → WE τ ρ → lp_2 (q_X8_digest_198 n c post (q_X8_digest_249 n c post)) (d + 1) (nI k) ρ := by
      intro d
      induction d with
      | zero =>
        intro k ρ hk w
        show q_X8_digest_198 _ _ _ _ _ _ _
        unfold q_X8_digest_198
        exact ⟨fun _ => e249 ρ w, fun q => absurd (nI_le (by omega) (by omega)) q⟩
      | succ d ih =>
        intro k ρ hk w
        show q_X8_digest_198 _ _ _ _ _ _ _
        unfold q_X8_digest_198
        refine ⟨fun q => absurd ((nI_leI (by omega) (by omega)).mp q) (by omega), fun _ => ?_⟩
        have inner : ∀ (d2 f : Nat) (χ : Mem), f + d2 = nF → WE τ χ → lp_3 (q_X8_digest_211 n c post (q_X8_digest_243 n c post (q_X8_digest_249 n c post) (lp_2 (q_X8_digest_198 n c post (q_X8_digest_249 n c post)) (d + 1)))) (d2 + 1) (nI k) (nI f) χ := by
          intro d2
          induction d2 with
          | zero =>
            intro f χ hf w9
            show q_X8_digest_211 _ _ _ _ _ _ _ _
            unfold q_X8_digest_211 q_X8_digest_243
            rw [nfm (w9.lv hL)]
            refine ⟨fun _ => ?_, fun q => absurd (nI_le (by omega) (by omega)) q⟩
            rintro _ rfl
            rw [nI_1]
            exact ih (k + 1) χ (by omega) w9
          | succ d2 ih2 =>
            intro f χ hf w9
            show q_X8_digest_211 _ _ _ _ _ _ _ _
            unfold q_X8_digest_211
            rw [nfm (w9.lv hL)]
            refine ⟨fun q => absurd ((nI_leI (by omega) (by omega)).mp q) (by omega), fun _ => ⟨k, ⟨by omega, rfl⟩, vin_j (by omega) (by decide), r_add (fun ω w3 => ?_)⟩⟩
            rintro _ rfl
            rw [nI_1]
            exact ih2 (f + 1) ω (by omega) (w9.trans w3)
        exact ⟨nF + 1, inner nF 0 ρ (Nat.zero_add _) w⟩
    exact ⟨c + 1, key c 0 ρ (Nat.zero_add _) w⟩
  have e127 : ∀ ρ : Mem, WE τ ρ → q_X8_digest_127 n c post ρ := fun ρ w => by
    unfold q_X8_digest_127
    have key : ∀ (d m : Nat) (ρ : Mem), m + d = 6 → WE τ ρ → lp_2 (q_X8_digest_129 n c post (q_X8_digest_196 n c post)) (d + 1) (nI m) ρ := by
      intro d
      induction d with
      | zero =>
        intro m ρ hm w
        show q_X8_digest_129 _ _ _ _ _ _ _
        unfold q_X8_digest_129
        rw [show m = 6 by omega]
        exact ⟨fun _ => e196 ρ w, fun z => absurd (by decide) z⟩
      | succ d ih =>
        intro m ρ hm w
        show q_X8_digest_129 _ _ _ _ _ _ _
        have hm6 : m < 6 := by omega
        unfold q_X8_digest_129
        refine ⟨fun z => absurd ((nI_leI (a := 6) (b := m) (by decide) (by omega)).mp z) (by omega), fun _ => ?_⟩
        have two : ∀ (d2 f : Nat) (χ : Mem), f + d2 = nF → WE τ χ → lp_3 (q_X8_digest_161 n c post (q_X8_digest_190 n c post (q_X8_digest_196 n c post) (lp_2 (q_X8_digest_129 n c post (q_X8_digest_196 n c post)) (d + 1)))) (d2 + 1) (nI m) (nI f) χ := by
          intro d2
          induction d2 with
          | zero =>
            intro f χ hf w9
            show q_X8_digest_161 _ _ _ _ _ _ _ _
            unfold q_X8_digest_161 q_X8_digest_190
            rw [nfm (w9.lv hL)]
            refine ⟨fun _ => ?_, fun q => absurd (nI_le (by omega) (by omega)) q⟩
            rintro _ rfl
            rw [nI_1]
            exact ih (m + 1) χ (by omega) w9
          | succ d2 ih2 =>
            intro f χ hf w9
            show q_X8_digest_161 _ _ _ _ _ _ _ _
            unfold q_X8_digest_161
            rw [nfm (w9.lv hL)]
            refine ⟨fun q => absurd ((nI_leI (by omega) (by omega)).mp q) (by omega), fun _ => ⟨(ix30 hm6 (by omega)).1, r_add (fun ω w3 => ?_)⟩⟩
            rintro _ rfl
            rw [nI_1]
            exact ih2 (f + 1) ω (by omega) (w9.trans w3)
        have one : ∀ (d2 i : Nat) (χ : Mem), i + d2 = 3 → WE τ χ → lp_3 (q_X8_digest_137 n c post (q_X8_digest_159 n c post (q_X8_digest_196 n c post) (lp_2 (q_X8_digest_129 n c post (q_X8_digest_196 n c post)) (d + 1)))) (d2 + 1) (nI m) (nI i) χ := by
          intro d2
          induction d2 with
          | zero =>
            intro i χ hi w9
            show q_X8_digest_137 _ _ _ _ _ _ _ _
            unfold q_X8_digest_137 q_X8_digest_159
            rw [show i = 3 by omega]
            exact ⟨fun _ => ⟨nF + 1, two nF 0 χ (Nat.zero_add _) w9⟩, fun z => absurd (by decide) z⟩
          | succ d2 ih2 =>
            intro i χ hi w9
            show q_X8_digest_137 _ _ _ _ _ _ _ _
            unfold q_X8_digest_137
            refine ⟨fun z => absurd ((nI_leI (a := 3) (b := i) (by decide) (by omega)).mp z) (by omega), fun _ => r_ofMachineNow (w9.rg h) hc hm6 (fun r ω w3 => r_add (fun ψ w4 => ?_))⟩
            rintro _ rfl
            rw [nI_1]
            exact ih2 (i + 1) ψ (by omega) ((w9.trans w3).trans w4)
        exact ⟨4, one 3 0 ρ rfl w⟩
    exact ⟨7, key 6 0 ρ rfl w⟩
  have e87 : ∀ ρ : Mem, WE τ ρ → q_X8_digest_87 n c post ρ := fun ρ w => by
    unfold q_X8_digest_87
    refine w_reasonFor (w.lv hL) (Or.inl rfl) (fun r χ hs => r_add (fun ω w3 => ?_))
    have w4 : WE τ ω := (w.trans hs.we).trans w3
    have key : ∀ (d j : Nat) (ρ : Mem), j + d = n → WE τ ρ → lp_2 (q_X8_digest_99 n c post (q_X8_digest_127 n c post)) (d + 1) (nI j) ρ := by
      intro d
      induction d with
      | zero =>
        intro j ρ hj w
        show q_X8_digest_99 _ _ _ _ _ _ _
        unfold q_X8_digest_99
        exact ⟨fun _ => e127 ρ w, fun q => absurd (nI_le (by omega) (by omega)) q⟩
      | succ d ih =>
        intro j ρ hj w
        show q_X8_digest_99 _ _ _ _ _ _ _
        unfold q_X8_digest_99
        refine ⟨fun q => absurd ((nI_leI (by omega) (by omega)).mp q) (by omega), fun _ => r_ofLineNow (w.lv hL) (by omega) (fun r2 χ2 w5 => r_add (fun ψ w6 => ?_))⟩
        rintro _ rfl
        rw [nI_1]
        exact ih (j + 1) ψ (by omega) ((w.trans w5).trans w6)
    exact ⟨n + 1, key n 0 ω (Nat.zero_add _) w4⟩
  have e36 : ∀ ρ : Mem, WE τ ρ → q_X8_digest_36 n c post ρ := fun ρ w => by
    unfold q_X8_digest_36
    have key : ∀ (d f : Nat) (ρ : Mem), f + d = nF → WE τ ρ → lp_2 (q_X8_digest_38 n c post (q_X8_digest_87 n c post)) (d + 1) (nI f) ρ := by
      intro d
      induction d with
      | zero =>
        intro f ρ hf w
        show q_X8_digest_38 _ _ _ _ _ _ _
        unfold q_X8_digest_38
        rw [nfm (w.lv hL)]
        exact ⟨fun _ => e87 ρ w, fun q => absurd (nI_le (by omega) (by omega)) q⟩
      | succ d ih =>
        intro f ρ hf w
        show q_X8_digest_38 _ _ _ _ _ _ _
        unfold q_X8_digest_38
        rw [nfm (w.lv hL)]
        have hfn : f < nF := by omega
        refine ⟨fun q => absurd ((nI_leI (by omega) (by omega)).mp q) (by omega), fun _ => ?_⟩
        have inner : ∀ (d2 i : Nat) (χ : Mem), i + d2 = 7 → WE τ χ → lp_3 (q_X8_digest_48 n c post (q_X8_digest_71 n c post (q_X8_digest_87 n c post) (lp_2 (q_X8_digest_38 n c post (q_X8_digest_87 n c post)) (d + 1)))) (d2 + 1) (nI f) (nI i) χ := by
          intro d2
          induction d2 with
          | zero =>
            intro i χ hi w9
            show q_X8_digest_48 _ _ _ _ _ _ _ _
            unfold q_X8_digest_48 q_X8_digest_71
            rw [show i = 7 by omega]
            refine ⟨fun _ => w_reasonFor (w9.lv hL) (Or.inr (vin_j (by omega) (by decide))) (fun r ω hs => r_add (fun ψ w4 => ?_)), fun z => absurd (by decide) z⟩
            rintro _ rfl
            rw [nI_1]
            exact ih (f + 1) ψ (by omega) ((w9.trans hs.we).trans w4)
          | succ d2 ih2 =>
            intro i χ hi w9
            show q_X8_digest_48 _ _ _ _ _ _ _ _
            unfold q_X8_digest_48
            refine ⟨fun z => absurd ((nI_leI (a := 7) (b := i) (by decide) (by omega)).mp z) (by omega), fun _ => r_ofFieldNow (w9.lv hL) hc hfn (fun r ω w3 => r_add (fun ψ w4 => ?_))⟩
            rintro _ rfl
            rw [nI_1]
            exact ih2 (i + 1) ψ (by omega) ((w9.trans w3).trans w4)
        exact ⟨8, inner 7 0 ρ rfl w⟩
    exact ⟨nF + 1, key nF 0 ρ (Nat.zero_add _) w⟩
  have step : ∀ (x : Int32) (ρ : Mem) (K : Mem → Prop), WE τ ρ → (∀ χ : Mem, WE τ χ → K χ) → q_X8_houseNow n c (fun (r3 : Int32) (σ4 : Mem) => q_X8_add n c (fun (σ6 : Mem) => K σ6) (r3.toInt64) σ4) x ρ := fun x ρ K w hK => r_houseNow (w.rg h) hc (fun r χ w2 => r_add (fun ω w3 => hK ω ((w.trans w2).trans w3)))
  unfold q_X8_digest
  rintro _ rfl _ rfl
  have w0 : WE τ (mlg (mst τ 0 0 0) 0 14 7703) := (mst0_we (by omega)).trans mlg_we
  exact step 0 _ _ w0 (fun χ w => step 1 _ _ w (fun χ w => step 2 _ _ w (fun χ w => step 3 _ _ w (fun χ w => step 4 _ _ w (fun χ w => step 5 _ _ w (fun χ w => step 6 _ _ w (fun χ w => step 7 _ _ w (fun χ w => step 8 _ _ w (fun χ w => e36 χ w)))))))))
