/-! SIDE BY SIDE: what is asked of the house -/
section JH
variable {am g : Nat → Nat} {a1 a2 a3 a4 : Int32} {σ τ : Mem} {nF : Nat} {n : Int64} {v : Value}
theorem x_houseNow {post : Int32 → Mem → Prop} {w : Nat} (h : RR σ g τ nF) (hw : w < 9) (hp : ∀ ρ : Mem, WY τ ρ → post (hoA σ nF (g 0) (g 2) w) ρ) : q_X8_houseNow (g 0) (g 2) post (nI w) τ := by
  have hL := h.lv
  have h5 := hL.1
  have h30 := hL.2.1
  have ew : ∀ k : Nat, k < 9 → nI w = nI k → w = k := fun k hk z => nI_inj (by omega) (by omega) z
  unfold q_X8_houseNow
  refine ⟨fun q => ?_, fun q => ?_, fun q => ?_, fun q => fun wi => ?_, fun q => ?_, fun q => ?_, fun q => ?_, fun q => ?_, fun q => ?_⟩
  · have w8 : w = 8 := by
      unfold sw_out at q
      rw [nI_toInt (by omega)] at q
      omega
    subst w8
    rw [← h.kn]; exact hp τ WY.rf
  · have := ew 0 (by decide) q; subst this
    rw [nfm hL]; exact hp τ WY.rf
  · have := ew 1 (by decide) q; subst this
    exact hp τ WY.rf
  · have := ew 2 (by decide) q; subst this
    replace hp : post (cnL σ (g 0) 0 0) τ := hp τ WY.rf
    have key : ∀ (d j : Nat) (x2 w1 : Int32), j + d = g 0 → post (cnL σ d j x2) τ → lp_6 (q_X8_houseNow_69 (g 0) (g 2) post (q_X8_houseNow_109 (g 0) (g 2) post)) (d + 1) x2 wi (nI j) w1 (τ 3 0) τ := by
      intro d
      induction d with
      | zero =>
        intro j x2 w1 hj hp
        show q_X8_houseNow_69 _ _ _ _ _ _ _ _ _ _ _
        unfold q_X8_houseNow_69 q_X8_houseNow_109
        refine ⟨j, ⟨by omega, rfl⟩, ?_⟩
        rintro _ rfl
        exact ⟨fun _ => hp, fun z => absurd (if_neg (by omega)) z⟩
      | succ d ih =>
        intro j x2 w1 hj hp
        have hjn : j < g 0 := by omega
        have kc := ag_ct h.ag h.ci.lv hjn
        unfold cnL at hp
        show q_X8_houseNow_69 _ _ _ _ _ _ _ _ _ _ _
        unfold q_X8_houseNow_69 q_X8_houseNow_104
        refine ⟨j, ⟨by omega, rfl⟩, ?_⟩
        rintro _ rfl
        refine ⟨fun z => absurd z (by rw [if_pos hjn]; decide), fun _ => ⟨j, ⟨by omega, rfl, rfl⟩, ?_⟩⟩
        rintro _ rfl _ rfl
        refine s_X8_counts (n := g 0) (hL.ab hjn) (fun r hr => ⟨fun z => ?_, fun z => ?_⟩)
        · rintro _ rfl
          rw [if_neg (fun y => hr.f z (kc.mp y))] at hp
          rw [Int32.add_zero]
          exact ih (j + 1) _ _ (by omega) hp
        · rintro _ rfl
          rw [if_pos (kc.mpr (hr.t z))] at hp
          exact ih (j + 1) _ _ (by omega) hp
    exact ⟨g 0 + 1, key (g 0) 0 0 _ (Nat.zero_add _) hp⟩
  · have := ew 3 (by decide) q; subst this
    unfold q_X8_houseNow_123
    have ec : aC (tm (g 0) τ) nF (g 0) = σ 12 2 := by rw [h.oi.2.1, (ag_a h.ag h.ci.lv).2]
    refine s_isContradiction hL ?_
    rw [ec]
    have k := hp _ (put_wy (d := 0) (m := aM (tm (g 0) τ) nF (g 0)))
    refine ⟨fun z => ?_, fun z => ?_⟩
    · have e : hoA σ nF (g 0) (g 2) 3 = 0 := if_pos z
      rwa [e] at k
    · have e : hoA σ nF (g 0) (g 2) 3 = 1 := if_neg z
      rwa [e] at k
  · have := ew 4 (by decide) q; subst this
    refine x_settle hL (fun ρ hs hr hset => ?_)
    have ec : ∀ f : Nat, f < 5 → σ 22 f = cvF nF (row 0 ρ) f := fun f hf => oi_row h hset f hf
    replace hp : post (sfF σ nF 0 0) ρ := hp ρ hs.wy
    have key : ∀ (d f : Nat) (x2 : Int32), f + d = nF → post (sfF σ d f x2) ρ → lp_3 (q_X8_houseNow_130 (g 0) (g 2) post (q_X8_houseNow_162 (g 0) (g 2) post)) (d + 1) x2 (nI f) ρ := by
      intro d
      induction d with
      | zero =>
        intro f x2 hf hp
        show q_X8_houseNow_130 _ _ _ _ _ _ _ _
        unfold q_X8_houseNow_130 q_X8_houseNow_162
        rw [nfm (hs.lv hL)]
        exact ⟨fun _ => hp, fun q => absurd (nI_le (by omega) (by omega)) q⟩
      | succ d ih =>
        intro f x2 hf hp
        have e := ec f (by omega)
        unfold cvF at e
        rw [if_pos (show f < nF by omega)] at e
        obtain ⟨i, hi, ei⟩ := s8_ex (hr.2 f)
        rw [ei] at e
        unfold sfF at hp
        show q_X8_houseNow_130 _ _ _ _ _ _ _ _
        unfold q_X8_houseNow_130 q_X8_houseNow_154
        rw [nfm (hs.lv hL)]
        refine ⟨fun q => absurd ((nI_leI (by omega) (by omega)).mp q) (by omega), fun _ => s_X8_count (d := 0) (by decide) (by omega) ⟨fun q => ?_, fun q => ?_⟩⟩
        · rintro _ rfl _ rfl
          rw [ei] at q
          rw [if_pos (by rw [e]; exact on_no i hi q)] at hp
          rw [nI_1, Int32.add_zero]
          exact ih (f + 1) _ (by omega) hp
        · rintro _ rfl _ rfl
          rw [ei] at q
          obtain ⟨j, hj, ej⟩ := ntz8 i hi q
          rw [if_neg (by rw [e, ej, on_one j hj]; exact m1_nI (by omega))] at hp
          rw [nI_1]
          exact ih (f + 1) _ (by omega) hp
    exact ⟨nF + 1, key nF 0 0 (Nat.zero_add _) hp⟩
  · have := ew 5 (by decide) q; subst this
    exact hp τ WY.rf
  · have := ew 6 (by decide) q; subst this
    replace hp : post (dmF σ 6 0 0) τ := hp τ WY.rf
    have key : ∀ (d m : Nat) (x2 : Int32), m + d = 6 → post (dmF σ d m x2) τ → lp_3 (q_X8_houseNow_174 (g 0) (g 2) post (q_X8_houseNow_202 (g 0) (g 2) post)) (d + 1) x2 (nI m) τ := by
      intro d
      induction d with
      | zero =>
        intro m x2 hm hp
        show q_X8_houseNow_174 _ _ _ _ _ _ _ _
        unfold q_X8_houseNow_174 q_X8_houseNow_202
        rw [show m = 6 by omega]
        exact ⟨fun _ => hp, fun z => absurd (by decide) z⟩
      | succ d ih =>
        intro m x2 hm hp
        unfold dmF at hp
        show q_X8_houseNow_174 _ _ _ _ _ _ _ _
        unfold q_X8_houseNow_174 q_X8_houseNow_194
        refine ⟨fun z => absurd ((nI_leI (a := 6) (b := m) (by decide) (by omega)).mp z) (by omega), fun _ => x_drifting h (by omega) ⟨fun q => ?_, fun q => ?_⟩⟩
        · rintro _ rfl _ rfl
          rw [if_pos q] at hp
          rw [nI_1, Int32.add_zero]
          exact ih (m + 1) _ (by omega) hp
        · rintro _ rfl _ rfl
          rw [if_neg q] at hp
          rw [nI_1]
          exact ih (m + 1) _ (by omega) hp
    exact ⟨7, key 6 0 0 rfl hp⟩
  · have := ew 7 (by decide) q; subst this
    unfold q_X8_houseNow_219
    refine x_best h (fun r ρ hρ hr hb => ⟨fun z => ?_, fun z => ?_⟩)
    · have e : σ 18 4 = -1 := Classical.byContradiction (fun y => hr.f z y)
      have k : post (σ 18 4) ρ := hp ρ hρ
      rwa [e] at k
    · have k : post (σ 18 4) ρ := hp ρ hρ
      rw [(hb (hr.t z)).1]; exact k
theorem x_house {post : Int32 → Mem → Prop} {x : Int32} (h : RR σ g τ nF) (x1 : ¬ vp_in x 9 → post 0 (mst (mst τ 0 0 0) 0 0 1)) (hp : ∀ w : Nat, w < 9 → x = nI w → ∀ ρ : Mem, WE τ ρ → ρ 0 0 = 0 → post (hoA σ nF (g 0) (g 2) w) ρ) : q_X8_house (g 0) (g 2) post x τ := by
  have h1 := (h00 h).1
  have z0 := (h00 h).2
  have w1 : WE τ (mst τ 0 0 0) := mst0_we (by omega)
  have i9 : (¬ x < 0 ∧ ¬ (8 : Int32) < x) ↔ vp_in x 9 := is_vin (n := 9) (by decide)
  unfold q_X8_house q_X8_house_28
  rintro _ rfl
  refine s_X8_is (fun r hr => ⟨fun z => x_refuse (x1 (fun w => hr.f z (i9.mpr w))), fun z => ?_⟩)
  obtain ⟨w, hw, rfl⟩ := vin_ex (by decide) (i9.mp (hr.t z))
  exact x_houseNow h1 hw (fun ρ hs => hp w hw rfl ρ (w1.trans hs.1) (hs.z.trans z0))
theorem j_house {K : Int32 → Mem → Int64 → Value → Int32 → Mem → Prop} (h : RR σ g τ nF) (hp : J1 g K) : q_L_house (fun k1 σ2 n3 v4 => q_X8_house (g 0) (g 2) (fun r5 τ6 => K k1 σ2 n3 v4 r5 τ6) a1 τ) a1 n v σ := by
  unfold q_L_house
  refine s_X5_house h.ci (fun c => ⟨rfl, x_house h (fun _ => hp _ _ _ _ _ _ _ h.ref rf_0 (no1 (by decide))) (fun w hw e => absurd c (sv_no (by decide) (by rw [e]; exact vin_j hw (by decide))))⟩) (fun w hw e => x_house h (fun c => absurd (by rw [e]; exact vin_j hw (by decide)) c) (fun w2 hw2 e2 ρ wr z0 => ?_))
  have ew : w2 = w := nI_inj (by omega) (by omega) (e2.symm.trans e)
  subst ew
  exact hp _ _ _ _ _ _ _ (h.w wr) z0 (fun _ => rfl)
end JH
