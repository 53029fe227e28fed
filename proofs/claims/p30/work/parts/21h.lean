/-! THE REFERENCE: all that is asked of it leaves what is told in order -/
def FLm (c : Nat) (τ : Mem) (m : Nat) : Prop := τ 5 m = -1 ∨ ∃ k : Nat, k < c ∧ τ 5 m = nI k ∧ ∀ f : Nat, f < 5 → τ 6 (5 * m + f) = τ (200 + k) f ∨ vp_in (τ 6 (5 * m + f)) 8
def RG (n c : Nat) (τ : Mem) : Prop := (∃ nF : Nat, LV (tm n τ) nF n) ∧ ∀ m : Nat, m < 6 → FLm c τ m
theorem WE.rg {n c : Nat} {τ ρ : Mem} (h : WE τ ρ) (hr : RG n c τ) : RG n c ρ := by
  obtain ⟨⟨nF, hL⟩, hF⟩ := hr
  refine ⟨⟨nF, h.lv hL⟩, fun m hm => ?_⟩
  have := hF m hm
  unfold FLm at this ⊢
  rw [h.2 5 (by omega), h.2 6 (by omega)]
  rcases this with z | ⟨k, hk, e, hf⟩
  · exact Or.inl z
  · exact Or.inr ⟨k, hk, e, fun f h5 => by rw [h.2 (200 + k) (by omega)]; exact hf f h5⟩
theorem lv_of {n nF nF' : Nat} {τ ρ : Mem} (h : LV (tm n τ) nF n) (h1 : nF ≤ nF') (h2 : nF' ≤ 5) (e : ρ 0 3 = nI nF') (e2 : ∀ j : Nat, j < n → ∀ i : Nat, i < 5 → ρ (100 + j) i = τ (100 + j) i) : LV (tm n ρ) nF' n := by
  refine ⟨h2, h.2.1, e, rfl, fun j hj => ?_⟩
  obtain ⟨a, b, c, d⟩ := h.2.2.2.2 j hj
  show vp_in (ρ (100 + j) 2) nF' ∧ vp_in (ρ (100 + j) 0) 6 ∧ ((ρ (100 + j) 0 = 3 ∨ ρ (100 + j) 0 = 4) → vp_in (ρ (100 + j) 3) nF' ∧ ¬ ρ (100 + j) 3 = ρ (100 + j) 2) ∧ (ρ (100 + j) 0 = 0 → ρ (100 + j) 3 &&& 255 = ρ (100 + j) 3) ∧ ((ρ (100 + j) 0 = 1 ∨ ρ (100 + j) 0 = 2 ∨ ρ (100 + j) 0 = 5) → vp_in (ρ (100 + j) 3) 8) ∧ (ρ (100 + j) 0 = 5 → vp_in (ρ (100 + j) 4) 10)
  rw [e2 j hj 0 (by decide), e2 j hj 2 (by decide), e2 j hj 3 (by decide), e2 j hj 4 (by decide)]
  exact ⟨vin_mono a h1, b, fun k => ⟨vin_mono (c k).1 h1, (c k).2⟩, d⟩
theorem fl_56 {c : Nat} {τ ρ : Mem} {m : Nat} (h : FLm c τ m) (e5 : ρ 5 = τ 5) (e6 : ρ 6 = τ 6) (e2 : ∀ k : Nat, k < c → ρ (200 + k) = τ (200 + k)) : FLm c ρ m := by
  unfold FLm at h ⊢
  rw [e5, e6]
  rcases h with z | ⟨k, hk, e, hf⟩
  · exact Or.inl z
  · exact Or.inr ⟨k, hk, e, fun f hf5 => by rw [e2 k hk]; exact hf f hf5⟩
/-- a line's place 5 or 6 written -/
theorem rg_ln {n c j i : Nat} {x : Int32} {τ : Mem} (h : RG n c τ) (hj : j < n) (hi : 5 ≤ i) : RG n c (mst τ (100 + j) i x) ∧ mst τ (100 + j) i x 0 8 = τ 0 8 := by
  obtain ⟨⟨nF, hL⟩, hF⟩ := h
  have h30 := hL.2.1
  refine ⟨⟨⟨nF, lv_of hL (Nat.le_refl _) hL.1 ?_ (fun j2 hj2 i2 hi2 => ?_)⟩, fun m hm => fl_56 (hF m hm) (mst_ne (by omega)) (mst_ne (by omega)) (fun k _ => mst_ne (by omega))⟩, ?_⟩
  · rw [mst_ne (by omega)]; exact nfm hL
  · by_cases e : j2 = j
    · subst e; rw [mst_eq, upd_ne (by omega)]
    · rw [mst_ne (by omega)]
  · rw [mst_ne (by omega)]
theorem rg_hi {n c p i : Nat} {x : Int32} {τ : Mem} (h : RG n c τ) (hp : 1 ≤ p ∧ p < 5) : RG n c (mst τ p i x) ∧ mst τ p i x 0 8 = τ 0 8 := by
  obtain ⟨⟨nF, hL⟩, hF⟩ := h
  refine ⟨⟨⟨nF, lv_of hL (Nat.le_refl _) hL.1 ?_ (fun j2 hj2 i2 hi2 => ?_)⟩, fun m hm => fl_56 (hF m hm) (mst_ne (by omega)) (mst_ne (by omega)) (fun k _ => mst_ne (by omega))⟩, ?_⟩
  · rw [mst_ne (by omega)]; exact nfm hL
  · rw [mst_ne (by omega)]
  · rw [mst_ne (by omega)]
theorem ix30 {m f : Nat} (hm : m < 6) (hf : f < 5) : vp_in (nI m * 5 + nI f) 30 ∧ (nI m * 5 + nI f).toNatClampNeg = 5 * m + f := by
  rw [ix5]
  exact ⟨vin_j (by omega) (by decide), nI_clamp (by omega)⟩
theorem cm_vin {c : Nat} {x : Int32} {r : Int32} (hc : c ≤ 12) (h : bl (¬ x < 0 ∧ ¬ (nI c - 1) < x) r) : bl (vp_in x c) r := h.iff (is_vin (by omega))
