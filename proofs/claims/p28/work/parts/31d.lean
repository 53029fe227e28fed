/-! THE REFERENCE: settles so -/
/-- a default of f that counts -/
def Df (n : Nat) (τ : Mem) (f j : Nat) : Prop := τ (100 + j) 0 = 5 ∧ τ (100 + j) 2 = nI f ∧ ctP (tm n τ) j
theorem df_se {n f j : Nat} {τ ρ : Mem} (h : SE τ ρ) : Df n ρ f j ↔ Df n τ f j := by
  unfold Df
  rw [h (100 + j) (by omega), h.etm]
/-- behind line x -/
def Bx (τ : Mem) (n : Nat) (x : Int32) (j : Nat) : Prop := ∀ i : Nat, i < n → x = nI i → ky τ i < ky τ j
def Nx (n : Nat) (τ : Mem) (f : Nat) (x : Int32) (N : Nat) (r : Int32) : Prop := (r = -1 ∧ ∀ j : Nat, j < N → ¬ (Df n τ f j ∧ Bx τ n x j)) ∨ ∃ j : Nat, j < n ∧ r = nI j ∧ (Df n τ f j ∧ Bx τ n x j) ∧ ∀ k : Nat, k < N → (Df n τ f k ∧ Bx τ n x k) → ky τ j ≤ ky τ k
theorem nx_no {n f N : Nat} {τ : Mem} {x y : Int32} (h : Nx n τ f x N y) (hn : ¬ (Df n τ f N ∧ Bx τ n x N)) : Nx n τ f x (N + 1) y := by
  rcases h with ⟨e, h⟩ | ⟨j, hj, e, hq, h⟩
  · refine Or.inl ⟨e, fun k hk z => ?_⟩
    rcases Nat.lt_or_ge k N with q | q
    · exact h k q z
    · rw [show k = N by omega] at z; exact hn z
  · refine Or.inr ⟨j, hj, e, hq, fun k hk z => ?_⟩
    rcases Nat.lt_or_ge k N with q | q
    · exact h k q z
    · rw [show k = N by omega] at z; exact absurd z hn
theorem nx_keep {n f N : Nat} {τ : Mem} {x : Int32} {i : Nat} (h : Nx n τ f x N (nI i)) (hi : i < 30) (hn : n ≤ 30) (hle : ky τ i ≤ ky τ N) : Nx n τ f x (N + 1) (nI i) := by
  rcases h with ⟨e, h⟩ | ⟨j, hj, e, hq, h⟩
  · exfalso
    have := congrArg Int32.toInt e
    rw [nI_toInt (by omega)] at this
    have e2 : ((-1 : Int32)).toInt = -1 := by decide
    rw [e2] at this
    omega
  · have ej : i = j := nI_inj (by omega) (by omega) e
    subst ej
    refine Or.inr ⟨i, hj, e, hq, fun k hk z => ?_⟩
    rcases Nat.lt_or_ge k N with q | q
    · exact h k q z
    · rw [show k = N by omega]; exact hle
theorem nx_new {n f N : Nat} {τ : Mem} {x y : Int32} (h : Nx n τ f x N y) (hN : N < n) (hq : Df n τ f N ∧ Bx τ n x N) (hlt : ∀ i : Nat, i < n → y = nI i → ky τ N ≤ ky τ i) : Nx n τ f x (N + 1) (nI N) := by
  refine Or.inr ⟨N, hN, rfl, hq, fun k hk z => ?_⟩
  rcases Nat.lt_or_ge k N with q | q
  · rcases h with ⟨e, h⟩ | ⟨j, hj, e, hq2, h⟩
    · exact absurd z (h k q)
    · exact Int.le_trans (hlt j hj e) (h k q z)
  · rw [show k = N by omega]; exact Int.le_refl _
theorem x_next {n c nF f : Nat} {post : Int32 → Mem → Prop} {x : Int32} {τ : Mem} (h : LV (tm n τ) nF n) (hx : x = -1 ∨ ∃ i : Nat, i < n ∧ x = nI i) (hp : ∀ r : Int32, Nx n τ f x n r → post r τ) : q_X8_nextDefault n c post (nI f) x τ := by
  have h30 := h.2.1
  have m1 : ∀ a : Nat, a < 30 → ¬ nI a = -1 := fun a ha z => by
    have := congrArg Int32.toInt z
    rw [nI_toInt (by omega)] at this
    have e : ((-1 : Int32)).toInt = -1 := by decide
    rw [e] at this
    omega
  unfold q_X8_nextDefault
  have key : ∀ (d j : Nat) (y : Int32), j + d = n → Nx n τ f x j y → lp_5 (q_X8_nextDefault_5 n c post (q_X8_nextDefault_100 n c post)) (d + 1) (nI f) x y (nI j) τ := by
    intro d
    induction d with
    | zero =>
      intro j y hj hy
      show q_X8_nextDefault_5 _ _ _ _ _ _ _ _ _ _
      unfold q_X8_nextDefault_5 q_X8_nextDefault_100
      exact ⟨fun _ => hp y (by rw [show n = j by omega] at hy ⊢; exact hy), fun q => absurd (nI_le (by omega) (by omega)) q⟩
    | succ d ih =>
      intro j y hj hy
      show q_X8_nextDefault_5 _ _ _ _ _ _ _ _ _ _
      have hj2 : j < n := by omega
      have nx : ∀ z : Int32, Nx n τ f x (j + 1) z → q_X8_nextDefault_94 n c post (q_X8_nextDefault_100 n c post) (lp_5 (q_X8_nextDefault_5 n c post (q_X8_nextDefault_100 n c post)) (d + 1)) (nI f) x z (nI j) τ := fun z hz => by
        unfold q_X8_nextDefault_94
        rintro _ rfl
        rw [nI_1]
        exact ih (j + 1) z (by omega) hz
      have e76 : (Df n τ f j ∧ Bx τ n x j) → q_X8_nextDefault_76 n c post (q_X8_nextDefault_100 n c post) (lp_5 (q_X8_nextDefault_5 n c post (q_X8_nextDefault_100 n c post)) (d + 1)) (nI f) x y (nI j) τ := fun hb => by
        unfold q_X8_nextDefault_76 q_X8_nextDefault_91
        refine ⟨fun q => nx _ (nx_new hy hj2 hb (fun i hi e => absurd (e.symm.trans q) (m1 i (by omega)))), fun q => ?_⟩
        obtain ⟨i, hi, ei⟩ : ∃ i : Nat, i < n ∧ y = nI i := by
          rcases hy with ⟨e, -⟩ | ⟨i, hi, e, -⟩
          · exact absurd e q
          · exact ⟨i, hi, e⟩
        subst ei
        refine s_isBehind h30 hi hj2 (fun r hr => ⟨fun z => nx _ (nx_keep hy (by omega) h30 (Int.not_lt.mp (hr.f z))), fun z => nx _ (nx_new hy hj2 hb (fun k hk e => ?_))⟩)
        rw [← nI_inj (by omega) (by omega) e]
        exact Int.le_of_lt (hr.t z)
      unfold q_X8_nextDefault_5
      refine ⟨fun q => absurd ((nI_leI (by omega) (by omega)).mp q) (by omega), fun _ => ⟨j, ⟨hj2, rfl⟩, fun q => nx y (nx_no hy (fun z => q z.1.1)), fun q1 => ⟨fun q => nx y (nx_no hy (fun z => q z.1.2.1)), fun q2 => s_X8_counts (n := n) (h.ab hj2) (fun r hr => ⟨fun q => nx y (nx_no hy (fun z => hr.f q z.1.2.2)), fun q3 => ⟨fun q => e76 ⟨⟨q1, q2, hr.t q3⟩, fun i hi z => absurd (z.symm.trans q) (m1 i (by omega))⟩, fun q => ?_⟩⟩)⟩⟩⟩
      obtain ⟨i, hi, ei⟩ := hx.resolve_left q
      subst ei
      refine s_isBehind h30 hj2 hi (fun r2 hr2 => ⟨fun z => e76 ⟨⟨q1, q2, hr.t q3⟩, fun i2 hi2 e2 => ?_⟩, fun z => nx y (nx_no hy (fun w => hr2.f z (w.2 i hi rfl)))⟩)
      rw [← nI_inj (by omega) (by omega) e2]
      exact hr2.t z
  exact ⟨n + 1, key n 0 (-1) (Nat.zero_add n) (Or.inl ⟨rfl, fun j hj => absurd hj (Nat.not_lt_zero j)⟩)⟩
/-- the place of a default -/
def pq (τ : Mem) (j : Nat) : Nat := (9 - (τ (100 + j) 4).toNatClampNeg) * 8 + (τ (100 + j) 3).toNatClampNeg
theorem df_num {n nF f j : Nat} {τ : Mem} (h : LV (tm n τ) nF n) (hj : j < n) (hd : Df n τ f j) : ∃ b w : Nat, b < 10 ∧ w < 8 ∧ τ (100 + j) 4 = nI b ∧ τ (100 + j) 3 = nI w ∧ pq τ j = (9 - b) * 8 + w ∧ ky τ j = -((b : Int) * 1099511627776) + (w : Int) * 64 + (j : Int) := by
  obtain ⟨-, -, -, -, h1, h5⟩ := h.2.2.2.2 j hj
  have h1 : vp_in (τ (100 + j) 3) 8 := h1 (Or.inr (Or.inr hd.1))
  have h5 : vp_in (τ (100 + j) 4) 10 := h5 hd.1
  obtain ⟨w, hw, ew⟩ := vin_ex (by decide) h1
  obtain ⟨b, hb, eb⟩ := vin_ex (by decide) h5
  refine ⟨b, w, hb, hw, eb, ew, ?_, ?_⟩
  · unfold pq
    rw [eb, ew, nI_clamp (by omega), nI_clamp (by omega)]
  · unfold ky
    rw [eb, ew, nI_toInt (by omega), nI_toInt (by omega)]
theorem pq_le {n nF f j k : Nat} {τ : Mem} (h : LV (tm n τ) nF n) (hj : j < n) (hk : k < n) (dj : Df n τ f j) (dk : Df n τ f k) : (ky τ j ≤ ky τ k → pq τ j ≤ pq τ k) ∧ (pq τ j < pq τ k → ky τ j < ky τ k) ∧ pq τ j < 80 := by
  have h30 := h.2.1
  obtain ⟨b, w, hb, hw, -, -, e1, e2⟩ := df_num h hj dj
  obtain ⟨b', w', hb', hw', -, -, e1', e2'⟩ := df_num h hk dk
  rw [e1, e2, e1', e2']
  refine ⟨fun q => ?_, fun q => ?_, ?_⟩ <;> omega
theorem dq_df {n nF f q : Nat} {τ : Mem} (h : LV (tm n τ) nF n) (hq : q < 80) : Dq (tm n τ) n f q ↔ ∃ j : Nat, j < n ∧ Df n τ f j ∧ pq τ j = q := by
  constructor
  · rintro ⟨j, hj, a, b, c, d, e⟩
    have hd : Df n τ f j := ⟨a, b, e⟩
    refine ⟨j, hj, hd, ?_⟩
    have c : τ (100 + j) 4 = nI (9 - q / 8) := c
    have d : τ (100 + j) 3 = nI (q % 8) := d
    unfold pq
    rw [c, d, nI_clamp (by omega), nI_clamp (by omega)]
    omega
  · rintro ⟨j, hj, hd, e⟩
    obtain ⟨b, w, hb, hw, eb, ew, e1, -⟩ := df_num h hj hd
    rw [e1] at e
    refine ⟨j, hj, hd.1, hd.2.1, ?_, ?_, hd.2.2⟩
    · show τ (100 + j) 4 = _
      rw [eb]; congr 1; omega
    · show τ (100 + j) 3 = _
      rw [ew]; congr 1; omega
theorem one_and : ∀ w : Nat, w < 8 → ∀ i : Nat, i < 256 → ¬ ((nI i >>> (nI w &&& 31)) &&& 1) = 0 → nI i &&& ((1 : Int32) <<< (nI w &&& 31)) = (1 : Int32) <<< (nI w &&& 31) := by decide +kernel
