/-! THE REFERENCE: choosers: that they end, and leave what is told -/
def WE (τ ρ : Mem) : Prop := (∀ i : Nat, (1 ≤ i ∧ i < 12 ∨ 16 ≤ i) → ρ 0 i = τ 0 i) ∧ ∀ p : Nat, (1 ≤ p ∧ p < 7 ∨ 10 ≤ p) → ρ p = τ p
theorem WE.rf {τ : Mem} : WE τ τ := ⟨fun _ _ => rfl, fun _ _ => rfl⟩
theorem WE.trans {τ ρ χ : Mem} (h : WE τ ρ) (h2 : WE ρ χ) : WE τ χ := ⟨fun i hi => (h2.1 i hi).trans (h.1 i hi), fun p hp => (h2.2 p hp).trans (h.2 p hp)⟩
theorem WE.te {τ ρ : Mem} (h : WE τ ρ) : TE τ ρ := ⟨h.1 3 (by omega), fun p hp => h.2 p (by omega)⟩
theorem WE.etm {n : Nat} {τ ρ : Mem} (h : WE τ ρ) : tm n ρ = tm n τ := h.te.etm
theorem WE.lv {n nF nL : Nat} {τ ρ : Mem} (h : WE τ ρ) (hL : LV (tm n τ) nF nL) : LV (tm n ρ) nF nL := by rw [h.etm]; exact hL
theorem SE.we {τ ρ : Mem} (h : SE τ ρ) : WE τ ρ := ⟨fun i _ => by rw [h 0 (by decide)], fun p hp => h p (by omega)⟩
theorem put_we {d : Nat} {m : Mw} {τ : Mem} : WE τ (put d m τ) := put_se.we
theorem mst0_we {τ : Mem} {i : Nat} {x : Int32} (hi : i = 0 ∨ i = 12 ∨ i = 13 ∨ i = 14 ∨ i = 15) : WE τ (mst τ 0 i x) := ⟨fun j hj => by rw [mst_eq, upd_ne (by omega)], fun p hp => mst_ne (by omega)⟩
theorem mstp_we {τ : Mem} {p i : Nat} {x : Int32} (hp : 7 ≤ p ∧ p < 10) : WE τ (mst τ p i x) := ⟨fun j hj => by rw [mst_ne (by omega)], fun q hq => mst_ne (by omega)⟩
theorem mup_we {τ : Mem} {p : Nat} {f : Nat → Int32} (hp : 7 ≤ p ∧ p < 10) : WE τ (mup τ p f) := ⟨fun j hj => by rw [mup_ne (by omega)], fun q hq => mup_ne (by omega)⟩
theorem mlg_we {τ : Mem} {x : Int64} : WE τ (mlg τ 0 14 x) := (mst0_we (by omega)).trans (mst0_we (by omega))
theorem row_e7 {d : Nat} {τ ρ : Mem} (h : ρ 7 = τ 7) : row d ρ = row d τ := by unfold row; rw [h]
theorem w_bound {n c nF d : Nat} {post : Int32 → Mem → Prop} {τ : Mem} (h : LV (tm n τ) nF n) (hd : d < 7) (hp : ∀ r : Int32, post r τ) : q_X8_bound_ n c post (nI d) τ := by
  have h5 := h.1
  unfold q_X8_bound_
  have key : ∀ (k f : Nat) (x : Int32), f + k = nF → lp_4 (q_X8_bound__4 n c post (q_X8_bound__34 n c post)) (k + 1) (nI d) x (nI f) τ := by
    intro k
    induction k with
    | zero =>
      intro f x hf
      show q_X8_bound__4 _ _ _ _ _ _ _ _ _
      unfold q_X8_bound__4 q_X8_bound__34
      rw [nfm h]
      exact ⟨fun _ => hp x, fun q => absurd (nI_le (by omega) (by omega)) q⟩
    | succ k ih =>
      intro f x hf
      show q_X8_bound__4 _ _ _ _ _ _ _ _ _
      unfold q_X8_bound__4
      rw [nfm h]
      refine ⟨fun q => absurd ((nI_leI (by omega) (by omega)).mp q) (by omega), fun _ => ⟨vin_j (by omega) (by decide), w_least hd (by omega) (fun r => ?_)⟩⟩
      rintro _ rfl _ rfl
      rw [nI_1]
      exact ih (f + 1) _ (by omega)
  exact ⟨nF + 1, key nF 0 0 (Nat.zero_add _)⟩
theorem nI_m1 {d : Nat} (h : 1 ≤ d) : nI d - 1 = nI (d - 1) := by
  have := nI_1 (d - 1)
  rw [show d - 1 + 1 = d by omega] at this
  rw [← this]
  exact Int32.add_sub_cancel _ _
/-- one number tried in row d + 1: what stays -/
theorem w_try {n c nF d f : Nat} {x2 x4 : Int32} {ρ : Mem} (h : LV (tm n ρ) nF n) (hd : d < 6) (hf : f < 5) (hr : RW (row d ρ)) {k1 k0 : Mem → Prop} (h1 : ∀ χ : Mem, WE ρ χ → (∀ e : Nat, e ≤ d → row e χ = row e ρ) → RW (row (d + 1) χ) → k1 χ ∧ k0 χ) :
    q_X8_copy n c (fun (σ1006 : Mem) => (q_X8_only n c (fun (σ1008 : Mem) => (q_X8_meet n c (fun (r1009 : Int32) (σ1010 : Mem) => ((r1009 ≠ 0 → k1 σ1010) ∧ (r1009 = 0 → k0 σ1010))) (nI d + 1) x2 (σ1008))) (nI d + 1) (nI f) x4 (σ1006))) (nI d) (nI d + 1) ρ := by
  rw [nI_1]
  have r1 : row (d + 1) (put (d + 1) (row d ρ) ρ) = row d ρ := row_put hr
  refine s_copy8 (by omega) (by omega) (s_only (by omega) hf ?_)
  rw [r1, put_put]
  have hm2 := upd_RW (f := f) hr hf (and_s8 (b := (1 : Int32) <<< (x4 &&& 31)) (hr.2 f))
  generalize upd (row d ρ) f (row d ρ f &&& ((1 : Int32) <<< (x4 &&& 31))) = m2 at hm2
  refine s_meet (put_we.lv h) (by omega) (by rw [row_put hm2]; exact hm2) ?_
  rw [row_put hm2, put_put, put_te.etm]
  have hm3 := mt_RW (set := x2) h hm2
  generalize mtF (tm n ρ) x2 nF n m2 = m3 at hm3
  have := h1 (put (d + 1) m3 ρ) put_we (fun e he => row_put_ne (by omega)) (by rw [row_put hm3]; exact hm3)
  exact ⟨fun _ => this.1, fun _ => this.2⟩
theorem w_choose {n c nF : Nat} {x2 : Int32} : ∀ (k d : Nat) (post : Mem → Prop) (τ : Mem), LV (tm n τ) nF n → 1 ≤ d → d ≤ nF + 1 → 7 ≤ k + d → RW (row d τ) → (∀ ρ : Mem, WE τ ρ → (∀ e : Nat, e ≤ d → row e ρ = row e τ) → post ρ) → q_X8_choose n c k post (nI d) x2 τ := by
  intro k
  induction k with
  | zero => intro d post τ h h1 h2 h7; have := h.1; omega
  | succ k ihk =>
    intro d post τ h h1 h2 h7 hr hp
    have h5 := h.1
    show q_X8_choose_b _ _ _ _ _ _ _
    unfold q_X8_choose_b
    rw [nI_m1 h1, nfm h]
    rintro _ rfl
    refine ⟨fun q => ?_, fun q => ?_⟩
    · have hdn : d ≤ nF := by
        rcases Nat.lt_or_ge nF d with z | z
        · exact absurd (by rw [show d - 1 = nF by omega]) q
        · exact z
      have key : ∀ (m v : Nat) (ρ : Mem), v + m = 8 → WE τ ρ → (∀ e : Nat, e ≤ d → row e ρ = row e τ) → lp_5 (q_X8_choose_49 n c (q_X8_choose n c k) post (q_X8_choose_145 n c (q_X8_choose n c k) post)) (m + 1) (nI d) x2 (nI (d - 1)) (nI v) ρ := by
        intro m
        induction m with
        | zero =>
          intro v ρ hv hw hrow
          show q_X8_choose_49 _ _ _ _ _ _ _ _ _ _ _
          unfold q_X8_choose_49 q_X8_choose_145
          rw [show v = 8 by omega]
          exact ⟨fun _ => hp ρ hw hrow, fun z => absurd (by decide) z⟩
        | succ m ih =>
          intro v ρ hv hw hrow
          show q_X8_choose_49 _ _ _ _ _ _ _ _ _ _ _
          unfold q_X8_choose_49
          have nx : ∀ χ : Mem, WE τ χ → (∀ e : Nat, e ≤ d → row e χ = row e τ) → q_X8_choose_139 n c (q_X8_choose n c k) post (q_X8_choose_145 n c (q_X8_choose n c k) post) (lp_5 (q_X8_choose_49 n c (q_X8_choose n c k) post (q_X8_choose_145 n c (q_X8_choose n c k) post)) (m + 1)) (nI d) x2 (nI (d - 1)) (nI v) χ := fun χ hw2 hrow2 => by
            unfold q_X8_choose_139
            rintro _ rfl
            rw [nI_1]
            exact ih (v + 1) χ (by omega) hw2 hrow2
          have e123 : ∀ χ : Mem, WE τ χ → (∀ e : Nat, e ≤ d → row e χ = row e τ) → RW (row (d + 1) χ) → q_X8_choose_123 n c (q_X8_choose n c k) post (q_X8_choose_145 n c (q_X8_choose n c k) post) (lp_5 (q_X8_choose_49 n c (q_X8_choose n c k) post (q_X8_choose_145 n c (q_X8_choose n c k) post)) (m + 1)) (nI d) x2 (nI (d - 1)) (nI v) χ := fun χ hw2 hrow2 hr2 => by
            unfold q_X8_choose_123
            refine ⟨vin_j (by omega) (by decide), ?_⟩
            rintro _ rfl
            rw [nI_1]
            have hw3 : WE χ (mst χ 8 (nI (d - 1)).toNatClampNeg (nI v)) := mstp_we (by omega)
            have e7 : ∀ e : Nat, row e (mst χ 8 (nI (d - 1)).toNatClampNeg (nI v)) = row e χ := fun e => row_e7 (mst_ne (by decide))
            refine ihk (d + 1) _ _ ((hw2.trans hw3).lv h) (by omega) (by omega) (by omega) (by rw [e7]; exact hr2) (fun ω hw4 hrow4 => nx ω ((hw2.trans hw3).trans hw4) (fun e he => ?_))
            rw [hrow4 e (by omega), e7, hrow2 e he]
          refine ⟨fun z => absurd ((nI_leI (a := 8) (b := v) (by decide) (by omega)).mp z) (by omega), fun _ => s_canBe (by omega) (by omega) (fun r _ => ⟨fun _ => ?_, fun _ => nx ρ hw hrow⟩)⟩
          have hrd : RW (row d ρ) := by rw [hrow d (Nat.le_refl _)]; exact hr
          refine w_try (hw.lv h) (by omega) (by omega) hrd (fun χ hw2 hrow2 hr2 => ?_)
          have hw3 := hw.trans hw2
          have hrow3 : ∀ e : Nat, e ≤ d → row e χ = row e τ := fun e he => (hrow2 e he).trans (hrow e he)
          refine ⟨nx χ hw3 hrow3, fun _ => e123 χ hw3 hrow3 hr2, fun _ => ?_⟩
          rw [nI_1]
          exact w_bound (hw3.lv h) (by omega) (fun r => ⟨fun _ => e123 χ hw3 hrow3 hr2, fun _ => nx χ hw3 hrow3⟩)
      exact ⟨9, key 8 0 τ rfl WE.rf (fun _ _ => rfl)⟩
    · have hd : d = nF + 1 := by
        have := nI_inj (by omega) (by omega) q
        omega
      refine w_bound h (by omega) (fun r => ?_)
      rintro _ rfl _ rfl _ rfl
      refine hp _ (((mst0_we (by omega)).trans (mst0_we (by omega))).trans (mup_we (by omega))) (fun e _ => row_e7 ?_)
      rw [mup_ne (by decide), mst_ne (by decide), mst_ne (by decide)]
theorem w_isChosen {n c nF : Nat} {post : Int32 → Mem → Prop} {τ : Mem} (h : LV (tm n τ) nF n) (hp : ∀ (r : Int32) (ρ : Mem), WE τ ρ → post r ρ) : q_X8_isChosen n c post τ := by
  have h5 := h.1
  unfold q_X8_isChosen q_X8_isChosen_26 q_X8_isChosen_46
  rintro _ rfl
  have w1 : WE τ (mst τ 0 13 0) := mst0_we (by omega)
  generalize mst τ 0 13 0 = τ1 at w1
  have hL := w1.lv h
  refine s_counting hL ?_
  generalize stF (tm n τ1) n 0 0 = x2
  refine ⟨fun _ => hp 0 _ w1, fun _ => s_meetAnew (d := 1) hL (by decide) ?_⟩
  have hm := mt_RW (set := x2) hL full_RW
  generalize mtF (tm n τ1) x2 nF n full = m at hm
  have w2 : WE τ1 (put 1 m τ1) := put_we
  refine ⟨fun _ => ?_, fun _ => hp 0 _ (w1.trans w2)⟩
  refine w_choose 6 1 _ _ (w2.lv hL) (by decide) (by omega) (by decide) (by rw [row_put hm]; exact hm) (fun ρ hw _ => ?_)
  exact ⟨fun _ => ⟨bz0, hp 0 ρ ((w1.trans w2).trans hw)⟩, fun _ => ⟨bz1, hp 1 ρ ((w1.trans w2).trans hw)⟩⟩
theorem w_countFrom {n c nF : Nat} {x2 : Int32} : ∀ (k d : Nat) (x5 : Int32) (post : Int32 → Mem → Prop) (τ : Mem), LV (tm n τ) nF n → 1 ≤ d → d ≤ nF + 1 → 7 ≤ k + d → RW (row d τ) → (∀ (r : Int32) (ρ : Mem), WE τ ρ → (∀ e : Nat, e ≤ d → row e ρ = row e τ) → post r ρ) → q_X8_countFrom n c k post (nI d) x2 x5 τ := by
  intro k
  induction k with
  | zero => intro d x5 post τ h h1 h2 h7; have := h.1; omega
  | succ k ihk =>
    intro d x5 post τ h h1 h2 h7 hr hp
    have h5 := h.1
    show q_X8_countFrom_b _ _ _ _ _ _ _ _
    unfold q_X8_countFrom_b
    rw [nI_m1 h1, nfm h]
    rintro _ rfl
    refine ⟨fun q => ?_, fun q => hp _ τ WE.rf (fun _ _ => rfl)⟩
    have hdn : d ≤ nF := by
      rcases Nat.lt_or_ge nF d with z | z
      · exact absurd (by rw [show d - 1 = nF by omega]) q
      · exact z
    have key : ∀ (m v : Nat) (x5 : Int32) (ρ : Mem), v + m = 8 → WE τ ρ → (∀ e : Nat, e ≤ d → row e ρ = row e τ) → lp_6 (q_X8_countFrom_24 n c (q_X8_countFrom n c k) post (q_X8_countFrom_102 n c (q_X8_countFrom n c k) post)) (m + 1) (nI d) x2 (nI (d - 1)) x5 (nI v) ρ := by
      intro m
      induction m with
      | zero =>
        intro v x5 ρ hv hw hrow
        show q_X8_countFrom_24 _ _ _ _ _ _ _ _ _ _ _ _
        unfold q_X8_countFrom_24 q_X8_countFrom_102
        rw [show v = 8 by omega]
        exact ⟨fun _ => hp _ ρ hw hrow, fun z => absurd (by decide) z⟩
      | succ m ih =>
        intro v x5 ρ hv hw hrow
        show q_X8_countFrom_24 _ _ _ _ _ _ _ _ _ _ _ _
        unfold q_X8_countFrom_24 q_X8_countFrom_102
        have nx : ∀ (y5 : Int32) (χ : Mem), WE τ χ → (∀ e : Nat, e ≤ d → row e χ = row e τ) → q_X8_countFrom_96 n c (q_X8_countFrom n c k) post (fun x5 σ => post x5 σ) (lp_6 (q_X8_countFrom_24 n c (q_X8_countFrom n c k) post (q_X8_countFrom_102 n c (q_X8_countFrom n c k) post)) (m + 1)) (nI d) x2 (nI (d - 1)) y5 (nI v) χ := fun y5 χ hw2 hrow2 => by
          unfold q_X8_countFrom_96
          rintro _ rfl
          rw [nI_1]
          exact ih (v + 1) y5 χ (by omega) hw2 hrow2
        refine ⟨fun z => absurd ((nI_leI (a := 8) (b := v) (by decide) (by omega)).mp z) (by omega), fun _ => ⟨fun _ => hp _ ρ hw hrow, fun _ => s_canBe (by omega) (by omega) (fun r _ => ⟨fun _ => ?_, fun _ => nx x5 ρ hw hrow⟩)⟩⟩
        have hrd : RW (row d ρ) := by rw [hrow d (Nat.le_refl _)]; exact hr
        refine w_try (hw.lv h) (by omega) (by omega) hrd (fun χ hw2 hrow2 hr2 => ?_)
        have hw3 := hw.trans hw2
        have hrow3 : ∀ e : Nat, e ≤ d → row e χ = row e τ := fun e he => (hrow2 e he).trans (hrow e he)
        refine ⟨nx x5 χ hw3 hrow3, ?_⟩
        rw [nI_1]
        exact ihk (d + 1) x5 _ χ (hw3.lv h) (by omega) (by omega) (by omega) hr2 (fun r2 ω hw4 hrow4 => nx r2 ω (hw3.trans hw4) (fun e he => (hrow4 e (by omega)).trans (hrow3 e he)))
    exact ⟨9, key 8 0 x5 τ rfl WE.rf (fun _ _ => rfl)⟩
