theorem x_settle48 {n c nF f : Nat} {post : Mem → Prop} {kE : Int32 → Int32 → Mem → Prop} {x1 : Int32} {τ : Mem} {m : Mw} (h : LV (tm n τ) nF n) (hf : f < 5) (hm : RW m) (hE : ∀ (m' : Mw) (ρ : Mem), SE τ ρ → Res (tm n τ) x1 nF n f m m' → row 0 ρ = m' → RW m' → kE x1 (nI f) ρ) :
    ∀ (k : Nat) (x4 : Int32) (ρ : Mem), SE τ ρ → row 0 ρ = m → ((x4 = -1 ∧ ∀ q : Nat, q < 80 → ¬ Gq (tm n τ) x1 nF n f m q) ∨ ∃ j : Nat, j < n ∧ x4 = nI j ∧ Df n τ f j ∧ (∀ q : Nat, q < pq τ j → ¬ Gq (tm n τ) x1 nF n f m q) ∧ 4722366482869645213696 ≤ ky τ j + (k : Int)) → lp_5 (q_X8_settle_48 n c post kE) (k + 1) x1 (nI f) 1 x4 ρ := by
  have h30 := h.2.1
  intro k
  induction k with
  | zero =>
    intro x4 ρ hs hr hx
    show q_X8_settle_48 _ _ _ _ _ _ _ _ _ _
    unfold q_X8_settle_48
    rcases hx with ⟨e, hg⟩ | ⟨j, hj, -, -, -, e⟩
    · exact ⟨fun _ => hE m ρ hs (Or.inr ⟨hg, rfl⟩) hr hm, fun q => absurd e q⟩
    · have := ky_lt (τ := τ) (j := j) (by omega)
      omega
  | succ k ih =>
    intro x4 ρ hs hr hx
    show q_X8_settle_48 _ _ _ _ _ _ _ _ _ _
    unfold q_X8_settle_48
    rcases hx with ⟨e, hg⟩ | ⟨j, hj, ej, hd, hg, e⟩
    · exact ⟨fun _ => hE m ρ hs (Or.inr ⟨hg, rfl⟩) hr hm, fun q => absurd e q⟩
    refine ⟨fun q => ?_, fun _ => ⟨fun q => absurd q (by decide), fun _ => ?_⟩⟩
    · exfalso
      have := congrArg Int32.toInt (ej.symm.trans q)
      rw [nI_toInt (by omega)] at this
      have e2 : ((-1 : Int32)).toInt = -1 := by decide
      rw [e2] at this
      omega
    obtain ⟨b, w, hb, hw, eb, ew, epq, -⟩ := df_num h hj hd
    have ew8 : pq τ j % 8 = w := by rw [epq]; omega
    have hq80 : pq τ j < 80 := (pq_le h hj hj hd hd).2.2
    have hdq : Dq (tm n τ) n f (pq τ j) := (dq_df h hq80).mpr ⟨j, hj, hd, rfl⟩
    -- behind a default that is not good
    have nx : ¬ Gq (tm n τ) x1 nF n f m (pq τ j) → ∀ ρ2 : Mem, SE τ ρ2 → row 0 ρ2 = m → q_X8_settle_123 n c post kE (lp_5 (q_X8_settle_48 n c post kE) (k + 1)) x1 (nI f) 1 x4 ρ2 := fun hng ρ2 hs2 hr2 => by
      unfold q_X8_settle_123
      have none : ∀ (q : Nat), q < 80 → (∀ i : Nat, i < n → Df n τ f i → ky τ j < ky τ i → ¬ pq τ i = q) → ¬ Gq (tm n τ) x1 nF n f m q := fun q hq hno z => by
        rcases Nat.lt_trichotomy q (pq τ j) with y | y | y
        · exact hg q y z
        · rw [y] at z; exact hng z
        · obtain ⟨i, hi, hdi, ei⟩ := (dq_df h hq).mp z.1
          exact hno i hi hdi ((pq_le h hj hi hd hdi).2.1 (by omega)) ei
      refine x_next (hs2.lv h) (Or.inr ⟨j, hj, ej⟩) (fun r hr9 => ih r ρ2 hs2 hr2 ?_)
      have eB : ∀ i : Nat, Bx ρ2 n x4 i ↔ ky τ j < ky τ i := fun i => by
        unfold Bx
        constructor
        · intro z
          have := z j hj ej
          rwa [ky_se hs2, ky_se hs2] at this
        · intro z i2 hi2 e2
          rw [ej] at e2
          rw [← nI_inj (by omega) (by omega) e2, ky_se hs2, ky_se hs2]
          exact z
      rcases hr9 with ⟨z, hz⟩ | ⟨j2, hj2, ej2, ⟨hd2, hb2⟩, hz⟩
      · refine Or.inl ⟨z, fun q hq => none q hq (fun i hi hdi hlt _ => hz i hi ⟨(df_se hs2).mpr hdi, (eB i).mpr hlt⟩)⟩
      · have hd2 := (df_se hs2).mp hd2
        have hlt2 := (eB j2).mp hb2
        refine Or.inr ⟨j2, hj2, ej2, hd2, fun q hq => none q (by have := (pq_le h hj2 hj2 hd2 hd2).2.2; omega) (fun i hi hdi hlt ei => ?_), by omega⟩
        have := hz i hi ⟨(df_se hs2).mpr hdi, (eB i).mpr hlt⟩
        rw [ky_se hs2, ky_se hs2] at this
        have := (pq_le h hj2 hi hd2 hdi).1 this
        omega
    refine ⟨j, ⟨hj, ej⟩, ?_⟩
    rintro _ rfl
    rw [hs (100 + j) (by omega), ew]
    refine s_canBe (d := 0) (by decide) hf (fun r hrb => ⟨fun z => ?_, fun z => ?_⟩)
    · have hbit : hasB (m f) (nI w) := by have := hrb.t z; rwa [hr] at this
      have r1 : row 1 (put 1 (row 0 ρ) ρ) = m := by rw [hr]; exact row_put hm
      refine s_copy8 (a := 0) (b := 1) (by decide) (by decide) (s_only (d := 1) (by decide) hf ?_)
      rw [r1, put_put]
      have e1 : upd m f (m f &&& ((1 : Int32) <<< (nI w &&& 31))) = tyM m f (pq τ j) := by
        unfold tyM
        rw [ew8]
        obtain ⟨i, hi, ei⟩ := s8_ex (hm.2 f)
        rw [ei] at hbit ⊢
        rw [one_and w hw i hi hbit]
      rw [e1]
      have hm2 := ty_RW (q := pq τ j) hm hf
      have sm2 : SE τ (put 1 (tyM m f (pq τ j)) ρ) := hs.trans put_se
      refine s_meet (d := 1) (sm2.lv h) (by decide) (by rw [row_put hm2]; exact hm2) ?_
      rw [row_put hm2, put_put, sm2.etm]
      have hm3 := mt_RW (set := x1) h hm2
      have sm3 : SE τ (put 1 (mtF (tm n τ) x1 nF n (tyM m f (pq τ j))) ρ) := hs.trans put_se
      have r0 : row 0 (put 1 (mtF (tm n τ) x1 nF n (tyM m f (pq τ j))) ρ) = m := (row_put_ne (by decide)).trans hr
      refine ⟨fun z2 => s_copy8 (a := 1) (b := 0) (by decide) (by decide) ?_, fun z2 => nx (fun y => z2 y.2.2) _ sm3 r0⟩
      rw [row_put hm3]
      have hres : Res (tm n τ) x1 nF n f m (mtF (tm n τ) x1 nF n (tyM m f (pq τ j))) := Or.inl ⟨pq τ j, hq80, ⟨hdq, by rw [ew8]; exact hbit, z2⟩, hg, rfl⟩
      have sm4 : SE τ (put 0 (mtF (tm n τ) x1 nF n (tyM m f (pq τ j))) (put 1 (mtF (tm n τ) x1 nF n (tyM m f (pq τ j))) ρ)) := sm3.trans put_se
      have fin := hE _ _ sm4 hres (row_put hm3) hm3
      unfold q_X8_settle_123
      refine w_next (sm4.lv h) (Or.inr ⟨j, hj, ej⟩) (fun r9 _ => ?_)
      show q_X8_settle_48 n c post kE _ _ _ _ _ _
      unfold q_X8_settle_48
      exact ⟨fun _ => fin, fun _ => ⟨fun _ => fin, fun y => absurd rfl y⟩⟩
    · have := nx (fun y => hrb.f z (by rw [hr]; have := y.2.1; rwa [ew8] at this)) ρ hs hr
      exact this
theorem x_settle {n c nF : Nat} {post : Mem → Prop} {τ : Mem} (h : LV (tm n τ) nF n) (hp : ∀ ρ : Mem, SE τ ρ → RW (row 0 ρ) → SetR (tm n τ) (stF (tm n τ) n 0 0) nF n nF 0 (aM (tm n τ) nF n) (row 0 ρ) → post ρ) : q_X8_settle n c post τ := by
  have h5 := h.1
  unfold q_X8_settle
  refine s_counting h (s_meetAnew (d := 0) h (by decide) ?_)
  have hm : RW (aM (tm n τ) nF n) := aM_RW h
  have ea : aM (tm n τ) nF n = mtF (tm n τ) (stF (tm n τ) n 0 0) nF n full := rfl
  have ec : mtC (tm n τ) (stF (tm n τ) n 0 0) nF n full = aC (tm n τ) nF n := rfl
  rw [← ea, ec]
  have r0 : row 0 (put 0 (aM (tm n τ) nF n) τ) = aM (tm n τ) nF n := row_put hm
  refine ⟨fun _ => ?_, fun q => hp _ put_se (by rw [r0]; exact hm) ?_⟩
  · generalize aM (tm n τ) nF n = m0 at hm r0 hp
    generalize hx1 : stF (tm n τ) n 0 0 = x1 at hp
    have key : ∀ (d f : Nat) (m : Mw) (ρ : Mem), f + d = nF → SE τ ρ → RW m → row 0 ρ = m → (∀ (m' : Mw) (χ : Mem), SE τ χ → RW (row 0 χ) → SetR (tm n τ) x1 nF n d f m (row 0 χ) → post χ) → lp_3 (q_X8_settle_17 n c post (q_X8_settle_141 n c post)) (d + 1) x1 (nI f) ρ := by
      intro d
      induction d with
      | zero =>
        intro f m ρ hf hs hm hr hp
        show q_X8_settle_17 _ _ _ _ _ _ _ _
        unfold q_X8_settle_17 q_X8_settle_141
        rw [nfm (hs.lv h)]
        exact ⟨fun _ => hp m ρ hs (by rw [hr]; exact hm) hr, fun q => absurd (nI_le (by omega) (by omega)) q⟩
      | succ d ih =>
        intro f m ρ hf hs hm hr hp
        show q_X8_settle_17 _ _ _ _ _ _ _ _
        unfold q_X8_settle_17
        rw [nfm (hs.lv h)]
        have e135 : ∀ (m1 : Mw) (ρ2 : Mem), SE τ ρ2 → Sep (tm n τ) x1 nF n f m m1 → row 0 ρ2 = m1 → RW m1 → q_X8_settle_135 n c post (q_X8_settle_141 n c post) (lp_3 (q_X8_settle_17 n c post (q_X8_settle_141 n c post)) (d + 1)) x1 (nI f) ρ2 := fun m1 ρ2 hs2 hsep hr2 hm1 => by
          unfold q_X8_settle_135
          rintro _ rfl
          rw [nI_1]
          exact ih (f + 1) m1 ρ2 (by omega) hs2 hm1 hr2 (fun m' χ a b d9 => hp m' χ a b ⟨m1, hsep, d9⟩)
        refine ⟨fun q => absurd ((nI_leI (by omega) (by omega)).mp q) (by omega), fun _ => s_X8_count (d := 0) (by decide) (by omega) ?_⟩
        rw [hr]
        refine ⟨fun q2 => x_next (hs.lv h) (Or.inl rfl) (fun r hr9 => ?_), fun q2 => e135 m ρ hs ⟨fun z => absurd z q2, fun _ => rfl⟩ hr hm⟩
        refine ⟨(4722366482869645213696 + 4722366482869645213696 : Int).toNat + 1, x_settle48 h (by omega) hm (fun m' ρ2 hs2 hres hr2 hm2 => e135 m' ρ2 hs2 ⟨fun _ => hres, fun z => absurd q2 z⟩ hr2 hm2) _ r ρ hs hr ?_⟩
        have m1 : ∀ a : Nat, a < 30 → ¬ (-1 : Int32) = nI a := fun a ha z => by
          have h30 := h.2.1
          have := congrArg Int32.toInt z
          rw [nI_toInt (by omega)] at this
          have e2 : ((-1 : Int32)).toInt = -1 := by decide
          rw [e2] at this
          omega
        have eB : ∀ i : Nat, Bx ρ n (-1) i := fun i i2 hi2 z => absurd z (m1 i2 (by have := h.2.1; omega))
        rcases hr9 with ⟨z, hz⟩ | ⟨j, hj, ej, ⟨hd, -⟩, hz⟩
        · refine Or.inl ⟨z, fun q hq y => ?_⟩
          obtain ⟨i, hi, hdi, -⟩ := (dq_df h hq).mp y.1
          exact hz i hi ⟨(df_se hs).mpr hdi, eB i⟩
        · have hd := (df_se hs).mp hd
          refine Or.inr ⟨j, hj, ej, hd, fun q hq y => ?_, ?_⟩
          · obtain ⟨i, hi, hdi, ei⟩ := (dq_df h (by have := (pq_le h hj hj hd hd).2.2; omega)).mp y.1
            have := hz i hi ⟨(df_se hs).mpr hdi, eB i⟩
            rw [ky_se hs, ky_se hs] at this
            have := (pq_le h hj hi hd hdi).1 this
            omega
          · have := ky_lo (τ := τ) (j := j)
            omega
    exact ⟨nF + 1, key nF 0 m0 _ (Nat.zero_add _) put_se hm r0 (fun _ χ a b d9 => hp χ a b d9)⟩
  · rw [r0]
    have e0 : ∀ f : Nat, f < 5 → aM (tm n τ) nF n f = 0 := fun f hf => by
      rw [ea]
      unfold mtF finM
      rw [if_neg (by exact q)]
      exact if_pos hf
    generalize aM (tm n τ) nF n = m at e0
    have key : ∀ (d f : Nat), f + d ≤ 5 → SetR (tm n τ) (stF (tm n τ) n 0 0) nF n d f m m := by
      intro d
      induction d with
      | zero => intro f _; rfl
      | succ d ih =>
        intro f hf
        refine ⟨m, ⟨fun z => absurd z ?_, fun _ => rfl⟩, ih (f + 1) (by omega)⟩
        rw [e0 f (by omega)]
        decide
    exact key nF 0 (by omega)
