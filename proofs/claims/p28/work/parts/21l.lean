/-! THE REFERENCE: value -/
theorem bs0 (n : Nat) : BS n 0 (fun _ _ => 0) := ⟨rfl, rfl, fun _ => (show fits .byte (.int 0) = true from by decide +kernel)⟩
theorem s_app0 {bd : Nat → Nat} {post : Nat → Mem → Prop} (hp : ∀ τ' : Mem, BS 16 0 τ' → post (bd 0) τ') : q_J4_append_cf1ce bd 16 0 post (fun _ _ => 0) := by
  unfold q_J4_append_cf1ce q_J4_append_15ec4 q_J5_append_cf1ce q_J0_length_8abf5 q_J0_coder_7d493 q_J5_ensureCapacityInternal_d00df q_J5_ensureCapacityInternal_d00df_38
  rintro _ rfl
  refine ⟨fun _ => ?_, fun q => absurd (by decide +kernel) q⟩
  unfold q_J5_putStringAt_47b60 q_J5_inflateIfNeededFor_a7421 q_J5_inflateIfNeededFor_a7421_21 q_J0_coder_7d493 q_J0_getBytes_840e7 q_J0_coder_7d493
  refine ⟨fun _ => ⟨fun z => absurd rfl z, fun _ => ⟨by decide +kernel, ?_⟩⟩, fun q => absurd rfl q⟩
  rintro _ rfl
  unfold q_J0_getBytes_840e7_43
  rintro _ rfl
  refine hp _ ⟨?_, ?_, ?_⟩
  · rw [mst_eq, upd_ne (by decide), mup_ne (by decide)]
  · rw [mst_eq, upd_eq, mup_ne (by decide)]; decide +kernel
  · rw [mst_ne (by decide), mup_eq]
    intro k
    show fits .byte (.int (if _ then _ else _)) = true
    split
    · rename_i hk
      exact absurd hk.2 (by have e : ((0 : Int32) <<< ((0 : Int32) &&& 31)).toNatClampNeg + (nI (([0, 1] : List Nat).getD 0 0)).toNatClampNeg = 0 := by decide +kernel
                            rw [e]; omega)
    · exact (show fits .byte (.int 0) = true from by decide +kernel)
theorem s_app1 {bd : Nat → Nat} {post : Nat → Mem → Prop} (hp : ∀ τ' : Mem, BS 17 1 τ' → post (bd 0) τ') : q_J4_append_cf1ce bd 17 1 post (fun _ _ => 0) := by
  unfold q_J4_append_cf1ce q_J4_append_15ec4 q_J5_append_cf1ce q_J0_length_8abf5 q_J0_coder_7d493 q_J5_ensureCapacityInternal_d00df q_J5_ensureCapacityInternal_d00df_38
  rintro _ rfl
  refine ⟨fun _ => ?_, fun q => absurd (by decide +kernel) q⟩
  unfold q_J5_putStringAt_47b60 q_J5_inflateIfNeededFor_a7421 q_J5_inflateIfNeededFor_a7421_21 q_J0_coder_7d493 q_J0_getBytes_840e7 q_J0_coder_7d493
  refine ⟨fun _ => ⟨fun z => absurd rfl z, fun _ => ⟨by decide +kernel, ?_⟩⟩, fun q => absurd rfl q⟩
  rintro _ rfl
  unfold q_J0_getBytes_840e7_43
  rintro _ rfl
  refine hp _ ⟨?_, ?_, ?_⟩
  · rw [mst_eq, upd_ne (by decide), mup_ne (by decide)]
  · rw [mst_eq, upd_eq, mup_ne (by decide)]; decide +kernel
  · rw [mst_ne (by decide), mup_eq]
    intro k
    show fits .byte (.int (if _ then _ else _)) = true
    split
    · rename_i hk
      have e : ((0 : Int32) <<< ((0 : Int32) &&& 31)).toNatClampNeg + (nI (([0, 1] : List Nat).getD 1 0)).toNatClampNeg = 1 := by decide +kernel
      have hk2 := hk.2
      rw [e] at hk2
      have : k = 0 := by omega
      subst this
      decide +kernel
    · exact (show fits .byte (.int 0) = true from by decide +kernel)
/-- what is, is a number -/
theorem ntz8 : ∀ i : Nat, i < 256 → bcF (nI i) = 1 → ∃ j : Nat, j < 8 ∧ nI i = (1 : Int32) <<< (nI j &&& 31) := by
  have h : ∀ i : Nat, i < 256 → bcF (nI i) = 1 → (nI i = (1 : Int32) <<< (nI 0 &&& 31) ∨ nI i = (1 : Int32) <<< (nI 1 &&& 31) ∨ nI i = (1 : Int32) <<< (nI 2 &&& 31) ∨ nI i = (1 : Int32) <<< (nI 3 &&& 31) ∨ nI i = (1 : Int32) <<< (nI 4 &&& 31) ∨ nI i = (1 : Int32) <<< (nI 5 &&& 31) ∨ nI i = (1 : Int32) <<< (nI 6 &&& 31) ∨ nI i = (1 : Int32) <<< (nI 7 &&& 31)) := by decide +kernel
  intro i hi hb
  rcases h i hi hb with e | e | e | e | e | e | e | e
  · exact ⟨0, by decide, e⟩
  · exact ⟨1, by decide, e⟩
  · exact ⟨2, by decide, e⟩
  · exact ⟨3, by decide, e⟩
  · exact ⟨4, by decide, e⟩
  · exact ⟨5, by decide, e⟩
  · exact ⟨6, by decide, e⟩
  · exact ⟨7, by decide, e⟩
theorem s_ntz8 {post : Int32 → Mem → Prop} {j : Nat} {τ : Mem} (hj : j < 8) (hp : post (nI j) τ) : q_J6_numberOfTrailingZeros_0f7a4 post ((1 : Int32) <<< (nI j &&& 31)) τ := by
  unfold q_J6_numberOfTrailingZeros_0f7a4 q_J6_numberOfTrailingZeros_0f7a4_34 q_J6_numberOfTrailingZeros_0f7a4_49 q_J6_numberOfTrailingZeros_0f7a4_62 q_J6_numberOfTrailingZeros_0f7a4_74
  rcases (show j = 0 ∨ j = 1 ∨ j = 2 ∨ j = 3 ∨ j = 4 ∨ j = 5 ∨ j = 6 ∨ j = 7 by omega) with rfl | rfl | rfl | rfl | rfl | rfl | rfl | rfl
  · rintro _ rfl
    exact ⟨fun z => absurd z (by decide), fun _ => hp⟩
  · rintro _ rfl
    exact ⟨fun _ => ⟨fun _ => ⟨fun _ => ⟨fun _ => ⟨fun _ => hp, fun z => absurd (by decide) z⟩, fun z => absurd (by decide) z⟩, fun z => absurd (by decide) z⟩, fun z => absurd (by decide) z⟩, fun z => absurd (by decide) z⟩
  · rintro _ rfl
    exact ⟨fun _ => ⟨fun _ => ⟨fun _ => ⟨fun _ => ⟨fun _ => hp, fun z => absurd (by decide) z⟩, fun z => absurd (by decide) z⟩, fun z => absurd (by decide) z⟩, fun z => absurd (by decide) z⟩, fun z => absurd (by decide) z⟩
  · rintro _ rfl
    refine ⟨fun _ => ⟨fun _ => ⟨fun _ => ⟨fun _ => ⟨fun z => absurd z (by decide), fun _ => ?_⟩, fun z => absurd (by decide) z⟩, fun z => absurd (by decide) z⟩, fun z => absurd (by decide) z⟩, fun z => absurd (by decide) z⟩
    rintro _ rfl _ rfl
    exact hp
  · rintro _ rfl
    refine ⟨fun _ => ⟨fun _ => ⟨fun _ => ⟨fun _ => ⟨fun z => absurd z (by decide), fun _ => ?_⟩, fun z => absurd (by decide) z⟩, fun z => absurd (by decide) z⟩, fun z => absurd (by decide) z⟩, fun z => absurd (by decide) z⟩
    rintro _ rfl _ rfl
    exact hp
  · rintro _ rfl
    refine ⟨fun _ => ⟨fun _ => ⟨fun _ => ⟨fun z => absurd z (by decide), fun _ => ?_⟩, fun z => absurd (by decide) z⟩, fun z => absurd (by decide) z⟩, fun z => absurd (by decide) z⟩
    rintro _ rfl _ rfl
    exact ⟨fun _ => hp, fun z => absurd (by decide) z⟩
  · rintro _ rfl
    refine ⟨fun _ => ⟨fun _ => ⟨fun _ => ⟨fun z => absurd z (by decide), fun _ => ?_⟩, fun z => absurd (by decide) z⟩, fun z => absurd (by decide) z⟩, fun z => absurd (by decide) z⟩
    rintro _ rfl _ rfl
    exact ⟨fun _ => hp, fun z => absurd (by decide) z⟩
  · rintro _ rfl
    refine ⟨fun _ => ⟨fun _ => ⟨fun _ => ⟨fun z => absurd z (by decide), fun _ => ?_⟩, fun z => absurd (by decide) z⟩, fun z => absurd (by decide) z⟩, fun z => absurd (by decide) z⟩
    rintro _ rfl _ rfl
    refine ⟨fun z => absurd z (by decide), fun _ => ?_⟩
    rintro _ rfl _ rfl
    exact hp
theorem r_whatIs {n c nF f : Nat} {post : Int32 → Mem → Prop} {τ : Mem} (h : LV (tm n τ) nF n) (hf : f < 5) (hp : ∀ (r : Int32) (ρ : Mem), SE τ ρ → (r = -1 ∨ ∃ d : Nat, d < 8 ∧ r = nI d) → post r ρ) : q_X8_whatIs n c post (nI f) τ := by
  unfold q_X8_whatIs q_X8_whatIs_24
  refine w_settle h (fun ρ hs hr => s_X8_count (d := 0) (by decide) hf ⟨fun _ => hp _ ρ hs (Or.inl rfl), fun q => ?_⟩)
  unfold q_X8_least
  refine s_setOf (d := 0) (by decide) hf ?_
  obtain ⟨i, hi, ei⟩ := s8_ex (hr.2 f)
  rw [ei] at q ⊢
  obtain ⟨j, hj, ej⟩ := ntz8 i hi q
  rw [ej]
  exact s_ntz8 hj (hp _ ρ hs (Or.inr ⟨j, hj, rfl⟩))
theorem r_value {n c : Nat} {post : Nat → Mem → Prop} {x : Int32} {τ : Mem} (h : RG n c τ) (hp : ∀ (r : Nat) (ρ : Mem), WE τ ρ → post r ρ) : q_X8_value n c post x τ := by
  obtain ⟨⟨nF, hL⟩, -⟩ := h
  have h5 := hL.1
  unfold q_X8_value q_X8_value_14
  refine s_X8_isField hL (fun r hr => ⟨fun _ => ?_, fun q => ?_⟩)
  · rintro _ rfl
    refine ⟨fun z => absurd z (by rw [mst_eq, upd_eq]; decide), fun _ r9 => hp r9 _ (mst0_we (by omega))⟩
  · obtain ⟨f, hf, rfl, -⟩ := vin_idx (vin_mono (hr.t q) h5)
    rintro _ rfl
    have w1 : WE τ (mst τ 0 0 0) := mst0_we (by omega)
    refine ⟨fun _ => s_mayBe (w1.lv hL) hf ?_, fun z => absurd (by rw [mst_eq, upd_eq]; decide) z⟩
    have w2 : WE τ (put 0 (aM (tm n (mst τ 0 0 0)) nF n) (mst τ 0 0 0)) := w1.trans put_we
    generalize aM (tm n (mst τ 0 0 0)) nF n f = x2
    generalize put 0 (aM (tm n (mst τ 0 0 0)) nF n) (mst τ 0 0 0) = τ2 at w2
    have fin : ∀ (N k : Nat) (wb : Nat → Nat) (wt : Mem) (χ : Mem), WE τ χ → BS N k wt → k < N → N ≤ 64 → q_X8_value_111 n c post wb wt N χ := fun N k wb wt χ w hb hc hN => by
      unfold q_X8_value_111
      exact ⟨k, ⟨hc, hN, hb.2.2, hb.1, hb.2.1⟩, fun r => hp r χ w⟩
    have lst : ∀ (N k : Nat) (wb : Nat → Nat) (wt : Mem), BS N k wt → k + 3 ≤ N → N ≤ 64 → q_X8_value_86 n c post (nI f) wb wt N τ2 := fun N k wb wt hb hc hN => by
      unfold q_X8_value_86
      refine r_whatIs (w2.lv hL) hf (fun r χ hs hr9 => ⟨fun _ => fin N k wb wt χ (w2.trans hs.we) hb (by omega) hN, fun q9 => s_appC hb (by omega) hN (by decide) (by decide +kernel) (fun τ' hb2 => ⟨rfl, ?_⟩)⟩)
      obtain ⟨d, hd, ed⟩ := hr9.resolve_left q9
      rw [ed]
      exact s_appI hb2 (by omega) hN hd (fun τ3 hb3 => ⟨rfl, fin N (k + 1 + 1) wb τ3 χ (w2.trans hs.we) hb3 (by omega) hN⟩)
    have loop : ∀ (N k : Nat) (wb : Nat → Nat) (wt : Mem), BS N k wt → k + 11 ≤ N → N ≤ 64 → (∃ n9 : Nat, lp_7 (q_X8_value_56 n c post (q_X8_value_86 n c post)) n9 (nI f) x2 0 wb wt N τ2) := by
      intro N
      have key : ∀ (d i k : Nat) (wb : Nat → Nat) (wt : Mem), i + d = 8 → BS N k wt → k + 11 ≤ N + i → N ≤ 64 → lp_7 (q_X8_value_56 n c post (q_X8_value_86 n c post)) (d + 1) (nI f) x2 (nI i) wb wt N τ2 := by
        intro d
        induction d with
        | zero =>
          intro i k wb wt hi hb hc hN
          show q_X8_value_56 _ _ _ _ _ _ _ _ _ _ _ _
          unfold q_X8_value_56
          rw [show i = 8 by omega]
          exact ⟨fun _ => lst N k wb wt hb (by omega) hN, fun z => absurd (by decide) z⟩
        | succ d ih =>
          intro i k wb wt hi hb hc hN
          show q_X8_value_56 _ _ _ _ _ _ _ _ _ _ _ _
          unfold q_X8_value_56 q_X8_value_80
          refine ⟨fun z => absurd ((nI_leI (a := 8) (b := i) (by decide) (by omega)).mp z) (by omega), fun _ => ⟨fun _ => ?_, fun _ => ?_⟩⟩
          · rintro _ rfl
            rw [nI_1]
            exact ih (i + 1) k wb wt (by omega) hb (by omega) hN
          · refine s_appI hb (by omega) hN (by omega) (fun τ' hb2 => ⟨rfl, ?_⟩)
            rintro _ rfl
            rw [nI_1]
            exact ih (i + 1) (k + 1) wb τ' (by omega) hb2 (by omega) hN
      intro k wb wt hb hc hN
      exact ⟨9, key 8 0 k wb wt rfl hb (by omega) hN⟩
    refine ⟨fun _ q9 bd hbd => s_app0 (fun τ' hb => ⟨hbd, loop 16 0 bd τ' hb (by decide) (by decide)⟩), fun _ q9 bd hbd => s_app1 (fun τ' hb => ⟨hbd, loop 17 1 bd τ' hb (by decide) (by decide)⟩)⟩
