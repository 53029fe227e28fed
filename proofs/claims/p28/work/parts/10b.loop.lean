/-! THE LAW'S LOOP AND ITS START, over any invariant that every call keeps -/
abbrev NXT : Type := Mem → Int64 → Value → (Nat → Nat) → (Nat → Nat) → Mem → Prop
def STEP (I : NXT) : Prop := (∀ (a1 a2 a3 a4 : Int32) (σ : Mem) (n : Int64) (v : Value) (am g : Nat → Nat) (τ : Mem), gk g → I σ n v am g τ → q_case_0 I a1 a2 a3 a4 σ n v am g τ) ∧ (∀ (a1 a2 a3 a4 : Int32) (σ : Mem) (n : Int64) (v : Value) (am g : Nat → Nat) (τ : Mem), gk g → I σ n v am g τ → q_case_1 I a1 a2 a3 a4 σ n v am g τ) ∧ (∀ (a1 a2 a3 a4 : Int32) (σ : Mem) (n : Int64) (v : Value) (am g : Nat → Nat) (τ : Mem), gk g → I σ n v am g τ → q_case_2 I a1 a2 a3 a4 σ n v am g τ) ∧ (∀ (a1 a2 a3 a4 : Int32) (σ : Mem) (n : Int64) (v : Value) (am g : Nat → Nat) (τ : Mem), gk g → I σ n v am g τ → q_case_3 I a1 a2 a3 a4 σ n v am g τ) ∧ (∀ (a1 a2 a3 a4 : Int32) (σ : Mem) (n : Int64) (v : Value) (am g : Nat → Nat) (τ : Mem), gk g → I σ n v am g τ → q_case_4 I a1 a2 a3 a4 σ n v am g τ) ∧ (∀ (a1 a2 a3 a4 : Int32) (σ : Mem) (n : Int64) (v : Value) (am g : Nat → Nat) (τ : Mem), gk g → I σ n v am g τ → q_case_5 I a1 a2 a3 a4 σ n v am g τ) ∧ (∀ (a1 a2 a3 a4 : Int32) (σ : Mem) (n : Int64) (v : Value) (am g : Nat → Nat) (τ : Mem), gk g → I σ n v am g τ → q_case_6 I a1 a2 a3 a4 σ n v am g τ) ∧ (∀ (a1 a2 a3 a4 : Int32) (σ : Mem) (n : Int64) (v : Value) (am g : Nat → Nat) (τ : Mem), gk g → I σ n v am g τ → q_case_7 I a1 a2 a3 a4 σ n v am g τ) ∧ (∀ (a1 a2 a3 a4 : Int32) (σ : Mem) (n : Int64) (v : Value) (am g : Nat → Nat) (τ : Mem), gk g → I σ n v am g τ → q_case_8 I a1 a2 a3 a4 σ n v am g τ) ∧ (∀ (a1 a2 a3 a4 : Int32) (σ : Mem) (n : Int64) (v : Value) (am g : Nat → Nat) (τ : Mem), gk g → I σ n v am g τ → q_case_9 I a1 a2 a3 a4 σ n v am g τ) ∧ (∀ (a1 a2 a3 a4 : Int32) (σ : Mem) (n : Int64) (v : Value) (am g : Nat → Nat) (τ : Mem), gk g → I σ n v am g τ → q_case_10 I a1 a2 a3 a4 σ n v am g τ) ∧ (∀ (a1 a2 a3 a4 : Int32) (σ : Mem) (n : Int64) (v : Value) (am g : Nat → Nat) (τ : Mem), gk g → I σ n v am g τ → q_case_11 I a1 a2 a3 a4 σ n v am g τ) ∧ (∀ (a1 a2 a3 a4 : Int32) (σ : Mem) (n : Int64) (v : Value) (am g : Nat → Nat) (τ : Mem), gk g → I σ n v am g τ → q_case_12 I a1 a2 a3 a4 σ n v am g τ) ∧ (∀ (a1 a2 a3 a4 : Int32) (σ : Mem) (n : Int64) (v : Value) (am g : Nat → Nat) (τ : Mem), gk g → I σ n v am g τ → q_case_13 I a1 a2 a3 a4 σ n v am g τ) ∧ (∀ (a1 a2 a3 a4 : Int32) (σ : Mem) (n : Int64) (v : Value) (am g : Nat → Nat) (τ : Mem), gk g → I σ n v am g τ → q_case_14 I a1 a2 a3 a4 σ n v am g τ) ∧ (∀ (a1 a2 a3 a4 : Int32) (σ : Mem) (n : Int64) (v : Value) (am g : Nat → Nat) (τ : Mem), gk g → I σ n v am g τ → q_case_15 I a1 a2 a3 a4 σ n v am g τ) ∧ (∀ (a1 a2 a3 a4 : Int32) (σ : Mem) (n : Int64) (v : Value) (am g : Nat → Nat) (τ : Mem), gk g → I σ n v am g τ → q_case_16 I a1 a2 a3 a4 σ n v am g τ) ∧ (∀ (a1 a2 a3 a4 : Int32) (σ : Mem) (n : Int64) (v : Value) (am g : Nat → Nat) (τ : Mem), gk g → I σ n v am g τ → q_case_17 I a1 a2 a3 a4 σ n v am g τ) ∧ (∀ (a1 a2 a3 a4 : Int32) (σ : Mem) (n : Int64) (v : Value) (am g : Nat → Nat) (τ : Mem), gk g → I σ n v am g τ → q_case_18 I a1 a2 a3 a4 σ n v am g τ) ∧ (∀ (a1 a2 a3 a4 : Int32) (σ : Mem) (n : Int64) (v : Value) (am g : Nat → Nat) (τ : Mem), gk g → I σ n v am g τ → q_case_19 I a1 a2 a3 a4 σ n v am g τ) ∧ (∀ (a1 a2 a3 a4 : Int32) (σ : Mem) (n : Int64) (v : Value) (am g : Nat → Nat) (τ : Mem), gk g → I σ n v am g τ → q_case_20 I a1 a2 a3 a4 σ n v am g τ) ∧ (∀ (a1 a2 a3 a4 : Int32) (σ : Mem) (n : Int64) (v : Value) (am g : Nat → Nat) (τ : Mem), gk g → I σ n v am g τ → q_case_21 I a1 a2 a3 a4 σ n v am g τ) ∧ (∀ (a1 a2 a3 a4 : Int32) (σ : Mem) (n : Int64) (v : Value) (am g : Nat → Nat) (τ : Mem), gk g → I σ n v am g τ → q_case_22 I a1 a2 a3 a4 σ n v am g τ) ∧ (∀ (a1 a2 a3 a4 : Int32) (σ : Mem) (n : Int64) (v : Value) (am g : Nat → Nat) (τ : Mem), gk g → I σ n v am g τ → q_case_23 I a1 a2 a3 a4 σ n v am g τ) ∧ (∀ (a1 a2 a3 a4 : Int32) (σ : Mem) (n : Int64) (v : Value) (am g : Nat → Nat) (τ : Mem), gk g → I σ n v am g τ → q_case_24 I a1 a2 a3 a4 σ n v am g τ) ∧ (∀ (a1 a2 a3 a4 : Int32) (σ : Mem) (n : Int64) (v : Value) (am g : Nat → Nat) (τ : Mem), gk g → I σ n v am g τ → q_case_25 I a1 a2 a3 a4 σ n v am g τ) ∧ (∀ (a1 a2 a3 a4 : Int32) (σ : Mem) (n : Int64) (v : Value) (am g : Nat → Nat) (τ : Mem), gk g → I σ n v am g τ → q_case_26 I a1 a2 a3 a4 σ n v am g τ)
theorem lp_bound {t L : Nat} (hL : L ≤ 2560) (ht : 5 * t ≤ L) (h : ¬ Int32.ofNat L - 5 < nI (5 * t)) : 5 * t + 5 ≤ L := by
  rw [Int32.lt_iff_toInt_lt, nI_toInt (by omega)] at h
  rcases Nat.lt_or_ge L 5 with q | q
  · exfalso
    apply h
    rcases (show L = 0 ∨ L = 1 ∨ L = 2 ∨ L = 3 ∨ L = 4 by omega) with rfl | rfl | rfl | rfl | rfl
    · rw [show (Int32.ofNat 0 - 5).toInt = -5 from by decide]; omega
    · rw [show (Int32.ofNat 1 - 5).toInt = -4 from by decide]; omega
    · rw [show (Int32.ofNat 2 - 5).toInt = -3 from by decide]; omega
    · rw [show (Int32.ofNat 3 - 5).toInt = -2 from by decide]; omega
    · rw [show (Int32.ofNat 4 - 5).toInt = -1 from by decide]; omega
  · have e : Int32.ofNat L - 5 = nI (L - 5) := by
      have h1 : nI (L - 5) + 5 = nI L := by
        have := nI_add (L - 5) 5
        rw [show L - 5 + 5 = L by omega] at this
        exact this
      show nI L - 5 = nI (L - 5)
      rw [← h1]
      exact Int32.add_sub_cancel _ _
    rw [e, nI_toInt (by omega)] at h
    omega
set_option maxHeartbeats 4000000 in
set_option maxRecDepth 100000 in
theorem law_loop {p : Program} {e : Env} {s : State} {m : MethodId} {below : List Frame} {meth : Method} {c : Code} (l : Launch) (hflag : l.stackTraces = false) {b L : Nat} {xs : Nat → Int32} (hL : L ≤ 2560) (C0 : lw_At p s m meth c b L xs) {D : va_G} {k : Nat → Nat} (hG : GG D k (fun q : Nat => s.heap.size ≤ q) s s.heap) (hN : NC s) {ad : Nat → Nat} {o : Nat} {I : NXT} (hst : STEP I) : ∀ (F t : Nat), L < 5 * t + 5 * F → 5 * t ≤ L → ∀ (σ : Mem) (n : Int64) (v : Value) (am g : Nat → Nat) (τ : Mem) (H : Heap) (locs : List Loc) (cells slots : Nat) (ls : Array Slot), gk g → I σ n v am g τ → va_P D vwCl ((W5 k ad σ ++ WO o n v) ++ WM k am g τ) H → va_D (fun q : Nat => s.heap.size ≤ q) ((W5 k ad σ ++ WO o n v) ++ WM k am g τ) → va_S (fun q : Nat => s.heap.size ≤ q) s.heap H locs → cells ≤ 200 + 100 * t → slots ≤ 2000 + 1000 * t → lv_has ls 7 [(0, .ref b), (1, .ref (ad 0)), (2, .ref (am 0)), (3, .ref o), (4, .int (nI (5 * t)))] → W p l e room_1 s m #[Value.ref b] below meth c H locs cells slots (lw_Z below #[Value.ref b] s) (F0 m 27 ls []) := by
  intro F
  induction F with
  | zero => intro t h1 h2; exact absurd h1 (by omega)
  | succ F ih =>
    intro t h1 h2 σ n v am g τ H locs cells slots ls hgk hI hP hD hS hc hs hl
    obtain ⟨hx, hb, hr, hml, hown, hts0, hX, hbl, hlocks, hgv⟩ := id C0
    have hbA : ¬ (fun q : Nat => s.heap.size ≤ q) b := Nat.not_le.mpr hbl
    have ht9 : t ≤ 512 := by omega
    refine lv_iload hx hb dL_law_27 (lv_at hl 4 rfl) ?_
    refine lv_aload_n hx hb dL_law_29 rfl (lv_at hl 0 rfl) ?_
    refine va_slen hx hb hX hbl hbA hS dL_law_30 ?_
    refine lv_iconst (v := 5) hx hb dL_law_31 (by decide) ?_
    refine lv_isub hx hb dL_law_32 ?_
    refine lv_icmp_gt (tgt := 1254) hx hb dL_law_33 (by decide) (fun c9 => ?_) (fun c9 => ?_)
    · refine lv_iconst (v := 1) hx hb dL_law_1254 (by decide) ?_
      refine va_forget (fun q hq => hS.2.2 q hq) ?_
      refine W.widen (k := 601024) (n := 7293034) (by omega) (by omega) ?_
      exact lw_ret hx hb hr hlocks dL_law_1255
    · have hlt : 5 * t + 5 ≤ L := lp_bound hL h2 c9
      have hi0 : vp_in (nI (5 * t)) L := vp_in_nI (by omega) (by omega)
      have hi1 : vp_in (nI (5 * t) + 1) L := by rw [show nI (5 * t) + 1 = nI (5 * t + 1) from nI_add _ 1]; exact vp_in_nI (by omega) (by omega)
      have hi2 : vp_in (nI (5 * t) + 2) L := by rw [show nI (5 * t) + 2 = nI (5 * t + 2) from nI_add _ 2]; exact vp_in_nI (by omega) (by omega)
      have hi3 : vp_in (nI (5 * t) + 3) L := by rw [show nI (5 * t) + 3 = nI (5 * t + 3) from nI_add _ 3]; exact vp_in_nI (by omega) (by omega)
      have hi4 : vp_in (nI (5 * t) + 4) L := by rw [show nI (5 * t) + 4 = nI (5 * t + 4) from nI_add _ 4]; exact vp_in_nI (by omega) (by omega)
      have K : ∀ (σ' : Mem) (n' : Int64) (v' : Value) (am' g' : Nat → Nat) (τ' : Mem) (H' : Heap) (locs' : List Loc) (cells' slots' : Nat) (ls' : Array Slot), gk g' → I σ' n' v' am' g' τ' → va_P D vwCl ((W5 k ad σ' ++ WO o n' v') ++ WM k am' g' τ') H' → va_D (fun q : Nat => s.heap.size ≤ q) ((W5 k ad σ' ++ WO o n' v') ++ WM k am' g' τ') → va_S (fun q : Nat => s.heap.size ≤ q) s.heap H' locs' → cells' ≤ cells + 100 → slots' ≤ slots + 1000 → lv_has ls' 7 [(0, .ref b), (1, .ref (ad 0)), (2, .ref (am' 0)), (3, .ref o), (4, .int (nI (5 * t)))] → W p l e room_1 s m #[Value.ref b] below meth c H' locs' cells' slots' (lw_Z below #[Value.ref b] s) (F0 m 1248 ls' []) := by
        intro σ1 n1 v1 am1 g1 τ1 H1 locs1 cells1 slots1 ls1 hg1 hI1 hP1 hD1 hS1 hc1 hs1 hl1
        obtain ⟨z, ez⟩ : ∃ z : Int32, z = nI (5 * t) + 5 := ⟨_, rfl⟩
        refine lv_iinc (v := z) (lv' := [(4, .int z), (0, .ref b), (1, .ref (ad 0)), (2, .ref (am1 0)), (3, .ref o)]) hx hb dL_law_1248 hl1 (k := 4) rfl (by rw [ez]; rfl) (by decide) rfl (fun ls hl => ?_)
        refine lv_goto (tgt := 27) hx hb dL_law_1251 (by decide) ?_
        have e9 : z = nI (5 * (t + 1)) := by rw [ez]; exact nI_add (5 * t) 5
        rw [e9] at hl
        exact ih (t + 1) (by omega) (by omega) σ1 n1 v1 am1 g1 τ1 H1 locs1 cells1 slots1 ls hg1 hI1 hP1 hD1 hS1 (by omega) (by omega) (lv_sub hl [1, 2, 3, 4, 0] rfl)
      refine lv_aload_n hx hb dL_law_36 rfl (lv_at hl 0 rfl) ?_
      refine lv_iload hx hb dL_law_37 (lv_at hl 4 rfl) ?_
      refine va_sld hx hb hX hbl hbA hS hi0 dL_law_39 ?_
      refine lv_bipush (v := 31) hx hb dL_law_40 (by decide) ?_
      refine lv_iand hx hb dL_law_42 ?_
      refine lv_topi (fun w ew => ?_)
      rcases sw_in w 27 (by decide) with c8 | ⟨j, hj, ej⟩
      · refine lv_tableOut (tgt := 1248) hx hb dL_law_43 (sw_of c8) (by decide) ?_
        exact K σ n v am g τ H locs cells slots ls hgk hI hP hD hS (by omega) (by omega) hl
      · rcases (show j = 0 ∨ j = 1 ∨ j = 2 ∨ j = 3 ∨ j = 4 ∨ j = 5 ∨ j = 6 ∨ j = 7 ∨ j = 8 ∨ j = 9 ∨ j = 10 ∨ j = 11 ∨ j = 12 ∨ j = 13 ∨ j = 14 ∨ j = 15 ∨ j = 16 ∨ j = 17 ∨ j = 18 ∨ j = 19 ∨ j = 20 ∨ j = 21 ∨ j = 22 ∨ j = 23 ∨ j = 24 ∨ j = 25 ∨ j = 26 by omega) with rfl | rfl | rfl | rfl | rfl | rfl | rfl | rfl | rfl | rfl | rfl | rfl | rfl | rfl | rfl | rfl | rfl | rfl | rfl | rfl | rfl | rfl | rfl | rfl | rfl | rfl | rfl
        · refine lv_tableIn (tgt := 164) (off := 121) hx hb dL_law_43 (by rw [ej]; decide) (by rw [ej]; decide) (by rw [ej]; rfl) (by decide) ?_
          exact cs_0 l hflag C0 hG hN hi1 hi2 hi3 hi4 rfl rfl rfl rfl hgk (by omega) (by omega) hP hD hS hl (hst.1 _ _ _ _ σ n v am g τ hgk hI) K
        · refine lv_tableIn (tgt := 192) (off := 149) hx hb dL_law_43 (by rw [ej]; decide) (by rw [ej]; decide) (by rw [ej]; rfl) (by decide) ?_
          exact cs_1 l hflag C0 hG hN hi1 hi2 hi3 hi4 rfl rfl rfl rfl hgk (by omega) (by omega) hP hD hS hl (hst.2.1 _ _ _ _ σ n v am g τ hgk hI) K
        · refine lv_tableIn (tgt := 244) (off := 201) hx hb dL_law_43 (by rw [ej]; decide) (by rw [ej]; decide) (by rw [ej]; rfl) (by decide) ?_
          exact cs_2 l hflag C0 hG hN hi1 hi2 hi3 hi4 rfl rfl rfl rfl hgk (by omega) (by omega) hP hD hS hl (hst.2.2.1 _ _ _ _ σ n v am g τ hgk hI) K
        · refine lv_tableIn (tgt := 324) (off := 281) hx hb dL_law_43 (by rw [ej]; decide) (by rw [ej]; decide) (by rw [ej]; rfl) (by decide) ?_
          exact cs_3 l hflag C0 hG hN hi1 hi2 hi3 hi4 rfl rfl rfl rfl hgk (by omega) (by omega) hP hD hS hl (hst.2.2.2.1 _ _ _ _ σ n v am g τ hgk hI) K
        · refine lv_tableIn (tgt := 388) (off := 345) hx hb dL_law_43 (by rw [ej]; decide) (by rw [ej]; decide) (by rw [ej]; rfl) (by decide) ?_
          exact cs_4 l hflag C0 hG hN hi1 hi2 hi3 hi4 rfl rfl rfl rfl hgk (by omega) (by omega) hP hD hS hl (hst.2.2.2.2.1 _ _ _ _ σ n v am g τ hgk hI) K
        · refine lv_tableIn (tgt := 440) (off := 397) hx hb dL_law_43 (by rw [ej]; decide) (by rw [ej]; decide) (by rw [ej]; rfl) (by decide) ?_
          exact cs_5 l hflag C0 hG hN hi1 hi2 hi3 hi4 rfl rfl rfl rfl hgk (by omega) (by omega) hP hD hS hl (hst.2.2.2.2.2.1 _ _ _ _ σ n v am g τ hgk hI) K
        · refine lv_tableIn (tgt := 504) (off := 461) hx hb dL_law_43 (by rw [ej]; decide) (by rw [ej]; decide) (by rw [ej]; rfl) (by decide) ?_
          exact cs_6 l hflag C0 hG hN hi1 hi2 hi3 hi4 rfl rfl rfl rfl hgk (by omega) (by omega) hP hD hS hl (hst.2.2.2.2.2.2.1 _ _ _ _ σ n v am g τ hgk hI) K
        · refine lv_tableIn (tgt := 560) (off := 517) hx hb dL_law_43 (by rw [ej]; decide) (by rw [ej]; decide) (by rw [ej]; rfl) (by decide) ?_
          exact cs_7 l hflag C0 hG hN hi1 hi2 hi3 hi4 rfl rfl rfl rfl hgk (by omega) (by omega) hP hD hS hl (hst.2.2.2.2.2.2.2.1 _ _ _ _ σ n v am g τ hgk hI) K
        · refine lv_tableIn (tgt := 616) (off := 573) hx hb dL_law_43 (by rw [ej]; decide) (by rw [ej]; decide) (by rw [ej]; rfl) (by decide) ?_
          exact cs_8 l hflag C0 hG hN hi1 hi2 hi3 hi4 rfl rfl rfl rfl hgk (by omega) (by omega) hP hD hS hl (hst.2.2.2.2.2.2.2.2.1 _ _ _ _ σ n v am g τ hgk hI) K
        · refine lv_tableIn (tgt := 656) (off := 613) hx hb dL_law_43 (by rw [ej]; decide) (by rw [ej]; decide) (by rw [ej]; rfl) (by decide) ?_
          exact cs_9 l hflag C0 hG hN hi1 hi2 hi3 hi4 rfl rfl rfl rfl hgk (by omega) (by omega) hP hD hS hl (hst.2.2.2.2.2.2.2.2.2.1 _ _ _ _ σ n v am g τ hgk hI) K
        · refine lv_tableIn (tgt := 672) (off := 629) hx hb dL_law_43 (by rw [ej]; decide) (by rw [ej]; decide) (by rw [ej]; rfl) (by decide) ?_
          exact cs_10 l hflag C0 hG hN hi1 hi2 hi3 hi4 rfl rfl rfl rfl hgk (by omega) (by omega) hP hD hS hl (hst.2.2.2.2.2.2.2.2.2.2.1 _ _ _ _ σ n v am g τ hgk hI) K
        · refine lv_tableIn (tgt := 712) (off := 669) hx hb dL_law_43 (by rw [ej]; decide) (by rw [ej]; decide) (by rw [ej]; rfl) (by decide) ?_
          exact cs_11 l hflag C0 hG hN hi1 hi2 hi3 hi4 rfl rfl rfl rfl hgk (by omega) (by omega) hP hD hS hl (hst.2.2.2.2.2.2.2.2.2.2.2.1 _ _ _ _ σ n v am g τ hgk hI) K
        · refine lv_tableIn (tgt := 764) (off := 721) hx hb dL_law_43 (by rw [ej]; decide) (by rw [ej]; decide) (by rw [ej]; rfl) (by decide) ?_
          exact cs_12 l hflag C0 hG hN hi1 hi2 hi3 hi4 rfl rfl rfl rfl hgk (by omega) (by omega) hP hD hS hl (hst.2.2.2.2.2.2.2.2.2.2.2.2.1 _ _ _ _ σ n v am g τ hgk hI) K
        · refine lv_tableIn (tgt := 804) (off := 761) hx hb dL_law_43 (by rw [ej]; decide) (by rw [ej]; decide) (by rw [ej]; rfl) (by decide) ?_
          exact cs_13 l hflag C0 hG hN hi1 hi2 hi3 hi4 rfl rfl rfl rfl hgk (by omega) (by omega) hP hD hS hl (hst.2.2.2.2.2.2.2.2.2.2.2.2.2.1 _ _ _ _ σ n v am g τ hgk hI) K
        · refine lv_tableIn (tgt := 817) (off := 774) hx hb dL_law_43 (by rw [ej]; decide) (by rw [ej]; decide) (by rw [ej]; rfl) (by decide) ?_
          exact cs_14 l hflag C0 hG hN hi1 hi2 hi3 hi4 rfl rfl rfl rfl hgk (by omega) (by omega) hP hD hS hl (hst.2.2.2.2.2.2.2.2.2.2.2.2.2.2.1 _ _ _ _ σ n v am g τ hgk hI) K
        · refine lv_tableIn (tgt := 857) (off := 814) hx hb dL_law_43 (by rw [ej]; decide) (by rw [ej]; decide) (by rw [ej]; rfl) (by decide) ?_
          exact cs_15 l hflag C0 hG hN hi1 hi2 hi3 hi4 rfl rfl rfl rfl hgk (by omega) (by omega) hP hD hS hl (hst.2.2.2.2.2.2.2.2.2.2.2.2.2.2.2.1 _ _ _ _ σ n v am g τ hgk hI) K
        · refine lv_tableIn (tgt := 897) (off := 854) hx hb dL_law_43 (by rw [ej]; decide) (by rw [ej]; decide) (by rw [ej]; rfl) (by decide) ?_
          exact cs_16 l hflag C0 hG hN hi1 hi2 hi3 hi4 rfl rfl rfl rfl hgk (by omega) (by omega) hP hD hS hl (hst.2.2.2.2.2.2.2.2.2.2.2.2.2.2.2.2.1 _ _ _ _ σ n v am g τ hgk hI) K
        · refine lv_tableIn (tgt := 937) (off := 894) hx hb dL_law_43 (by rw [ej]; decide) (by rw [ej]; decide) (by rw [ej]; rfl) (by decide) ?_
          exact cs_17 l hflag C0 hG hN hi1 hi2 hi3 hi4 rfl rfl rfl rfl hgk (by omega) (by omega) hP hD hS hl (hst.2.2.2.2.2.2.2.2.2.2.2.2.2.2.2.2.2.1 _ _ _ _ σ n v am g τ hgk hI) K
        · refine lv_tableIn (tgt := 977) (off := 934) hx hb dL_law_43 (by rw [ej]; decide) (by rw [ej]; decide) (by rw [ej]; rfl) (by decide) ?_
          exact cs_18 l hflag C0 hG hN hi1 hi2 hi3 hi4 rfl rfl rfl rfl hgk (by omega) (by omega) hP hD hS hl (hst.2.2.2.2.2.2.2.2.2.2.2.2.2.2.2.2.2.2.1 _ _ _ _ σ n v am g τ hgk hI) K
        · refine lv_tableIn (tgt := 1017) (off := 974) hx hb dL_law_43 (by rw [ej]; decide) (by rw [ej]; decide) (by rw [ej]; rfl) (by decide) ?_
          exact cs_19 l hflag C0 hG hN hi1 hi2 hi3 hi4 rfl rfl rfl rfl hgk (by omega) (by omega) hP hD hS hl (hst.2.2.2.2.2.2.2.2.2.2.2.2.2.2.2.2.2.2.2.1 _ _ _ _ σ n v am g τ hgk hI) K
        · refine lv_tableIn (tgt := 1045) (off := 1002) hx hb dL_law_43 (by rw [ej]; decide) (by rw [ej]; decide) (by rw [ej]; rfl) (by decide) ?_
          exact cs_20 l hflag C0 hG hN hi1 hi2 hi3 hi4 rfl rfl rfl rfl hgk (by omega) (by omega) hP hD hS hl (hst.2.2.2.2.2.2.2.2.2.2.2.2.2.2.2.2.2.2.2.2.1 _ _ _ _ σ n v am g τ hgk hI) K
        · refine lv_tableIn (tgt := 1073) (off := 1030) hx hb dL_law_43 (by rw [ej]; decide) (by rw [ej]; decide) (by rw [ej]; rfl) (by decide) ?_
          exact cs_21 l hflag C0 hG hN hi1 hi2 hi3 hi4 rfl rfl rfl rfl hgk (by omega) (by omega) hP hD hS hl (hst.2.2.2.2.2.2.2.2.2.2.2.2.2.2.2.2.2.2.2.2.2.1 _ _ _ _ σ n v am g τ hgk hI) K
        · refine lv_tableIn (tgt := 1101) (off := 1058) hx hb dL_law_43 (by rw [ej]; decide) (by rw [ej]; decide) (by rw [ej]; rfl) (by decide) ?_
          exact cs_22 l hflag C0 hG hN hi1 hi2 hi3 hi4 rfl rfl rfl rfl hgk (by omega) (by omega) hP hD hS hl (hst.2.2.2.2.2.2.2.2.2.2.2.2.2.2.2.2.2.2.2.2.2.2.1 _ _ _ _ σ n v am g τ hgk hI) K
        · refine lv_tableIn (tgt := 1141) (off := 1098) hx hb dL_law_43 (by rw [ej]; decide) (by rw [ej]; decide) (by rw [ej]; rfl) (by decide) ?_
          exact cs_23 l hflag C0 hG hN hi1 hi2 hi3 hi4 rfl rfl rfl rfl hgk (by omega) (by omega) hP hD hS hl (hst.2.2.2.2.2.2.2.2.2.2.2.2.2.2.2.2.2.2.2.2.2.2.2.1 _ _ _ _ σ n v am g τ hgk hI) K
        · refine lv_tableIn (tgt := 1181) (off := 1138) hx hb dL_law_43 (by rw [ej]; decide) (by rw [ej]; decide) (by rw [ej]; rfl) (by decide) ?_
          exact cs_24 l hflag C0 hG hN hi1 hi2 hi3 hi4 rfl rfl rfl rfl hgk (by omega) (by omega) hP hD hS hl (hst.2.2.2.2.2.2.2.2.2.2.2.2.2.2.2.2.2.2.2.2.2.2.2.2.1 _ _ _ _ σ n v am g τ hgk hI) K
        · refine lv_tableIn (tgt := 1221) (off := 1178) hx hb dL_law_43 (by rw [ej]; decide) (by rw [ej]; decide) (by rw [ej]; rfl) (by decide) ?_
          exact cs_25 l hflag C0 hG hN hi1 hi2 hi3 hi4 rfl rfl rfl rfl hgk (by omega) (by omega) hP hD hS hl (hst.2.2.2.2.2.2.2.2.2.2.2.2.2.2.2.2.2.2.2.2.2.2.2.2.2.1 _ _ _ _ σ n v am g τ hgk hI) K
        · refine lv_tableIn (tgt := 1234) (off := 1191) hx hb dL_law_43 (by rw [ej]; decide) (by rw [ej]; decide) (by rw [ej]; rfl) (by decide) ?_
          exact cs_26 l hflag C0 hG hN hi1 hi2 hi3 hi4 rfl rfl rfl rfl hgk (by omega) (by omega) hP hD hS hl (hst.2.2.2.2.2.2.2.2.2.2.2.2.2.2.2.2.2.2.2.2.2.2.2.2.2.2 _ _ _ _ σ n v am g τ hgk hI) K
theorem mC2 {c : Cond} (hc : c ∈ wLAW) : ∀ w ∈ c :: wALL, w ∈ wLAW ∧ goodWord w = true := fun w hw => iG ((List.mem_cons.mp hw).elim (fun e => e ▸ hc) (iB_A w))
theorem gk0 : gk (fun _ => 0) := ⟨⟨Nat.le_refl 0, Nat.le_refl 0, Nat.zero_le _, Nat.zero_le _, by decide, by decide⟩, Or.inl rfl, Or.inl rfl⟩
set_option maxHeartbeats 4000000 in
set_option maxRecDepth 100000 in
theorem law_go {p : Program} {e : Env} {s : State} {m : MethodId} {below : List Frame} {meth : Method} {c : Code} (l : Launch) (hflag : l.stackTraces = false) {b L : Nat} {xs : Nat → Int32} (hL : L ≤ 2560) (C0 : lw_At p s m meth c b L xs) {I : NXT} (hst : STEP I) (h0 : ∀ (h8 : Nat) (u8 : Nat → Nat), I sI 0 .null (amI h8 u8) (fun _ => 0) tI) : W p l e room_1 s m #[Value.ref b] below meth c s.heap [] 0 0 (lw_Z below #[Value.ref b] s) (entryFrame m ([Value.ref b] : List Value).toArray 7) := by
  obtain ⟨hx, hb, hr, hml, hown, hts0, hX, hbl, hlocks, hgv⟩ := id C0
  obtain ⟨D, k, hG, hN, hN6⟩ := gg_start C0
  have hts : ∀ w ∈ wLAW, w.before #[Value.ref b] s = true := jLAW hts0
  have hA : ∀ q : Nat, s.heap.size ≤ q → (fun q : Nat => s.heap.size ≤ q) q := fun _ h => h
  have hK := hG.1
  have hC : Cx p m c code 7 s #[Value.ref b] wLAW RL D k (fun q : Nat => s.heap.size ≤ q) := ⟨⟨hx, hb, hml, hown, hts⟩, hG, hA⟩
  have hown : s.vm.findClass RL = some m.cls := hown
  have hin_X5 : ∀ w ∈ u_ws RX5 TX5 4, w ∈ wLAW := fun w h => iB_A _ (iU_X5 w h)
  have hin_X8 : ∀ w ∈ u_ws RX8 TX8 15, w ∈ wLAW := fun w h => iB_A _ (iU_X8 w h)
  have hin_X6 : ∀ w ∈ u_ws RX6 TX6 2, w ∈ wLAW := fun w h => iUB_X6 w h
  have hS : va_S (fun q : Nat => s.heap.size ≤ q) s.heap s.heap [] := va_S.rf
  have hP : va_P D vwCl [] s.heap := P_nil
  have hD : va_D (fun q : Nat => s.heap.size ≤ q) [] := D_nil
  have hl := lv_entry ([.ref b]) (n := 7) (Nat.le_of_ble_eq_true rfl)
  rw [lg_entry_eq]
  generalize (lg_sl ([.ref b]) ++ List.replicate (7 - (lg_sl ([.ref b])).length) Slot.unset).toArray = ls at hl ⊢
  have hl : lv_has ls 7 [(0, .ref b)] := hl
  refine va_new (ci := 9) (fs := [.null, .null, .null, .int 0]) (C := RX5) (T := TX5) (N := 4) hx hb hts hin_X5 tyX5 tyX5_ok hown (hts _ B_80) (hts _ B_81) (hts _ (iB_A _ A_25)) hK hP hD hS hA rfl (fun j hj => by rcases (show j = 0 ∨ j = 1 ∨ j = 2 ∨ j = 3 by omega) with rfl | rfl | rfl | rfl <;> rfl) (Nat.le_of_ble_eq_true rfl) (Nat.le_of_ble_eq_true rfl) dL_law_0 (fun h5 H hP hD hS => ?_)
  have hP : va_P D vwCl [(h5, .inr (9, [.null, .null, .null, .int 0]))] H := hP
  have hD : va_D (fun q : Nat => s.heap.size ≤ q) [(h5, .inr (9, [.null, .null, .null, .int 0]))] := hD
  refine lv_dup hx hb dL_law_3 rfl ?_
  refine fw_cvI (S := Nat → Nat) (post := fun _ => True) (wf := fun u => wv_X5_init k h5 u) (wN := fun u => wv_X5_init k h5 u) (As := []) (rest := [.ref h5]) hC (c_X5_init l D k h5) (cwI 0 hts (gT _ (mC2 (iB_A _ A_196))) rfl rfl rfl (hts _ (iB_A _ A_25)) (hts _ B_87) (hts _ B_88) rfl (by decide +kernel) ⟨Nat.le_of_ble_eq_true rfl, Nat.le_of_ble_eq_true rfl⟩) rfl hl.1 rfl (Nat.le_of_ble_eq_true rfl) dL_law_4 ⟨Nat.le_of_ble_eq_true rfl, Nat.le_of_ble_eq_true rfl⟩ hP hD hS Jn.same (fun u5 H locs hP hD hS _ => ?_)
  obtain ⟨hP, hD⟩ := W5_start hP hD
  have hl : lv_has ls 7 [(0, .ref b)] := hl
  refine lv_astore_n (lv' := [(1, .ref h5), (0, .ref b)]) hx hb dL_law_7 rfl hl (by decide) rfl (fun ls hl => ?_)
  refine va_new (ci := 12) (fs := [.int 0, .null, .null, .int 0, .null, .null, .null, .null, .int 0, .null, .null, .null, .int 0, .int 0, .long 0]) (C := RX8) (T := TX8) (N := 15) hx hb hts hin_X8 tyX8 tyX8_ok hown (hts _ B_82) (hts _ B_83) (hts _ (iB_A _ A_601)) hK hP hD hS hA rfl (fun j hj => by rcases (show j = 0 ∨ j = 1 ∨ j = 2 ∨ j = 3 ∨ j = 4 ∨ j = 5 ∨ j = 6 ∨ j = 7 ∨ j = 8 ∨ j = 9 ∨ j = 10 ∨ j = 11 ∨ j = 12 ∨ j = 13 ∨ j = 14 by omega) with rfl | rfl | rfl | rfl | rfl | rfl | rfl | rfl | rfl | rfl | rfl | rfl | rfl | rfl | rfl <;> rfl) (Nat.le_of_ble_eq_true rfl) (Nat.le_of_ble_eq_true rfl) dL_law_8 (fun h8 H hP hD hS => ?_)
  refine lv_dup hx hb dL_law_11 rfl ?_
  refine fw_cvI (S := Nat → Nat) (post := fun _ => True) (wf := fun u => wv_X8_init k h8 u) (wN := fun u => W5 k (adI h5 u5) sI ++ wv_X8_init k h8 u) (As := []) (rest := [.ref h8]) hC (c_X8_init l D k h8) (cwI 0 hts (gT _ (mC2 (iB_A _ A_593))) rfl rfl rfl (hts _ (iB_A _ A_601)) (hts _ B_89) (hts _ B_90) rfl (by decide +kernel) ⟨Nat.le_of_ble_eq_true rfl, Nat.le_of_ble_eq_true rfl⟩) rfl hl.1 rfl (Nat.le_of_ble_eq_true rfl) dL_law_12 ⟨Nat.le_of_ble_eq_true rfl, Nat.le_of_ble_eq_true rfl⟩ (P_right hP) (D_right hD) hS (Jn.right hP hD) (fun u8 H locs hP hD hS _ => ?_)
  rw [WM_start] at hP hD
  refine lv_astore_n (lv' := [(2, .ref h8), (1, .ref h5), (0, .ref b)]) hx hb dL_law_15 rfl hl (by decide) rfl (fun ls hl => ?_)
  refine va_new (ci := 10) (fs := [.long 0, .null]) (C := RX6) (T := TX6) (N := 2) hx hb hts hin_X6 tyX6 tyX6_ok hown (hts _ B_84) (hts _ B_85) (hts _ B_86) hK hP hD hS hA rfl (fun j hj => by rcases (show j = 0 ∨ j = 1 by omega) with rfl | rfl <;> rfl) (Nat.le_of_ble_eq_true rfl) (Nat.le_of_ble_eq_true rfl) dL_law_16 (fun o9 H hP hD hS => ?_)
  refine lv_dup hx hb dL_law_19 rfl ?_
  refine fw_cvIN (S := Nat → Nat) (post := fun _ => True) (wf := fun u => wv_X6_init k o9 u) (wN := fun u => (W5 k (adI h5 u5) sI ++ WM k (amI h8 u8) (fun _ => 0) tI) ++ wv_X6_init k o9 u) (As := []) (rest := [.ref o9]) hC (c_X6_init l D k o9) ⟨va_cnB 0 hts (gT _ (mC2 (iB_A _ A_561))) rfl rfl rfl hN6 (hts _ B_86) (by decide +kernel) ⟨Nat.le_of_ble_eq_true rfl, Nat.le_of_ble_eq_true rfl⟩, rfl, (hts _ B_91)⟩ rfl hl.1 rfl (Nat.le_of_ble_eq_true rfl) dL_law_20 ⟨Nat.le_of_ble_eq_true rfl, Nat.le_of_ble_eq_true rfl⟩ (P_right hP) (D_right hD) hS (Jn.right hP hD) (fun u6 H locs hP hD hS _ => ?_)
  refine lv_astore_n (lv' := [(3, .ref o9), (2, .ref h8), (1, .ref h5), (0, .ref b)]) hx hb dL_law_23 rfl hl (by decide) rfl (fun ls hl => ?_)
  refine lv_iconst (v := 0) hx hb dL_law_24 (by decide) ?_
  refine lv_istore (lv' := [(4, .int 0), (3, .ref o9), (2, .ref h8), (1, .ref h5), (0, .ref b)]) hx hb dL_law_25 hl (by decide) rfl (fun ls hl => ?_)
  have pm : ((W5 k (adI h5 u5) sI ++ WO o9 0 .null) ++ WM k (amI h8 u8) (fun _ => 0) tI).Perm ((W5 k (adI h5 u5) sI ++ WM k (amI h8 u8) (fun _ => 0) tI) ++ wv_X6_init k o9 u6) := by
    rw [List.append_assoc, List.append_assoc]
    exact List.Perm.append_left _ List.perm_append_comm
  exact law_loop l hflag hL C0 hG hN hst 513 0 (by omega) (Nat.zero_le _) sI 0 .null (amI h8 u8) (fun _ => 0) tI H locs _ _ ls gk0 (h0 h8 u8) (P_perm pm hP) (D_perm pm hD) hS (Nat.le_of_ble_eq_true rfl) (Nat.le_of_ble_eq_true rfl) (lv_sub hl [4, 3, 2, 1, 0] rfl)
