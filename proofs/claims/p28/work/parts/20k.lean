/-! STRING BUILDERS: letters behind letters, none too many -/
def BS (n c : Nat) (τ : Mem) : Prop := τ 0 1 = 0 ∧ τ 0 3 = nI c ∧ sb_Fit (τ 1)
theorem cap_ok {c n : Nat} (h : c + 1 ≤ n) (hn : n ≤ 64) : nI (c + 1) - ((nI n) >>> ((0 : Int32) &&& 31)) ≤ 0 := by
  have h0 : ∀ n : Nat, n < 65 → (nI n) >>> ((0 : Int32) &&& 31) = nI n := by decide +kernel
  rw [h0 n (by omega)]
  have h1 : ∀ n : Nat, n < 65 → ∀ c : Nat, c < 65 → c ≤ n → nI c - nI n ≤ 0 := by decide +kernel
  exact h1 n (by omega) (c + 1) (by omega) h
theorem s_cap {ad : Nat → Nat} {n c : Nat} {post : Mem → Prop} {τ : Mem} (hb : τ 0 1 = 0) (h : c + 1 ≤ n) (hn : n ≤ 64) (hp : post τ) : q_J5_ensureCapacityInternal_d00df ad n post (nI (c + 1)) τ := by
  unfold q_J5_ensureCapacityInternal_d00df q_J5_ensureCapacityInternal_d00df_38
  rw [hb]
  rintro _ rfl
  exact ⟨fun _ => hp, fun q => absurd (cap_ok h hn) q⟩
theorem s_lat {ad : Nat → Nat} {n : Nat} {post : Int32 → Mem → Prop} {τ : Mem} (hb : τ 0 1 = 0) (hp : post 1 τ) : q_J5_isLatin1_aae02 ad n post τ := by
  unfold q_J5_isLatin1_aae02 q_J5_isLatin1_aae02_17 q_J5_isLatin1_aae02_18
  exact ⟨fun q => absurd hb q, fun _ => ⟨bz1, hp⟩⟩
theorem fit_upd {f : Nat → Int32} {j : Nat} {x : Int32} (h : sb_Fit f) (hx : fits .byte (.int x) = true) : sb_Fit (upd f j x) := by
  intro i
  by_cases e : i = j
  · subst e; rw [upd_eq]; exact hx
  · rw [upd_ne e]; exact h i
theorem s_appC {bd : Nat → Nat} {n c : Nat} {post : Nat → Mem → Prop} {τ : Mem} {p1 : Int32} (hb : BS n c τ) (h : c + 1 ≤ n) (hn : n ≤ 64) (h1 : ¬ (255 : Int32) < p1) (hf : fits .byte (.int (vp_nar .byte (p1.toInt8.toInt32))) = true) (hp : ∀ τ' : Mem, BS n (c + 1) τ' → post (bd 0) τ') : q_J4_append_cf468 bd n post p1 τ := by
  obtain ⟨b1, b2, b3⟩ := hb
  have ec : (nI c).toNatClampNeg = c := nI_clamp (by omega)
  unfold q_J4_append_cf468 q_J5_append_3fe6f
  rw [b2, nI_1]
  refine s_cap b1 h hn (s_lat b1 ⟨fun z => absurd z (by decide), fun _ => ?_⟩)
  unfold q_J1_canEncode_fc78d q_J1_canEncode_fc78d_12
  refine ⟨fun q => absurd q h1, fun _ => ⟨bz1, fun z => absurd z (by decide), fun _ => ?_⟩⟩
  rintro _ rfl
  rw [b2, nI_1, ec]
  refine ⟨vin_j (by omega) (by omega), ?_⟩
  rintro _ rfl
  unfold q_J5_append_3fe6f_75
  refine hp _ ⟨?_, ?_, ?_⟩
  · rw [mst_ne (by decide), mst_eq, upd_ne (by decide)]; exact b1
  · rw [mst_ne (by decide), mst_eq, upd_eq]
  · rw [mst_eq, mst_ne (by decide)]
    exact fit_upd b3 hf
theorem dig_fit : ∀ d : Nat, d < 8 → fits .byte (.int (vp_nar .byte (nI (48 + ((-(-(nI d))).toNatClampNeg) % 10)))) = true := by decide +kernel
theorem dig_a : ∀ d : Nat, d < 8 → ¬ (-(nI d) ≤ (-10 : Int32)) ∧ ((-100 : Int32) < -(nI d)) ∧ ((-9 : Int32) ≤ -(nI d)) ∧ ¬ (-(-(nI d)) < 0) ∧ (-(-(nI d))).toNatClampNeg < 100 ∧ (0 : Int32) ≤ nI d := by decide +kernel
theorem s_appI {bd : Nat → Nat} {n c d : Nat} {post : Nat → Mem → Prop} {τ : Mem} (hb : BS n c τ) (h : c + 1 ≤ n) (hn : n ≤ 64) (hd : d < 8) (hp : ∀ τ' : Mem, BS n (c + 1) τ' → post (bd 0) τ') : q_J4_append_bf812 bd n post (nI d) τ := by
  obtain ⟨b1, b2, b3⟩ := hb
  obtain ⟨a1, a2, a3, a4, a5, a6⟩ := dig_a d hd
  have ec : (nI c).toNatClampNeg = c := nI_clamp (by omega)
  have hv100 : vp_in (-(-(nI d))) 100 := fun q => q.elim a4 (fun q => by omega)
  unfold q_J4_append_bf812 q_J5_append_c97b9
  rw [b2]
  rintro _ rfl
  unfold q_J6_stringSize_0f7a4
  refine ⟨fun q => absurd q (nI_pos0 (by omega)), fun _ => ?_⟩
  rintro _ rfl
  unfold q_J6_stringSize_0f7a4_11
  refine ⟨1, ?_⟩
  show q_J6_stringSize_0f7a4_16 _ _ _ _ _ _ _ _ _
  unfold q_J6_stringSize_0f7a4_16 q_J6_stringSize_0f7a4_27
  refine ⟨fun q => absurd q (by decide), fun _ => ⟨fun q => absurd q a1, fun _ => ?_⟩⟩
  rintro _ rfl
  have e1 : nI c + (1 + 0) = nI (c + 1) := nI_1 c
  rw [e1]
  refine s_cap b1 h hn (s_lat b1 ⟨fun z => absurd z (by decide), fun _ => ?_⟩)
  unfold q_J6_getChars_ba4f3 q_J6_getChars_ba4f3_12
  refine ⟨fun _ => ⟨fun z => absurd rfl z, fun _ => ?_⟩, fun q => absurd a6 q⟩
  rintro _ rfl
  refine ⟨1, ?_⟩
  show q_J6_getChars_ba4f3_22 _ _ _ _ _ _ _ _ _
  unfold q_J6_getChars_ba4f3_22
  refine ⟨fun _ => ?_, fun q => absurd a2 q⟩
  unfold q_J6_getChars_ba4f3_72
  rintro _ rfl
  have e2 : nI (c + 1) + (-1) = nI c := by
    rw [← nI_1, ← Int32.sub_eq_add_neg]
    exact Int32.add_sub_cancel _ _
  rw [e2, ec]
  refine ⟨hv100, vin_j (by omega) (by omega), ?_⟩
  rintro _ rfl
  refine ⟨fun _ => ?_, fun q => absurd a3 q⟩
  unfold q_J6_getChars_ba4f3_104 q_J6_getChars_ba4f3_118
  refine ⟨fun _ => ?_, fun z => absurd rfl z⟩
  unfold q_J5_append_c97b9_48
  rintro _ rfl
  refine hp _ ⟨?_, ?_, ?_⟩
  · rw [mst_eq, upd_ne (by decide), mst_ne (by decide)]; exact b1
  · rw [mst_eq, upd_eq]
  · rw [mst_ne (by decide), mst_eq]
    exact fit_upd b3 (dig_fit d hd)
theorem s_X5_value {post : Nat → Mem → Prop} {px : String → Mem → Prop} {σ : Mem} {nF nL nC : Nat} {p1 : Int32} (h : CI σ nF nL nC)
    (x1 : ¬ vp_in p1 nF → px xIO σ) (hp : vp_in p1 nF → ∀ r : Nat, post r σ) : q_X5_value post px p1 σ := by
  have hL := h.lv
  have h5 := hL.1
  unfold q_X5_value
  refine s_isField hL (fun r hr => ⟨fun z => ?_, fun z => x1 (hr.f z)⟩)
  have hvf := hr.t z
  have hp := hp hvf
  have hv5 := vin_mono hvf h5
  have fin : ∀ (c : Nat) (wb : Nat → Nat) (wt : Mem), BS 16 c wt → c < 16 → q_X5_value_117 post px wb wt σ := fun c wb wt hb hc => by
    unfold q_X5_value_117
    exact ⟨c, ⟨hc, hb.2.2, hb.1, hb.2.1⟩, hp⟩
  have lst : ∀ (c : Nat) (wb : Nat → Nat) (wt : Mem), BS 16 c wt → c ≤ 9 → q_X5_value_85 post px p1 wb wt σ := fun c wb wt hb hc => by
    unfold q_X5_value_85
    refine ⟨hv5, fun _ => fin c wb wt hb (by omega), fun q => s_appC hb (by omega) (by decide) (by decide) (by decide +kernel) (fun τ' hb2 => ⟨rfl, hv5, ?_⟩)⟩
    obtain ⟨d, hd, ed⟩ := (h.2.2.2.2.2.1 p1.toNatClampNeg).resolve_left q
    rw [ed]
    exact s_appI hb2 (by omega) (by decide) hd (fun τ2 hb3 => ⟨rfl, fin (c + 1 + 1) wb τ2 hb3 (by omega)⟩)
  have loop : ∀ (c : Nat) (wb : Nat → Nat) (wt : Mem), BS 16 c wt → c ≤ 1 → q_X5_value_46 post px p1 wb wt σ := by
    have key : ∀ (d i c : Nat) (wb : Nat → Nat) (wt : Mem), i + d = 8 → BS 16 c wt → c ≤ 1 + i → lp_5 (q_X5_value_48 post px (q_X5_value_85 post px)) (d + 1) p1 (nI i) wb wt σ := by
      intro d
      induction d with
      | zero =>
        intro i c wb wt hi hb hc
        show q_X5_value_48 _ _ _ _ _ _ _ _ _
        unfold q_X5_value_48
        rw [show i = 8 by omega]
        exact ⟨fun _ => lst c wb wt hb (by omega), fun z => absurd (by decide) z⟩
      | succ d ih =>
        intro i c wb wt hi hb hc
        show q_X5_value_48 _ _ _ _ _ _ _ _ _
        unfold q_X5_value_48 q_X5_value_79
        refine ⟨fun z => absurd ((nI_leI (a := 8) (b := i) (by decide) (by omega)).mp z) (by omega), fun _ => ⟨hv5, s_contains (fun r2 hr2 => ⟨fun z => ?_, fun z => ?_⟩)⟩⟩
        · rintro _ rfl
          rw [nI_1]
          exact ih (i + 1) c wb wt (by omega) hb (by omega)
        · refine s_appI hb (by omega) (by decide) (by omega) (fun τ' hb2 => ⟨rfl, ?_⟩)
          rintro _ rfl
          rw [nI_1]
          exact ih (i + 1) (c + 1) wb τ' (by omega) hb2 (by omega)
    intro c wb wt hb hc
    unfold q_X5_value_46
    exact ⟨9, key 8 0 c wb wt rfl hb (by omega)⟩
  have b0 : BS 16 0 (fun _ _ => 0) := ⟨rfl, rfl, fun _ => (show fits .byte (.int 0) = true from by decide +kernel)⟩
  intro bd
  refine ⟨fun _ => loop 0 bd _ b0 (by decide), fun _ => s_appC b0 (by decide) (by decide) (by decide) (by decide +kernel) (fun τ' hb2 => ⟨rfl, loop 1 bd τ' hb2 (by decide)⟩)⟩
