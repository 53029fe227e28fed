/-! isReason(m) -/
theorem lo_bits {x : Int32} {n : Nat} (hn : n ≤ 30) (h : ∀ k : Nat, k < 32 → ¬ ((x >>> (nI k &&& 31)) &&& 1) = 0 → k < n) : ¬ x < 0 ∧ (x >>> (nI n &&& 31)) = 0 := by
  have hb : ∀ k : Nat, n ≤ k → k < 32 → x.toBitVec.getLsbD k = false := fun k h1 h2 => (bit_j h2).mp (Classical.byContradiction (fun q => absurd (h k h2 q) (by omega)))
  have hm : x.toBitVec.msb = false := by
    rw [BitVec.msb_eq_getLsbD_last]
    exact hb 31 (by omega) (by decide)
  constructor
  · intro z
    rw [Int32.lt_iff_toInt_lt, Int32.toInt_zero] at z
    have e := BitVec.msb_eq_toInt (x := x.toBitVec)
    rw [hm] at e
    have z2 : x.toBitVec.toInt < 0 := z
    rw [decide_eq_true z2] at e
    exact absurd e (by decide)
  · apply Int32.toBitVec_inj.mp
    show (x.toBitVec.sshiftRight' ((nI n &&& 31).toBitVec.smod 32)) = 0#32
    rw [sh_bv32 n (by omega)]
    show (x.toBitVec.sshiftRight (BitVec.ofNat 32 n).toNat) = 0#32
    rw [BitVec.toNat_ofNat, Nat.mod_eq_of_lt (by omega)]
    apply BitVec.eq_of_getLsbD_eq
    intro i hi
    rw [BitVec.getLsbD_sshiftRight, hm]
    by_cases q : n + i < 32
    · rw [if_pos q, hb (n + i) (by omega) q]
      simp
    · simp [q]
theorem one_bit (x : Int32) : x &&& 1 = 0 ∨ x &&& 1 = 1 := by
  have h : x.toBitVec &&& 1#32 = 0#32 ∨ x.toBitVec &&& 1#32 = 1#32 := by
    rcases Nat.mod_two_eq_zero_or_one x.toBitVec.toNat with q | q
    · left
      apply BitVec.eq_of_toNat_eq
      rw [BitVec.toNat_and]
      show x.toBitVec.toNat &&& 1 = 0
      rw [Nat.and_one_is_mod, q]
    · right
      apply BitVec.eq_of_toNat_eq
      rw [BitVec.toNat_and]
      show x.toBitVec.toNat &&& 1 = 1
      rw [Nat.and_one_is_mod, q]
  rcases h with q | q
  · left; apply Int32.toBitVec_inj.mp; exact q
  · right; apply Int32.toBitVec_inj.mp; exact q
theorem z_bit : ∀ j : Nat, j < 32 → (((0 : Int32) >>> (nI j &&& 31)) &&& 1) = 0 := by decide +kernel
section RE
variable {g : Nat → Nat} {σ τ ρ : Mem} {nF : Nat} {post : Int32 → Mem → Prop}
theorem mt_0 (h : RR σ g τ nF) : mtC (tm (g 0) τ) 0 nF (g 0) full = 0 := by
  have h5 := h.lv.1
  have h30 := h.lv.2.1
  exact (mt_in (x := fun _ => 0) h.lv (fun _ _ => (by decide : 0 < 8)) (fun j hj z => absurd (z_bit j (by omega)) z) full_RW (full_in h5 (fun _ _ => (by decide : 0 < 8)))).1
/-- asked anew, the same -/
theorem v_tr (h : RR σ g τ nF) (ht : AE σ ρ) : RR ρ g τ nF := h.ae ht
theorem tr_ae (h : RR σ g τ nF) (ha : AE σ ρ) {set : Int32} : AE σ (bgM 14 15 nF (g 0) set ρ) := by
  obtain ⟨-, e2, e3⟩ := tr_bg (set := set) (f := 0) h ha.tr (by decide)
  refine ⟨e3, ?_⟩
  rw [e2]
  exact bz_of (emC_01 _ _ _ _ (Or.inl rfl))
theorem rsf_ae (h : RR σ g τ nF) (ha : AE σ ρ) {x : Int32} : AE σ (rsF nF (g 0) x ρ).2 := by
  have hr := rsF_ae (nF := nF) (nL := g 0) (x := x) (σ := ρ) ha.2
  exact ⟨fun p a b => (hr.1 p a b).trans (ha.1 p a b), hr.2⟩
theorem v_met (h : RR σ g τ nF) (ha : AE σ ρ) {set : Int32} {post : Int32 → Mem → Prop} (h0 : 0 < nF) (hs : ¬ set < 0 ∧ (set >>> (nI (g 0) &&& 31)) = 0) (hp : ∀ χ : Mem, AE σ χ → post (mtF (tm (g 0) τ) set nF (g 0) full 0) χ) : q_X5_met post (fun _ _ => False) set 0 ρ := by
  have h5 := h.lv.1
  refine s_X5_met (h.ae ha).ci (fun z => z (vin_j h0 (by omega))) (fun _ z => z hs) (fun f hf e _ => ?_)
  have e9 : 0 = f := nI_inj (by decide) (by omega) e
  subst e9
  rw [(tr_bg (set := set) (f := 0) h ha.tr (by decide)).1]
  exact hp _ (tr_ae h ha)
theorem t_isReason (h : RR σ g τ nF) (h0 : 0 < nF) (hp : ∀ χ : Mem, AE σ χ → post 1 χ) : q_L_isReason post σ := by
  have hL := h.ci.lv
  have h5 := hL.1
  have h30 := hL.2.1
  have a0 : AE σ σ := ⟨fun _ _ _ => rfl, h.ci.2.2.2.2.1⟩
  have a1 : AE σ (rsF nF (g 0) (-1) σ).2 := rsf_ae h a0
  unfold q_L_isReason
  refine s_X5_reason h.ci (fun z => z (Or.inl rfl)) (fun _ => ?_)
  have hV : ∀ ρ : Mem, AE σ ρ → V ρ nF (g 0) (g 2) := fun ρ ha => ⟨g, τ, h.ae ha, rfl, rfl⟩
  have e12 : (rsF nF (g 0) (-1) σ).2 12 2 = σ 12 2 := by rw [a1.1 12 (by decide) (by decide)]
  by_cases hc : σ 12 2 = 0
  · have eR : rsF nF (g 0) (-1) σ = (0, σ) := by
      unfold rsF
      rw [if_neg (fun z => z.1 (Or.inl (by decide))), if_pos hc]
    rw [eR]
    unfold q_L_isReason_23
    refine v_house (hV _ a0) 3 (by decide) ⟨fun z => absurd (show hoA σ nF (g 0) (g 2) 3 = 0 from if_pos hc) z, fun _ => ⟨fun z => absurd rfl z, fun _ => ⟨bz1, hp _ a0⟩⟩⟩
  · have es := rs_sound h hc
    have eR : (rsF nF (g 0) (-1) σ).1 = (rsL false 0 nF (g 0) (g 0) 0 (σ 11 6) σ).1 := by
      unfold rsF
      rw [if_neg (fun z => hc z.2), if_neg hc]
    obtain ⟨m1, m2⟩ := rs_min h (g 0) 0 (σ 11 6) σ (Nat.zero_add _) a0.tr
    rw [← eR] at m1 m2
    have et : ∀ ρ : Mem, AE σ ρ → (rsF nF (g 0) (-1) ρ).1 = (rsF nF (g 0) (-1) σ).1 := fun ρ ha => rs_tr h ha.tr (-1)
    have o11 : σ 11 6 = stF σ (g 0) 0 0 := (h.oi.2.2.2 h0).2.1
    generalize hR : (rsF nF (g 0) (-1) σ).1 = R at es m1 m2 et
    have hbit : ∀ k : Nat, k < 32 → ¬ ((R >>> (nI k &&& 31)) &&& 1) = 0 → k < g 0 ∧ ¬ σ 4 k = 5 ∧ ctP σ k := fun k hk hb => by
      have z := m1 k hk hb
      rw [o11] at z
      rcases (st_bit h30 (g 0) 0 0 k (Nat.zero_add _) hk).mp z with q | q
      · exact absurd (z_bit k hk) q
      · exact q.2
    have hlo := lo_bits h30 (fun k hk hb => (hbit k hk hb).1)
    have hn0 : ¬ R = 0 := fun q => es (by rw [q]; exact mt_0 h)
    refine v_house (hV _ a1) 3 (by decide) ⟨fun _ => ⟨fun z => absurd z hn0, fun _ => v_met h a1 h0 hlo (fun χ hχ => ⟨fun _ => ?_, fun z => absurd (mt_no (by decide) es) z⟩)⟩, fun z => absurd (show (if (rsF nF (g 0) (-1) σ).2 12 2 = 0 then (0 : Int32) else 1) = 0 from z) (by rw [e12, if_neg hc]; decide)⟩
    have key : ∀ (d j : Nat) (ρ : Mem), j + d = g 0 → AE σ ρ → lp_3 (q_L_isReason_41 post (q_L_isReason_122 post) (q_L_isReason_130 post)) (d + 1) R (nI j) ρ := by
      intro d
      induction d with
      | zero =>
        intro j ρ hj ha
        show q_L_isReason_41 _ _ _ _ _ _ _
        unfold q_L_isReason_41 q_L_isReason_130
        exact v_house (hV _ ha) 1 (by decide) ⟨fun _ => hp _ ha, fun z => absurd (show nI (g 0) ≤ nI j from nI_le (by omega) (by omega)) z⟩
      | succ d ih =>
        intro j ρ hj ha
        have hjn : j < g 0 := by omega
        have nx : ∀ χ : Mem, AE σ χ → q_L_isReason_124 post (q_L_isReason_122 post) (q_L_isReason_130 post) (lp_3 (q_L_isReason_41 post (q_L_isReason_122 post) (q_L_isReason_130 post)) (d + 1)) R (nI j) χ := fun χ hχ => by
          unfold q_L_isReason_124
          intro v ev
          rw [ev, nI_1]
          exact ih (j + 1) χ (by omega) hχ
        show q_L_isReason_41 _ _ _ _ _ _ _
        unfold q_L_isReason_41 q_L_isReason_64
        have a6 : AE σ (rsF nF (g 0) (-1) ρ).2 := rsf_ae h ha
        have e6 : liA ρ nF (g 0) j 6 = (if ((R >>> (nI j &&& 31)) &&& 1) = 0 then 0 else 1) := by
          show (if (((rsF nF (g 0) (-1) ρ).1 >>> (nI j &&& 31)) &&& 1) = 0 then (0 : Int32) else 1) = _
          rw [et ρ ha]
        refine v_house (hV _ ha) 1 (by decide) ⟨fun z => absurd (show nI (g 0) ≤ nI j from z) (nI_ge (by omega) (by omega)), fun _ => ⟨fun z => v_ofLine (hV _ ha) 6 hjn (by decide) ⟨fun _ => ?_, fun w => absurd rfl w⟩, fun z => v_ofLine (hV _ ha) 6 hjn (by decide) ⟨fun w => absurd w (by decide), fun _ => ?_⟩⟩⟩
        · have zb : ((R >>> (nI j &&& 31)) &&& 1) = 0 := by
            rcases one_bit (R >>> (nI j &&& 31)) with q | q
            · exact q
            · exact absurd q z
          rw [e6, if_pos zb]
          unfold q_L_isReason_81
          exact ⟨fun w => absurd rfl w, fun _ => ⟨fun _ => nx _ a6, fun w => absurd rfl w⟩⟩
        · have zb : ¬ ((R >>> (nI j &&& 31)) &&& 1) = 0 := by rw [z]; decide
          obtain ⟨b1, b2, b3⟩ := hbit j (by omega) zb
          rw [e6, if_neg zb]
          unfold q_L_isReason_81
          refine ⟨fun w => absurd rfl w, fun _ => ⟨fun w => absurd w (by decide), fun _ => v_ofLine (hV _ a6) 5 hjn (by decide) ?_⟩⟩
          have c6 : ctP (rsF nF (g 0) (-1) ρ).2 j := (ct_tr a6.tr j).mpr b3
          refine ⟨fun w => absurd (show (if ctP (rsF nF (g 0) (-1) ρ).2 j then (1 : Int32) else 0) = 0 from w) (by rw [if_pos c6]; decide), fun _ => v_ofLine (hV _ a6) 0 hjn (by decide) ⟨fun w => ?_, fun _ => ?_⟩⟩
          · refine absurd (show (rsF nF (g 0) (-1) ρ).2 4 j = 5 from w) ?_
            rw [a6.1 4 (by decide) (by decide)]
            exact b2
          · refine v_met h a6 h0 (lo_bits h30 (fun k hk hb => (hbit k hk ((bit_less (by omega) hk).mp hb).1).1)) (fun χ hχ => ⟨fun _ => nx _ hχ, fun w => ?_⟩)
            exact absurd w (mt_some h0 (m2 j (Nat.zero_le _) hjn zb))
    exact ⟨g 0 + 1, key (g 0) 0 χ (Nat.zero_add _) hχ⟩
end RE
