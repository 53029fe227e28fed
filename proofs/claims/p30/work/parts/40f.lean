/-! THE DIGEST stays when it is only asked -/
theorem cn_tr {σ ρ : Mem} (h : Tr σ ρ) : ∀ (d j : Nat) (x : Int32), cnL ρ d j x = cnL σ d j x := by
  intro d
  induction d with
  | zero => intro j x; rfl
  | succ d ih =>
    intro j x
    unfold cnL
    by_cases c : ctP σ j
    · rw [if_pos c, if_pos ((ct_tr h j).mpr c)]; exact ih _ _
    · rw [if_neg c, if_neg (fun z => c ((ct_tr h j).mp z))]; exact ih _ _
theorem sf_tr {σ ρ : Mem} (h : Tr σ ρ) : ∀ (d j : Nat) (x : Int32), sfF ρ d j x = sfF σ d j x := by
  intro d
  induction d with
  | zero => intro j x; rfl
  | succ d ih =>
    intro j x
    unfold sfF
    rw [h 22 (by decide) (by decide)]
    exact ih _ _
theorem dm_tr {σ ρ : Mem} (h : Tr σ ρ) : ∀ (d j : Nat) (x : Int32), dmF ρ d j x = dmF σ d j x := by
  intro d
  induction d with
  | zero => intro j x; rfl
  | succ d ih =>
    intro j x
    unfold dmF
    rw [dg_tr h]
    exact ih _ _
theorem ho_tr {σ ρ : Mem} (h : Tr σ ρ) (nF nL nC w : Nat) : hoA ρ nF nL nC w = hoA σ nF nL nC w := by
  unfold hoA
  rw [cn_tr h, sf_tr h, dm_tr h, h 12 (by decide) (by decide), h 18 (by decide) (by decide), h 0 (by decide) (by decide)]
section DGW
variable {g : Nat → Nat} {σ τ ρ : Mem} {nF : Nat}
theorem DG_tr (h : RR σ g τ nF) (ha : Tr σ ρ) : DG ρ nF (g 0) (g 2) = DG σ nF (g 0) (g 2) := by
  have e1 : dg1 ρ nF (g 0) (g 2) = dg1 σ nF (g 0) (g 2) := by
    unfold dg1
    rw [show hoA ρ nF (g 0) (g 2) = hoA σ nF (g 0) (g 2) from funext (ho_tr ha nF (g 0) (g 2))]
  have e2 : ∀ s : Int64, dg2 ρ nF (g 0) (g 2) s = dg2 σ nF (g 0) (g 2) s := fun s => by
    unfold dg2
    rw [show (fun f s => (dgS (fdA ρ (g 2) f) 7 0 s) * 31 + ((rsF nF (g 0) (nI f) ρ).1).toInt64) = (fun f s => (dgS (fdA σ (g 2) f) 7 0 s) * 31 + ((rsF nF (g 0) (nI f) σ).1).toInt64) from funext fun f => funext fun s => by
      rw [show fdA ρ (g 2) f = fdA σ (g 2) f from funext (fd_tr ha (g 2) f), rs_tr h ha]]
  have e3 : ∀ s : Int64, dg3 ρ nF (g 0) s = dg3 σ nF (g 0) s := fun s => by
    unfold dg3
    rw [rs_tr h ha]
  have e4 : ∀ s : Int64, dg4 ρ (g 0) s = dg4 σ (g 0) s := fun s => by
    unfold dg4
    rw [show (fun j => if ctP ρ j then (1 : Int32) else 0) = (fun j => if ctP σ j then (1 : Int32) else 0) from funext fun j => by
      by_cases c : ctP σ j
      · rw [if_pos c, if_pos ((ct_tr ha j).mpr c)]
      · rw [if_neg c, if_neg (fun z => c ((ct_tr ha j).mp z))]]
  have e5 : ∀ s : Int64, dg5 ρ nF s = dg5 σ nF s := fun s => by
    unfold dg5
    rw [show (fun m s => dgS (fun f => ρ (39 + m) f) nF 0 (dgS (mcA ρ m) 3 0 s)) = (fun m s => dgS (fun f => σ (39 + m) f) nF 0 (dgS (mcA σ m) 3 0 s)) from funext fun m => funext fun s => by
      rw [show mcA ρ m = mcA σ m from funext (mc_tr ha m), ha (39 + m) (by omega) (by omega)]]
  have e6 : ∀ s : Int64, dg6 ρ nF (g 2) s = dg6 σ nF (g 2) s := fun s => by
    unfold dg6
    rw [show (fun k s => dgS (fun f => ρ (27 + k) f) nF 0 s) = (fun k s => dgS (fun f => σ (27 + k) f) nF 0 s) from funext fun k => funext fun s => by
      rw [ha (27 + k) (by omega) (by omega)]]
  unfold DG
  rw [e1, e2, e3, e4, e5, e6]
end DGW
/-! V with what is asked -/
section VQ
variable {σ χ : Mem} {nF nL nC : Nat}
theorem v_digest (h : V σ nF nL nC) {post : Int64 → Mem → Prop} (hp : ∀ χ : Mem, AE σ χ → post (DG σ nF nL nC) χ) : q_X5_digest post σ := by
  obtain ⟨g, τ, h, rfl, rfl⟩ := h
  exact s_digest h hp
theorem V.dg (h : V σ nF nL nC) (ha : AE σ χ) : DG χ nF nL nC = DG σ nF nL nC := by
  obtain ⟨g, τ, h, rfl, rfl⟩ := h
  exact DG_tr h ha.tr
theorem v_isSound (h : V σ nF nL nC) {post : Int32 → Mem → Prop} (hp : ∀ χ : Mem, AE σ χ → post 1 χ) : q_X5_isSound post σ := by
  obtain ⟨g, τ, h, rfl, rfl⟩ := h
  exact s_isSound h hp
theorem v_isSo (h : V σ nF nL nC) (h0 : 0 < nF) {post : Int32 → Mem → Prop} (hp : post 1 σ) : q_L_isSo post σ := by
  obtain ⟨g, τ, h, rfl, rfl⟩ := h
  exact t_isSo h h0 hp
theorem v_isReason (h : V σ nF nL nC) (h0 : 0 < nF) {post : Int32 → Mem → Prop} (hp : ∀ χ : Mem, AE σ χ → post 1 χ) : q_L_isReason post σ := by
  obtain ⟨g, τ, h, rfl, rfl⟩ := h
  exact t_isReason h h0 hp
end VQ
/-! THE LAW -/
theorem q_end {L : Nat} {xs : Nat → Int32} {σ : Mem} {nF nL nC : Nat} (h : V σ nF nL nC) : q_L_law_244 L xs σ := by
  unfold q_L_law_244 q_L_law_272
  refine v_digest h (fun χ ha => v_isSound (h.ae ha) (fun χ2 hb => ⟨fun z => absurd z (by decide), fun _ => v_digest ((h.ae ha).ae hb) (fun χ3 _ => ⟨fun _ => rfl, fun z => absurd ?_ z⟩)⟩))
  show DG χ2 nF nL nC = DG σ nF nL nC
  rw [(h.ae ha).dg hb, h.dg ha]
section LW
variable {L : Nat} {xs : Nat → Int32} {kd : Nat → Nat} {nF : Nat}
/-- the table is what commits are, up to (c, f) -/
def KI (κ ρ : Mem) (nF nC c f : Nat) : Prop := ∀ c' f' : Nat, f' < nF → (c' < nC ∨ c' < c ∨ (c' = c ∧ f' < f)) → κ c' f' = ρ (27 + c') f'
theorem ki_up {κ ρ : Mem} {nC c f : Nat} (h : KI κ ρ nF nC c f) : KI (mup κ c (upd (κ c) f (ρ (27 + c) f))) ρ nF nC c (f + 1) := by
  intro c' f' hf hc
  by_cases e : c' = c
  · subst e
    rw [mup_eq]
    by_cases e2 : f' = f
    · subst e2
      rw [upd_eq]
    · rw [upd_ne e2]
      exact h c' f' hf (by omega)
  · rw [mup_ne e]
    exact h c' f' hf (by omega)
theorem t_law {σ : Mem} {nL : Nat} (hV : V σ nF nL 0) (h2 : 2 ≤ nF) (h1 : 1 ≤ nL) : q_L_law L xs kd σ := by
  have h5 := hV.ci.lv.1
  have key : ∀ (d t : Nat) (σ κ : Mem) (nL nC : Nat), t + d = 18 → V σ nF nL nC → 1 ≤ nL → KI κ σ nF nC 0 0 → lp_6 (q_L_law_25 L xs (q_L_law_64 L xs) (q_L_law_115 L xs) (q_L_law_193 L xs) (q_L_law_236 L xs) (q_L_law_244 L xs)) (d + 1) (nI nC) (nI nL) (nI t) kd κ σ := by
    intro d
    induction d with
    | zero =>
      intro t σ κ nL nC ht hV _ _
      have e : t = 18 := by omega
      subst e
      show q_L_law_25 _ _ _ _ _ _ _ _ _ _ _ _ _ _
      unfold q_L_law_25
      exact ⟨fun _ => q_end hV, fun z => absurd (by decide) z⟩
    | succ d ih =>
      intro t σ κ nL nC ht hV h1 hK
      have hL30 := hV.ci.lv.2.1
      have hC12 := hV.ci.2.1
      -- what one call has done
      have e66 : ∀ (ρ : Mem) (nL' nC' : Nat), V ρ nF nL' nC' → nL ≤ nL' → nL' ≤ nL + 1 → nC ≤ nC' → nC' ≤ nC + 1 → KI κ ρ nF nC 0 0 → (nC < nC' → ∀ f : Nat, f < 5 → ρ (27 + nC) f = ρ 22 f) → q_L_law_66 L xs (q_L_law_64 L xs) (q_L_law_115 L xs) (q_L_law_193 L xs) (q_L_law_236 L xs) (q_L_law_244 L xs) (lp_6 (q_L_law_25 L xs (q_L_law_64 L xs) (q_L_law_115 L xs) (q_L_law_193 L xs) (q_L_law_236 L xs) (q_L_law_244 L xs)) (d + 1)) (nI nC) (nI nL) (nI t) kd κ ρ := by
        intro ρ nL' nC' hW a1 a2 a3 a4 hK hN
        have hL' := hW.ci.lv.2.1
        have hC' := hW.ci.2.1
        have e216 : ∀ κ' : Mem, KI κ' ρ nF nC nC' 0 → q_L_law_216 L xs (q_L_law_64 L xs) (q_L_law_115 L xs) (q_L_law_193 L xs) (q_L_law_236 L xs) (q_L_law_244 L xs) (lp_6 (q_L_law_25 L xs (q_L_law_64 L xs) (q_L_law_115 L xs) (q_L_law_193 L xs) (q_L_law_236 L xs) (q_L_law_244 L xs)) (d + 1)) (nI nL') (nI t) kd κ' ρ := fun κ' hk => by
          unfold q_L_law_216
          refine v_house hW 5 (by decide) (v_isSo hW (by omega) ⟨fun z => absurd z (by decide), fun _ => v_isReason hW (by omega) (fun χ ha => ⟨fun _ => ?_, fun z => absurd z (by decide)⟩)⟩)
          intro v ev
          rw [ev, nI_1]
          refine ih (t + 1) χ κ' nL' nC' (by omega) (hW.ae ha) (by omega) (fun c' f' hf hc => ?_)
          rw [ha.1 (27 + c') (by omega) (by omega)]
          exact hk c' f' hf (by omega)
        have e127 : ∀ (e c : Nat) (κ' : Mem), c + e = nC' → KI κ' ρ nF nC c 0 → lp_8 (q_L_law_127 L xs (q_L_law_193 L xs) (q_L_law_216 L xs (q_L_law_64 L xs) (q_L_law_115 L xs) (q_L_law_193 L xs) (q_L_law_236 L xs) (q_L_law_244 L xs) (lp_6 (q_L_law_25 L xs (q_L_law_64 L xs) (q_L_law_115 L xs) (q_L_law_193 L xs) (q_L_law_236 L xs) (q_L_law_244 L xs)) (d + 1)))) (e + 1) (nI nC) (nI nL') (nI t) (nI nF) (nI c) kd κ' ρ := by
          intro e
          induction e with
          | zero =>
            intro c κ' hc hk
            have e9 : c = nC' := by omega
            subst e9
            show q_L_law_127 _ _ _ _ _ _ _ _ _ _ _ _ _
            unfold q_L_law_127
            exact v_house hW 5 (by decide) ⟨fun _ => e216 κ' hk, fun z => absurd (show nI c ≤ nI c from nI_le (Nat.le_refl _) (by omega)) z⟩
          | succ e ih2 =>
            intro c κ' hc hk
            have hcn : c < nC' := by omega
            show q_L_law_127 _ _ _ _ _ _ _ _ _ _ _ _ _
            generalize (lp_8 (q_L_law_127 L xs (q_L_law_193 L xs) (q_L_law_216 L xs (q_L_law_64 L xs) (q_L_law_115 L xs) (q_L_law_193 L xs) (q_L_law_236 L xs) (q_L_law_244 L xs) (lp_6 (q_L_law_25 L xs (q_L_law_64 L xs) (q_L_law_115 L xs) (q_L_law_193 L xs) (q_L_law_236 L xs) (q_L_law_244 L xs)) (d + 1)))) (e + 1)) = F at ih2 ⊢
            generalize (q_L_law_216 L xs (q_L_law_64 L xs) (q_L_law_115 L xs) (q_L_law_193 L xs) (q_L_law_236 L xs) (q_L_law_244 L xs) (lp_6 (q_L_law_25 L xs (q_L_law_64 L xs) (q_L_law_115 L xs) (q_L_law_193 L xs) (q_L_law_236 L xs) (q_L_law_244 L xs)) (d + 1))) = E6
            unfold q_L_law_127
            refine v_house hW 5 (by decide) ⟨fun z => absurd (show nI nC' ≤ nI c from z) (nI_ge (by omega) (by omega)), fun _ => ?_⟩
            have inner : ∀ (i f : Nat) (κ' : Mem), f + i = nF → KI κ' ρ nF nC c f → lp_9 (q_L_law_140 L xs (q_L_law_193 L xs) (q_L_law_210 L xs (q_L_law_193 L xs) E6 F)) (i + 1) (nI nC) (nI nL') (nI t) (nI nF) (nI c) (nI f) kd κ' ρ := by
              intro i
              induction i with
              | zero =>
                intro f κ' hf hk
                have e9 : f = nF := by omega
                subst e9
                show q_L_law_140 _ _ _ _ _ _ _ _ _ _ _ _ _ _
                unfold q_L_law_140 q_L_law_210
                refine ⟨fun _ => ?_, fun z => absurd (nI_le (Nat.le_refl _) (by omega)) z⟩
                intro v ev
                rw [ev, nI_1]
                exact ih2 (c + 1) κ' (by omega) (fun c' f' hf hc => hk c' f' hf (by omega))
              | succ i ih3 =>
                intro f κ' hf hk
                have hfn : f < nF := by omega
                have ec : (nI c).toNatClampNeg = c := nI_clamp (by omega)
                have ef : (nI f).toNatClampNeg = f := nI_clamp (by omega)
                have e195 : q_L_law_195 L xs (q_L_law_193 L xs) (q_L_law_210 L xs (q_L_law_193 L xs) E6 F) (lp_9 (q_L_law_140 L xs (q_L_law_193 L xs) (q_L_law_210 L xs (q_L_law_193 L xs) E6 F)) (i + 1)) (nI nC) (nI nL') (nI t) (nI nF) (nI c) (nI f) (ρ (27 + c) f) kd κ' ρ := by
                  unfold q_L_law_195
                  refine ⟨vin_j (by omega) (by decide), vin_j (by omega) (by decide), ?_⟩
                  intro κ2 e2 v ev
                  rw [ev, nI_1, e2, ec, ef]
                  exact ih3 (f + 1) _ (by omega) (ki_up hk)
                have e175 : q_L_law_175 L xs (q_L_law_193 L xs) (q_L_law_210 L xs (q_L_law_193 L xs) E6 F) (lp_9 (q_L_law_140 L xs (q_L_law_193 L xs) (q_L_law_210 L xs (q_L_law_193 L xs) E6 F)) (i + 1)) (nI nC) (nI nL') (nI t) (nI nF) (nI c) (nI f) (ρ (27 + c) f) kd κ' ρ := by
                  unfold q_L_law_175
                  refine ⟨fun _ => e195, fun z => v_ofField hW 3 hfn (by decide) ⟨fun _ => e195, fun w => absurd ?_ w⟩⟩
                  have hcc : ¬ c < nC := fun q => z (nI_lt q (by omega))
                  have e9 : c = nC := by omega
                  subst e9
                  exact hN (by omega) f (by omega)
                show q_L_law_140 _ _ _ _ _ _ _ _ _ _ _ _ _ _
                unfold q_L_law_140
                refine ⟨fun z => absurd z (nI_ge (by omega) (by omega)), fun _ => v_ofCommit hW hcn hfn ⟨fun _ => e175, fun z => ⟨vin_j (by omega) (by decide), vin_j (by omega) (by decide), fun w => absurd ?_ w, fun _ => e175⟩⟩⟩
                have hcc : c < nC := by
                  rcases Nat.lt_or_ge c nC with q | q
                  · exact q
                  · exact absurd (nI_le q (by omega)) z
                rw [ec, ef]
                exact (hk c f hfn (Or.inl hcc)).symm
            exact ⟨nF + 1, inner nF 0 κ' (Nat.zero_add _) hk⟩
        unfold q_L_law_66
        refine v_house hW 0 (by decide) (v_house hW 1 (by decide) ⟨fun z => absurd (show nI nL' < nI nL from z) (nI_nlt a1 (by omega)), fun _ => v_house hW 1 (by decide) ⟨fun z => absurd (show nI nL + 1 < nI nL' from z) (by rw [nI_1]; exact nI_nlt a2 (by omega)), fun _ => v_house hW 5 (by decide) ⟨fun z => absurd (show nI nC' < nI nC from z) (nI_nlt a3 (by omega)), fun _ => v_house hW 5 (by decide) ⟨fun _ => v_house hW 1 (by decide) ⟨nC' + 1, e127 nC' 0 κ (Nat.zero_add _) hK⟩, fun z => absurd (show nI nC' ≤ nI nC + 1 from by rw [nI_1]; exact nI_le a4 (by omega)) z⟩⟩⟩⟩)
      show q_L_law_25 _ _ _ _ _ _ _ _ _ _ _ _ _ _
      unfold q_L_law_25
      refine ⟨fun z => absurd z (nI_ge (b := 18) (by omega) (by decide)), fun _ => v_digest hV (fun σ1 ha => ⟨?_, fun r _ => ?_⟩)⟩
      · rw [show (14 : Int32) + nI t = nI (14 + t) from nI_add 14 t]
        exact nI_pos (by omega)
      · have hV1 := hV.ae ha
        have hK1 : KI κ σ1 nF nC 0 0 := fun c' f' hf hc => by
          rw [ha.1 (27 + c') (by omega) (by omega)]
          exact hK c' f' hf hc
        refine t_isDone hV1 h2 h1 ⟨fun z => absurd rfl z, fun _ => v_digest hV1 (fun χ hb => ⟨fun _ => ?_, fun z => absurd (hV.dg ha) z⟩)⟩ (fun σ' nL' nC' hx => ⟨fun _ => ?_, fun z => absurd z (by decide)⟩)
        · refine e66 χ nL nC (hV1.ae hb) (Nat.le_refl _) (by omega) (Nat.le_refl _) (by omega) (fun c' f' hf hc => ?_) (fun z => absurd z (Nat.lt_irrefl _))
          rw [hb.1 (27 + c') (by omega) (by omega)]
          exact hK1 c' f' hf hc
        · obtain ⟨x1, x2, x3, x4, x5, x6, x7⟩ := hx
          refine e66 σ' nL' nC' x1 x2 x3 x4 x5 (fun c' f' hf hc => ?_) x7
          rw [x6 c' f' (by omega) (by omega)]
          exact hK1 c' f' hf hc
  unfold q_L_law
  refine v_house hV 1 (by decide) ⟨19, Nat.le_refl _, ?_⟩
  exact key 18 0 σ (fun _ _ => 0) nL 0 (by omega) hV h1 (fun c' f' _ hc => by omega)
theorem law_true : q_L_house L xs (fun σ => ∀ kd : Nat → Nat, q_L_law L xs kd σ) sI := t_house (fun σ nF nL hV h2 h1 kd => t_law hV h2 h1)
end LW
