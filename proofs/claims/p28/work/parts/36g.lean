/-! THE DIGEST, the class's way -/
section JG6
variable {am g : Nat → Nat} {a1 a2 a3 a4 : Int32} {σ τ : Mem} {nF : Nat} {n : Int64} {v : Value}
theorem dgS_cg {F G : Nat → Int32} : ∀ (d i : Nat) (s : Int64), (∀ k : Nat, i ≤ k → k < i + d → F k = G k) → dgS F d i s = dgS G d i s := by
  intro d
  induction d with
  | zero => intro i s _; rfl
  | succ d ih =>
    intro i s h
    unfold dgS
    rw [h i (Nat.le_refl _) (by omega)]
    exact ih (i + 1) _ (fun k a b => h k (by omega) (by omega))
theorem s_digest {post : Int64 → Mem → Prop} (h : RR σ g τ nF) (hp : ∀ χ : Mem, AE σ χ → post (DG σ nF (g 0) (g 2)) χ) : q_X5_digest post σ := by
  have hI := h.ci
  have hL := hI.lv
  have h5 := hL.1
  have h30 := hL.2.1
  have hb : bz (σ 14 2) := hI.2.2.2.2.1
  unfold DG at hp
  have e140 : ∀ (x : Int64) (ρ : Mem), AE σ ρ → (∀ χ : Mem, AE σ χ → post ((dg6 σ nF (g 2) (dg5 σ nF x)) * 31 + 1) χ) → q_X5_digest_140 post x ρ := fun x ρ ha hp => by
    have hR := h.ae ha
    have t := ha.tr
    have e5 : ∀ x : Int64, dg5 ρ nF x = dg5 σ nF x := fun x => by
      unfold dg5
      congr 1
      funext m s
      rw [dgS_cg 3 0 s (fun k _ _ => mc_tr t m k)]
      by_cases hm : m < 6
      · rw [t (39 + m) (by omega) (by omega)]
      · rw [t (39 + m) (by omega) (by omega)]
    have e6 : ∀ x : Int64, dg6 ρ nF (g 2) x = dg6 σ nF (g 2) x := fun x => by
      unfold dg6
      congr 1
      funext k s
      rw [t (27 + k) (by omega) (by omega)]
    unfold q_X5_digest_140 q_X5_digest_167
    refine s_sumOfMachines hR (s_sumOfCommits hR (s_isSound hR (fun χ ha2 => ⟨fun z => absurd z (by decide), fun _ => ?_⟩)))
    rw [e5, e6]
    exact hp χ (ha.trans ha2)
  have k109 : ∀ (d j : Nat) (x : Int64) (ρ : Mem), j + d = g 0 → AE σ ρ → (∀ χ : Mem, AE σ χ → post ((dg6 σ nF (g 2) (dg5 σ nF (dgS (fun j => if ctP σ j then 1 else 0) d j x))) * 31 + 1) χ) → lp_3 (q_X5_digest_109 post (q_X5_digest_140 post)) (d + 1) x (nI j) ρ := by
    intro d
    induction d with
    | zero =>
      intro j x ρ hj ha hp
      show q_X5_digest_109 _ _ _ _ _ _
      unfold q_X5_digest_109
      rw [(ha.lv hL).nl]
      exact ⟨fun _ => e140 x ρ ha hp, fun q => absurd (nI_le (by omega) (by omega)) q⟩
    | succ d ih =>
      intro j x ρ hj ha hp
      rw [dgS_s] at hp
      show q_X5_digest_109 _ _ _ _ _ _
      unfold q_X5_digest_109
      rw [(ha.lv hL).nl]
      refine ⟨fun q => absurd ((nI_leI (by omega) (by omega)).mp q) (by omega), fun _ => s_X5_ofLine (ha.ci hI) (fun z => z (vin_j (by omega) (by omega))) (fun _ z => sw_no (w := 5) (n := 7) (by decide) (by decide) z) (fun j2 hj2 e1 w2 hw2 e2 => ?_)⟩
      have : w2 = 5 := (nI_inj (by decide) (by omega) (show nI 5 = nI w2 from e2)).symm
      subst this
      have k1 : j = j2 := nI_inj (by omega) (by omega) e1
      subst k1
      have el : liA ρ nF (g 0) j 5 = if ctP σ j then 1 else 0 := by
        have e : liA ρ nF (g 0) j 5 = if ctP ρ j then 1 else 0 := rfl
        rw [e]
        have c := ct_tr ha.tr j
        by_cases q : ctP σ j
        · rw [if_pos q, if_pos (c.mpr q)]
        · rw [if_neg q, if_neg (fun z => q (c.mp z))]
      rintro _ rfl _ rfl
      rw [nI_1, if_neg (by decide), el]
      exact ih (j + 1) _ ρ (by omega) ha hp
  have e94 : ∀ (x : Int64) (ρ : Mem), AE σ ρ → (∀ χ : Mem, AE σ χ → post ((dg6 σ nF (g 2) (dg5 σ nF (dg4 σ (g 0) (dg3 σ nF (g 0) x)))) * 31 + 1) χ) → q_X5_digest_94 post x ρ := fun x ρ ha hp => by
    unfold q_X5_digest_94
    refine s_X5_reason (ha.ci hI) (fun z => z (Or.inl rfl)) (fun _ => ?_)
    rintro _ rfl
    rw [rs_tr h ha.tr]
    exact ⟨g 0 + 1, k109 (g 0) 0 _ _ (Nat.zero_add _) (ha.trans (rsF_ae ha.2)) hp⟩
  have k33 : ∀ (d f : Nat) (x : Int64) (ρ : Mem), f + d = nF → AE σ ρ → (∀ χ : Mem, AE σ χ → post ((dg6 σ nF (g 2) (dg5 σ nF (dg4 σ (g 0) (dg3 σ nF (g 0) (dgD (fun f s => (dgS (fdA σ (g 2) f) 7 0 s) * 31 + ((rsF nF (g 0) (nI f) σ).1).toInt64) d f x))))) * 31 + 1) χ) → lp_3 (q_X5_digest_33 post (q_X5_digest_94 post)) (d + 1) x (nI f) ρ := by
    intro d
    induction d with
    | zero =>
      intro f x ρ hf ha hp
      show q_X5_digest_33 _ _ _ _ _ _
      unfold q_X5_digest_33
      rw [(ha.lv hL).nf]
      exact ⟨fun _ => e94 x ρ ha hp, fun q => absurd (nI_le (by omega) (by omega)) q⟩
    | succ d ih =>
      intro f x ρ hf ha hp
      rw [dgD_s] at hp
      show q_X5_digest_33 _ _ _ _ _ _
      unfold q_X5_digest_33
      rw [(ha.lv hL).nf]
      refine ⟨fun q => absurd ((nI_leI (by omega) (by omega)).mp q) (by omega), fun _ => ?_⟩
      have in2 : ∀ (d2 w : Nat) (x : Int64), w + d2 = 7 → (∀ χ : Mem, AE σ χ → post ((dg6 σ nF (g 2) (dg5 σ nF (dg4 σ (g 0) (dg3 σ nF (g 0) (dgD (fun f s => (dgS (fdA σ (g 2) f) 7 0 s) * 31 + ((rsF nF (g 0) (nI f) σ).1).toInt64) d (f + 1) ((dgS (fdA σ (g 2) f) d2 w x) * 31 + ((rsF nF (g 0) (nI f) σ).1).toInt64)))))) * 31 + 1) χ) → lp_4 (q_X5_digest_47 post (q_X5_digest_75 post (q_X5_digest_94 post) (lp_3 (q_X5_digest_33 post (q_X5_digest_94 post)) (d + 1)))) (d2 + 1) x (nI f) (nI w) ρ := by
        intro d2
        induction d2 with
        | zero =>
          intro w x hw hp
          show q_X5_digest_47 _ _ _ _ _ _ _
          unfold q_X5_digest_47 q_X5_digest_75
          rw [show w = 7 by omega]
          refine ⟨fun _ => s_X5_reason (ha.ci hI) (fun z => z (Or.inr (vin_j (by omega) (by omega)))) (fun _ => ?_), fun z => absurd (by decide) z⟩
          rintro _ rfl _ rfl
          rw [nI_1, rs_tr h ha.tr]
          exact ih (f + 1) _ _ (by omega) (ha.trans (rsF_ae ha.2)) hp
        | succ d2 ih2 =>
          intro w x hw hp
          rw [dgS_s] at hp
          show q_X5_digest_47 _ _ _ _ _ _ _
          unfold q_X5_digest_47
          refine ⟨fun z => absurd ((lt_nI (a := 6) (n := w) (by decide) (by omega)).mp z) (by omega), fun _ => s_X5_ofField (ha.ci hI) (fun z => z (vin_j (by omega) (by omega))) (fun _ z => sw_no (w := w) (n := 7) (by omega) (by decide) z) (fun f2 hf2 e1 w2 hw2 e2 => ?_)⟩
          have k1 : f = f2 := nI_inj (by omega) (by omega) e1
          have k2 : w = w2 := nI_inj (by omega) (by omega) e2
          subst k1; subst k2
          rintro _ rfl _ rfl
          rw [nI_1, fd_tr ha.tr]
          exact ih2 (w + 1) _ (by omega) hp
      exact ⟨8, in2 7 0 x rfl hp⟩
  have e31 : ∀ (x : Int64), (∀ χ : Mem, AE σ χ → post ((dg6 σ nF (g 2) (dg5 σ nF (dg4 σ (g 0) (dg3 σ nF (g 0) (dg2 σ nF (g 0) (g 2) x))))) * 31 + 1) χ) → q_X5_digest_31 post x σ := fun x hp => by
    unfold q_X5_digest_31
    exact ⟨nF + 1, k33 nF 0 x σ (Nat.zero_add _) (AE.rf hb) hp⟩
  unfold q_X5_digest
  have key : ∀ (d w : Nat) (x : Int64), w + d = 9 → (∀ χ : Mem, AE σ χ → post ((dg6 σ nF (g 2) (dg5 σ nF (dg4 σ (g 0) (dg3 σ nF (g 0) (dg2 σ nF (g 0) (g 2) (dgS (hoA σ nF (g 0) (g 2)) d w x)))))) * 31 + 1) χ) → lp_3 (q_X5_digest_6 post (q_X5_digest_31 post)) (d + 1) x (nI w) σ := by
    intro d
    induction d with
    | zero =>
      intro w x hw hp
      show q_X5_digest_6 _ _ _ _ _ _
      unfold q_X5_digest_6
      rw [show w = 9 by omega]
      exact ⟨fun _ => e31 x hp, fun z => absurd (by decide) z⟩
    | succ d ih =>
      intro w x hw hp
      rw [dgS_s] at hp
      show q_X5_digest_6 _ _ _ _ _ _
      unfold q_X5_digest_6
      refine ⟨fun z => absurd ((lt_nI (a := 8) (n := w) (by decide) (by omega)).mp z) (by omega), fun _ => s_X5_house hI (fun z => sw_no (w := w) (n := 9) (by omega) (by decide) z) (fun w2 hw2 e2 => ?_)⟩
      have k2 : w = w2 := nI_inj (by omega) (by omega) e2
      subst k2
      rintro _ rfl _ rfl
      rw [nI_1]
      exact ih (w + 1) _ (by omega) hp
  exact ⟨10, key 9 0 7703 rfl hp⟩
end JG6
