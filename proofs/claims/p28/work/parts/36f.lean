/-! THE DIGEST: what it is, and that asking leaves it -/
def dgS (F : Nat → Int32) : Nat → Nat → Int64 → Int64
  | 0, _, s => s
  | d + 1, i, s => dgS F d (i + 1) (s * 31 + (F i).toInt64)
def dgD (G : Nat → Int64 → Int64) : Nat → Nat → Int64 → Int64
  | 0, _, s => s
  | d + 1, i, s => dgD G d (i + 1) (G i s)
theorem dgS_s {F : Nat → Int32} {d i : Nat} {s : Int64} : dgS F (d + 1) i s = dgS F d (i + 1) (s * 31 + (F i).toInt64) := rfl
theorem dgD_s {G : Nat → Int64 → Int64} {d i : Nat} {s : Int64} : dgD G (d + 1) i s = dgD G d (i + 1) (G i s) := rfl
def dg1 (σ : Mem) (nF nL nC : Nat) : Int64 := dgS (hoA σ nF nL nC) 9 0 7703
def dg2 (σ : Mem) (nF nL nC : Nat) (s : Int64) : Int64 := dgD (fun f s => (dgS (fdA σ nC f) 7 0 s) * 31 + ((rsF nF nL (nI f) σ).1).toInt64) nF 0 s
def dg3 (σ : Mem) (nF nL : Nat) (s : Int64) : Int64 := s * 31 + ((rsF nF nL (-1) σ).1).toInt64
def dg4 (σ : Mem) (nL : Nat) (s : Int64) : Int64 := dgS (fun j => if ctP σ j then 1 else 0) nL 0 s
def dg5 (σ : Mem) (nF : Nat) (s : Int64) : Int64 := dgD (fun m s => dgS (fun f => σ (39 + m) f) nF 0 (dgS (mcA σ m) 3 0 s)) 6 0 s
def dg6 (σ : Mem) (nF nC : Nat) (s : Int64) : Int64 := dgD (fun k s => dgS (fun f => σ (27 + k) f) nF 0 s) nC 0 s
def DG (σ : Mem) (nF nL nC : Nat) : Int64 := (dg6 σ nF nC (dg5 σ nF (dg4 σ nL (dg3 σ nF nL (dg2 σ nF nL nC (dg1 σ nF nL nC)))))) * 31 + 1
theorem fn_tr {σ ρ : Mem} (h : Tr σ ρ) (f : Nat) : ∀ (d j : Nat), fnF ρ f d j = fnF σ f d j := by
  intro d
  induction d with
  | zero => intro j; rfl
  | succ d ih =>
    intro j
    unfold fnF
    rw [h (27 + j) (by omega) (by omega), h (27 + (j - 1)) (by omega) (by omega), ih]
theorem dg_tr {σ ρ : Mem} (h : Tr σ ρ) (m : Nat) : ∀ (d f : Nat) (x : Int32), dgF ρ m d f x = dgF σ m d f x := by
  intro d
  induction d with
  | zero => intro f x; rfl
  | succ d ih =>
    intro f x
    have e : drP ρ m f ↔ drP σ m f := by
      show (¬ ρ 26 m < 0 ∧ ¬ ρ 23 3 ≤ ρ 26 m ∧ ¬ ρ (39 + m) f = ρ (27 + (ρ 26 m).toNatClampNeg) f) ↔ _
      rw [h 26 (by decide) (by decide), h 23 (by decide) (by decide), h (39 + m) (by omega) (by omega), h (27 + (σ 26 m).toNatClampNeg) (by omega) (by omega)]
    unfold dgF
    rw [ih]
    by_cases c : drP σ m f
    · rw [if_pos c, if_pos (e.mpr c)]
    · rw [if_neg c, if_neg (fun z => c (e.mp z))]
theorem ct_tr {σ ρ : Mem} (h : Tr σ ρ) (j : Nat) : ctP ρ j ↔ ctP σ j := ctP_sm (fun p hp => h p (by omega) (by omega)) j
theorem fd_tr {σ ρ : Mem} (h : Tr σ ρ) (nC f w : Nat) : fdA ρ nC f w = fdA σ nC f w := by
  unfold fdA
  rw [h 2 (by decide) (by decide), h 13 (by decide) (by decide), h 22 (by decide) (by decide), h 3 (by decide) (by decide), h 21 (by decide) (by decide), fn_tr h]
theorem mc_tr {σ ρ : Mem} (h : Tr σ ρ) (m w : Nat) : mcA ρ m w = mcA σ m w := by
  unfold mcA
  rw [h 26 (by decide) (by decide), dg_tr h]
section JG5
variable {am g : Nat → Nat} {a1 a2 a3 a4 : Int32} {σ τ : Mem} {nF : Nat} {n : Int64} {v : Value}
theorem rsL_tr (h : RR σ g τ nF) {own : Bool} {f : Nat} (hf : f < 5) : ∀ (d j : Nat) (kept : Int32) (ρ1 ρ2 : Mem), Tr σ ρ1 → Tr σ ρ2 → (rsL own f nF (g 0) d j kept ρ1).1 = (rsL own f nF (g 0) d j kept ρ2).1 := by
  intro d
  induction d with
  | zero => intro j kept ρ1 ρ2 _ _; rfl
  | succ d ih =>
    intro j kept ρ1 ρ2 h1 h2
    unfold rsL
    by_cases q : kept &&& (((1 : Int32) <<< (nI j &&& 31)) ^^^ (-1)) = kept
    · rw [if_pos q, if_pos q]; exact ih _ _ _ _ h1 h2
    · rw [if_neg q, if_neg q]
      generalize kept &&& (((1 : Int32) <<< (nI j &&& 31)) ^^^ (-1)) = kw
      obtain ⟨a1, a2, a3⟩ := tr_bg (set := kw) (f := f) h h1 hf
      obtain ⟨b1, b2, b3⟩ := tr_bg (set := kw) (f := f) h h2 hf
      rw [a1, a2, a3 13 (by decide) (by decide), b1, b2, b3 13 (by decide) (by decide)]
      by_cases c : (own = true ∧ mtF (tm (g 0) τ) kw nF (g 0) full f = σ 13 f) ∨ (own = false ∧ ¬ mtC (tm (g 0) τ) kw nF (g 0) full = 0)
      · rw [if_pos c, if_pos c]; exact ih _ _ _ _ a3 b3
      · rw [if_neg c, if_neg c]; exact ih _ _ _ _ a3 b3
theorem rs_tr (h : RR σ g τ nF) {ρ : Mem} (hρ : Tr σ ρ) (x : Int32) : (rsF nF (g 0) x ρ).1 = (rsF nF (g 0) x σ).1 := by
  have h5 := h.lv.1
  unfold rsF
  rw [hρ 12 (by decide) (by decide), hρ 11 (by decide) (by decide)]
  by_cases c : ¬ (x < 0 ∨ nF ≤ x.toNatClampNeg) ∧ σ 12 2 = 0
  · rw [if_pos c, if_pos c]
    exact rsL_tr h (by have := fun z => c.1 (Or.inr z); omega) _ _ _ _ _ hρ (fun _ _ _ => rfl)
  · rw [if_neg c, if_neg c]
    by_cases c2 : σ 12 2 = 0
    · rw [if_pos c2, if_pos c2]
    · rw [if_neg c2, if_neg c2]
      exact rsL_tr h (by decide) _ _ _ _ _ hρ (fun _ _ _ => rfl)
theorem AE.tr {σ ρ : Mem} (h : AE σ ρ) : Tr σ ρ := fun p a b => h.1 p a b
theorem RR.ae (h : RR σ g τ nF) {ρ : Mem} (ha : AE σ ρ) : RR ρ g τ nF := h.q (qe_ae h.ci ha).1 (qe_ae h.ci ha).2 WE.rf
theorem s_sumOfCommits {post : Int64 → Mem → Prop} {x : Int64} (h : RR σ g τ nF) (hp : post (dg6 σ nF (g 2) x) σ) : q_X5_sumOfCommits post x σ := by
  have hI := h.ci
  have hL := hI.lv
  have h5 := hL.1
  have h12 := hI.2.1
  unfold q_X5_sumOfCommits
  have key : ∀ (d c : Nat) (x : Int64), c + d = g 2 → post (dgD (fun k s => dgS (fun f => σ (27 + k) f) nF 0 s) d c x) σ → lp_3 (q_X5_sumOfCommits_5 post (q_X5_sumOfCommits_60 post)) (d + 1) x (nI c) σ := by
    intro d
    induction d with
    | zero =>
      intro c x hc hp
      show q_X5_sumOfCommits_5 _ _ _ _ _ _
      unfold q_X5_sumOfCommits_5 q_X5_sumOfCommits_60
      rw [hI.nc]
      exact ⟨fun _ => hp, fun q => absurd (nI_le (by omega) (by omega)) q⟩
    | succ d ih =>
      intro c x hc hp
      rw [dgD_s] at hp
      show q_X5_sumOfCommits_5 _ _ _ _ _ _
      unfold q_X5_sumOfCommits_5
      rw [hI.nc]
      refine ⟨fun q => absurd ((nI_leI (by omega) (by omega)).mp q) (by omega), fun _ => ?_⟩
      have inner : ∀ (d2 f : Nat) (x : Int64), f + d2 = nF → post (dgD (fun k s => dgS (fun f => σ (27 + k) f) nF 0 s) d (c + 1) (dgS (fun f => σ (27 + c) f) d2 f x)) σ → lp_4 (q_X5_sumOfCommits_20 post (q_X5_sumOfCommits_54 post (q_X5_sumOfCommits_60 post) (lp_3 (q_X5_sumOfCommits_5 post (q_X5_sumOfCommits_60 post)) (d + 1)))) (d2 + 1) x (nI c) (nI f) σ := by
        intro d2
        induction d2 with
        | zero =>
          intro f x hf hp
          show q_X5_sumOfCommits_20 _ _ _ _ _ _ _
          unfold q_X5_sumOfCommits_20 q_X5_sumOfCommits_54
          rw [hL.nf]
          refine ⟨fun _ => ?_, fun q => absurd (nI_le (by omega) (by omega)) q⟩
          rintro _ rfl
          rw [nI_1]
          exact ih (c + 1) x (by omega) hp
        | succ d2 ih2 =>
          intro f x hf hp
          rw [dgS_s] at hp
          show q_X5_sumOfCommits_20 _ _ _ _ _ _ _
          unfold q_X5_sumOfCommits_20
          rw [hL.nf]
          refine ⟨fun q => absurd ((nI_leI (by omega) (by omega)).mp q) (by omega), fun _ => s_X5_ofCommit hI (fun z => z ⟨vin_j (by omega) (by omega), vin_j (by omega) (by omega)⟩) (fun c2 f2 hc2 hf2 e1 e2 => ?_)⟩
          have k1 : c = c2 := nI_inj (by omega) (by omega) e1
          have k2 : f = f2 := nI_inj (by omega) (by omega) e2
          subst k1; subst k2
          rintro _ rfl _ rfl
          rw [nI_1]
          exact ih2 (f + 1) _ (by omega) hp
      exact ⟨nF + 1, inner nF 0 x (Nat.zero_add _) hp⟩
  exact ⟨g 2 + 1, key (g 2) 0 x (Nat.zero_add _) hp⟩
theorem s_sumOfMachines {post : Int64 → Mem → Prop} {x : Int64} (h : RR σ g τ nF) (hp : post (dg5 σ nF x) σ) : q_X5_sumOfMachines post x σ := by
  have hI := h.ci
  have hL := hI.lv
  have h5 := hL.1
  unfold q_X5_sumOfMachines
  have key : ∀ (d m : Nat) (x : Int64), m + d = 6 → post (dgD (fun m s => dgS (fun f => σ (39 + m) f) nF 0 (dgS (mcA σ m) 3 0 s)) d m x) σ → lp_3 (q_X5_sumOfMachines_5 post (q_X5_sumOfMachines_86 post)) (d + 1) x (nI m) σ := by
    intro d
    induction d with
    | zero =>
      intro m x hm hp
      show q_X5_sumOfMachines_5 _ _ _ _ _ _
      unfold q_X5_sumOfMachines_5 q_X5_sumOfMachines_86
      rw [show m = 6 by omega]
      exact ⟨fun _ => hp, fun z => absurd (by decide) z⟩
    | succ d ih =>
      intro m x hm hp
      rw [dgD_s] at hp
      show q_X5_sumOfMachines_5 _ _ _ _ _ _
      unfold q_X5_sumOfMachines_5
      refine ⟨fun z => absurd ((nI_leI (a := 6) (b := m) (by decide) (by omega)).mp z) (by omega), fun _ => ?_⟩
      have inner : ∀ (d2 f : Nat) (x : Int64), f + d2 = nF → post (dgD (fun m s => dgS (fun f => σ (39 + m) f) nF 0 (dgS (mcA σ m) 3 0 s)) d (m + 1) (dgS (fun f => σ (39 + m) f) d2 f x)) σ → lp_4 (q_X5_sumOfMachines_46 post (q_X5_sumOfMachines_80 post (q_X5_sumOfMachines_86 post) (lp_3 (q_X5_sumOfMachines_5 post (q_X5_sumOfMachines_86 post)) (d + 1)))) (d2 + 1) x (nI m) (nI f) σ := by
        intro d2
        induction d2 with
        | zero =>
          intro f x hf hp
          show q_X5_sumOfMachines_46 _ _ _ _ _ _ _
          unfold q_X5_sumOfMachines_46 q_X5_sumOfMachines_80
          rw [hL.nf]
          refine ⟨fun _ => ?_, fun q => absurd (nI_le (by omega) (by omega)) q⟩
          rintro _ rfl
          rw [nI_1]
          exact ih (m + 1) x (by omega) hp
        | succ d2 ih2 =>
          intro f x hf hp
          rw [dgS_s] at hp
          show q_X5_sumOfMachines_46 _ _ _ _ _ _ _
          unfold q_X5_sumOfMachines_46
          rw [hL.nf]
          refine ⟨fun q => absurd ((nI_leI (by omega) (by omega)).mp q) (by omega), fun _ => s_X5_has hI (fun z => z ⟨vin_j (by omega) (by omega), vin_j (by omega) (by omega)⟩) (fun m2 f2 hm2 hf2 e1 e2 => ?_)⟩
          have k1 : m = m2 := nI_inj (by omega) (by omega) e1
          have k2 : f = f2 := nI_inj (by omega) (by omega) e2
          subst k1; subst k2
          rintro _ rfl _ rfl
          rw [nI_1]
          exact ih2 (f + 1) _ (by omega) hp
      have in2 : ∀ (d2 w : Nat) (x : Int64), w + d2 = 3 → post (dgD (fun m s => dgS (fun f => σ (39 + m) f) nF 0 (dgS (mcA σ m) 3 0 s)) d (m + 1) (dgS (fun f => σ (39 + m) f) nF 0 (dgS (mcA σ m) d2 w x))) σ → lp_4 (q_X5_sumOfMachines_15 post (q_X5_sumOfMachines_43 post (q_X5_sumOfMachines_86 post) (lp_3 (q_X5_sumOfMachines_5 post (q_X5_sumOfMachines_86 post)) (d + 1)))) (d2 + 1) x (nI m) (nI w) σ := by
        intro d2
        induction d2 with
        | zero =>
          intro w x hw hp
          show q_X5_sumOfMachines_15 _ _ _ _ _ _ _
          unfold q_X5_sumOfMachines_15 q_X5_sumOfMachines_43
          rw [show w = 3 by omega]
          exact ⟨fun _ => ⟨nF + 1, inner nF 0 x (Nat.zero_add _) hp⟩, fun z => absurd (by decide) z⟩
        | succ d2 ih2 =>
          intro w x hw hp
          rw [dgS_s] at hp
          show q_X5_sumOfMachines_15 _ _ _ _ _ _ _
          unfold q_X5_sumOfMachines_15
          refine ⟨fun z => absurd ((lt_nI (a := 2) (n := w) (by decide) (by omega)).mp z) (by omega), fun _ => s_X5_ofMachine hI (fun z => z (vin_j (by omega) (by omega))) (fun _ z => sw_no (w := w) (n := 3) (by omega) (by decide) z) (fun m2 hm2 e1 w2 hw2 e2 => ?_)⟩
          have k1 : m = m2 := nI_inj (by omega) (by omega) e1
          have k2 : w = w2 := nI_inj (by omega) (by omega) e2
          subst k1; subst k2
          rintro _ rfl _ rfl
          rw [nI_1]
          exact ih2 (w + 1) _ (by omega) hp
      exact ⟨4, in2 3 0 x rfl hp⟩
  exact ⟨7, key 6 0 x rfl hp⟩
end JG5
