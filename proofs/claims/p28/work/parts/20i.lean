/-! THE CLASS: the fleet; reasons -/
abbrev drP (σ : Mem) (m f : Nat) : Prop := ¬ σ 26 m < 0 ∧ ¬ σ 23 3 ≤ σ 26 m ∧ ¬ σ (39 + m) f = σ (27 + (σ 26 m).toNatClampNeg) f
theorem s_drifts {post : Int32 → Mem → Prop} {σ : Mem} {nC m f : Nat} (hn : nC ≤ 12) (hc : σ 23 3 = nI nC) (hm : m < 6) (hf : f < 5) (hp : ∀ r : Int32, bl (drP σ m f) r → post r σ) : q_X1_drifts post (nI m) (nI f) σ := by
  have em : (nI m).toNatClampNeg = m := nI_clamp (by omega)
  have ef : (nI f).toNatClampNeg = f := nI_clamp (by omega)
  have hvm : vp_in (nI m) 6 := vin_j hm (by decide)
  have hvf : vp_in (nI f) 5 := vin_j hf (by decide)
  unfold q_X1_drifts q_X1_drifts_42 q_X1_drifts_43
  rw [em, ef]
  refine ⟨hvm, ?_⟩
  rintro _ rfl
  refine ⟨fun q => ⟨bz0, hp 0 (bl0 (fun z => z.1 q))⟩, fun q => ⟨fun q2 => ⟨bz0, hp 0 (bl0 (fun z => z.2.1 q2))⟩, fun q2 => ⟨hvm, hvf, ?_, hvf, fun q3 => ⟨bz0, hp 0 (bl0 (fun z => z.2.2 q3))⟩, fun q3 => ⟨bz1, hp 1 (bl1 ⟨q, q2, q3⟩)⟩⟩⟩⟩
  rw [hc] at q2
  exact vin_mono (vin_lo (by omega) q q2) hn
def dgF (σ : Mem) (m : Nat) : Nat → Nat → Int32 → Int32
  | 0, _, x => x
  | d + 1, f, x => dgF σ m d (f + 1) (if drP σ m f then x ||| ((1 : Int32) <<< (nI f &&& 31)) else x)
theorem s_drifting {post : Int32 → Mem → Prop} {σ : Mem} {nC m : Nat} (hn : nC ≤ 12) (hc : σ 23 3 = nI nC) (hm : m < 6) (hp : post (dgF σ m 5 0 0) σ) : q_X1_drifting post (nI m) σ := by
  unfold q_X1_drifting
  have key : ∀ (d f : Nat) (x : Int32), f + d = 5 → post (dgF σ m d f x) σ → lp_4 (q_X1_drifting_4 post (q_X1_drifting_30 post)) (d + 1) (nI m) x (nI f) σ := by
    intro d
    induction d with
    | zero =>
      intro f x hf hp
      show q_X1_drifting_4 _ _ _ _ _ _ _
      unfold q_X1_drifting_4 q_X1_drifting_30
      rw [show f = 5 by omega]
      exact ⟨fun _ => hp, fun z => absurd (by decide) z⟩
    | succ d ih =>
      intro f x hf hp
      show q_X1_drifting_4 _ _ _ _ _ _ _
      unfold q_X1_drifting_4 q_X1_drifting_24
      unfold dgF at hp
      refine ⟨fun z => absurd ((nI_leI (a := 5) (b := f) (by decide) (by omega)).mp z) (by omega), fun _ => s_drifts hn hc hm (by omega) (fun r hr => ⟨fun z => ?_, fun z => ?_⟩)⟩
      · rintro _ rfl
        rw [nI_1]
        rw [if_neg (hr.f z)] at hp
        exact ih (f + 1) x (by omega) hp
      · rintro _ rfl _ rfl
        rw [nI_1]
        rw [if_pos (hr.t z)] at hp
        exact ih (f + 1) _ (by omega) hp
  exact ⟨6, key 5 0 0 rfl hp⟩
def dmF (σ : Mem) : Nat → Nat → Int32 → Int32
  | 0, _, x => x
  | d + 1, m, x => dmF σ d (m + 1) (if dgF σ m 5 0 0 = 0 then x else x + 1)
theorem s_driftingMachines {post : Int32 → Mem → Prop} {σ : Mem} {nC : Nat} (hn : nC ≤ 12) (hc : σ 23 3 = nI nC) (hp : post (dmF σ 6 0 0) σ) : q_X1_driftingMachines post σ := by
  unfold q_X1_driftingMachines
  have key : ∀ (d m : Nat) (x : Int32), m + d = 6 → post (dmF σ d m x) σ → lp_3 (q_X1_driftingMachines_4 post (q_X1_driftingMachines_27 post)) (d + 1) x (nI m) σ := by
    intro d
    induction d with
    | zero =>
      intro m x hm hp
      show q_X1_driftingMachines_4 _ _ _ _ _ _
      unfold q_X1_driftingMachines_4 q_X1_driftingMachines_27
      rw [show m = 6 by omega]
      exact ⟨fun _ => hp, fun z => absurd (by decide) z⟩
    | succ d ih =>
      intro m x hm hp
      show q_X1_driftingMachines_4 _ _ _ _ _ _
      unfold q_X1_driftingMachines_4 q_X1_driftingMachines_21
      unfold dmF at hp
      refine ⟨fun z => absurd ((nI_leI (a := 6) (b := m) (by decide) (by omega)).mp z) (by omega), fun _ => s_drifting hn hc (by omega) ⟨fun z => ?_, fun z => ?_⟩⟩
      · rintro _ rfl
        rw [nI_1]
        rw [if_pos z] at hp
        exact ih (m + 1) x (by omega) hp
      · rintro _ rfl _ rfl
        rw [nI_1]
        rw [if_neg z] at hp
        exact ih (m + 1) _ (by omega) hp
  exact ⟨7, key 6 0 0 rfl hp⟩
/-- the commit in which a field changed, from commit j on, d of them -/
def fnF (σ : Mem) (f : Nat) : Nat → Nat → Int32
  | 0, _ => -1
  | d + 1, j => if σ (27 + j) f = σ (27 + (j - 1)) f then fnF σ f d (j + 1) else nI j
theorem s_find {post : Int32 → Mem → Prop} {σ : Mem} {nC f : Nat} (hn : nC ≤ 12) (hc : σ 23 3 = nI nC) (hf : f < 5) (hp : post (fnF σ f (nC - 1) 1) σ) : q_X1_find post (nI f) σ := by
  have ef : (nI f).toNatClampNeg = f := nI_clamp (by omega)
  have hvf : vp_in (nI f) 5 := vin_j hf (by decide)
  unfold q_X1_find
  have key : ∀ (d j : Nat), 1 ≤ j → j ≤ 12 → nC ≤ j + d → (d ≠ 0 → j + d ≤ nC) → post (fnF σ f d j) σ → lp_3 (q_X1_find_2 post (q_X1_find_31 post) (q_X1_find_39 post)) (d + 1) (nI f) (nI j) σ := by
    intro d
    induction d with
    | zero =>
      intro j _ hj2 hj _ hp
      show q_X1_find_2 _ _ _ _ _ _ _
      unfold q_X1_find_2 q_X1_find_39
      rw [hc]
      exact ⟨fun _ => hp, fun z => absurd (nI_le (by omega) (by omega)) z⟩
    | succ d ih =>
      intro j h1 hj2 hj hd hp
      show q_X1_find_2 _ _ _ _ _ _ _
      have ej : (nI j).toNatClampNeg = j := nI_clamp (by omega)
      have e1 : nI j - 1 = nI (j - 1) := by
        have := nI_1 (j - 1)
        rw [show j - 1 + 1 = j by omega] at this
        rw [← this]
        exact Int32.add_sub_cancel _ _
      have ej1 : (nI (j - 1)).toNatClampNeg = j - 1 := nI_clamp (by omega)
      unfold q_X1_find_2 q_X1_find_31
      rw [hc, e1, ej, ej1, ef]
      unfold fnF at hp
      refine ⟨fun z => absurd ((nI_leI (by omega) (by omega)).mp z) (by omega), fun _ => ⟨vin_j (by omega) (by decide), hvf, vin_j (by omega) (by decide), hvf, fun z => ?_, fun z => ?_⟩⟩
      · rintro _ rfl
        rw [nI_1]
        rw [if_pos z] at hp
        exact ih (j + 1) (by omega) (by omega) (by omega) (fun _ => by omega) hp
      · rw [if_neg z] at hp
        exact hp
  have h0 : ∀ d : Nat, d = nC - 1 → nC ≤ 1 + d ∧ (d ≠ 0 → 1 + d ≤ nC) := fun d e => by omega
  exact ⟨nC - 1 + 1, key (nC - 1) 1 (Nat.le_refl _) (by decide) (h0 _ rfl).1 (h0 _ rfl).2 hp⟩
/-- a commit more -/
def kpM (nC : Nat) (σ : Mem) : Mem := mst (mup σ (27 + nC) (cp5 (σ 22) (σ (27 + nC)))) 23 3 (nI (nC + 1))
theorem s_keep {post : Int32 → Mem → Prop} {σ : Mem} {nC : Nat} (hn : nC < 12) (hc : σ 23 3 = nI nC) (hp : post (nI nC) (kpM nC σ)) : q_X1_keep post σ := by
  have e : (nI nC).toNatClampNeg = nC := nI_clamp (by omega)
  unfold q_X1_keep
  rw [hc, e, cpy5]
  refine ⟨fun _ => ⟨vin_j hn (by decide), ?_⟩, fun q => absurd ((lt_nI (n := 12) (by omega) (by decide)).mpr hn) q⟩
  rintro _ rfl _ rfl
  rw [mup_ne (show (23 : Nat) ≠ 27 + nC by omega), hc, mst_eq, upd_eq, nI_1]
  have e9 : nI (nC + 1) - 1 = nI nC := by rw [← nI_1]; exact Int32.add_sub_cancel _ _
  rw [e9]
  exact hp
/-- a machine gets a commit -/
def brM (σ : Mem) (m c : Nat) : Mem := mup (mst σ 26 m (nI c)) (39 + m) (cp5 (σ (27 + c)) (σ (39 + m)))
theorem s_bring {post : Int32 → Mem → Prop} {σ : Mem} {nC m c : Nat} (hn : nC ≤ 12) (hc : σ 23 3 = nI nC) (hm : m < 6) (hcn : c < nC) (hp : ∀ r : Int32, bl (¬ σ 26 m = nI c ∨ ¬ dgF σ m 5 0 0 = 0) r → post r (brM σ m c)) : q_X1_bring post (nI m) (nI c) σ := by
  have em : (nI m).toNatClampNeg = m := nI_clamp (by omega)
  have ec : (nI c).toNatClampNeg = c := nI_clamp (by omega)
  have hvm : vp_in (nI m) 6 := vin_j hm (by decide)
  have hvc : vp_in (nI c) 12 := vin_j (by omega) (by decide)
  have fin : ∀ r : Int32, bz r → (bl (¬ σ 26 m = nI c ∨ ¬ dgF σ m 5 0 0 = 0) r) → q_X1_bring_23 post r (nI m) (nI c) σ := fun r hb hr => by
    unfold q_X1_bring_23
    rw [em, ec]
    refine ⟨hvm, ?_⟩
    rintro _ rfl
    refine ⟨hvc, hvm, ?_⟩
    rw [mst_ne (show 27 + c ≠ 26 by omega), mst_ne (show 39 + m ≠ 26 by omega), cpy5]
    rintro _ rfl
    exact ⟨hb, hp r hr⟩
  unfold q_X1_bring q_X1_bring_18
  rw [em]
  refine ⟨hvm, fun q => fin 1 bz1 (bl1 (Or.inl q)), fun q => s_drifting hn hc hm ⟨fun z => fin 0 bz0 (bl0 (fun w => w.elim (fun w => w q) (fun w => w z))), fun z => fin 1 bz1 (bl1 (Or.inr z))⟩⟩
theorem brM_fr {σ : Mem} {m c p : Nat} (h1 : p ≠ 26) (h2 : p ≠ 39 + m) : brM σ m c p = σ p := by
  unfold brM
  rw [mup_ne h2, mst_ne h1]
/-- machines of a set from m on, d of them, get a commit; how many were news -/
def wvF (c : Nat) (set : Int32) : Nat → Nat → Int32 → Mem → Int32 × Mem
  | 0, _, x, σ => (x, σ)
  | d + 1, m, x, σ => if ((set >>> (nI m &&& 31)) &&& 1) = 0 then wvF c set d (m + 1) x σ else wvF c set d (m + 1) (if ¬ σ 26 m = nI c ∨ ¬ dgF σ m 5 0 0 = 0 then x + 1 else x) (brM σ m c)
theorem wvF_fr {c : Nat} {set : Int32} {p : Nat} (hp : p < 26 ∨ (26 < p ∧ p < 39)) : ∀ (d m : Nat) (x : Int32) (σ : Mem), (wvF c set d m x σ).2 p = σ p := by
  intro d
  induction d with
  | zero => intro m x σ; rfl
  | succ d ih =>
    intro m x σ
    unfold wvF
    split
    · exact ih _ _ _
    · rw [ih, brM_fr (by omega) (by omega)]
/-- what a reason keeps, line by line from j on, d of them -/
def rsL (own : Bool) (f nF nL : Nat) : Nat → Nat → Int32 → Mem → Int32 × Mem
  | 0, _, kept, σ => (kept, σ)
  | d + 1, j, kept, σ =>
    if kept &&& (((1 : Int32) <<< (nI j &&& 31)) ^^^ (-1)) = kept then rsL own f nF nL d (j + 1) kept σ
    else if (own = true ∧ bgM 14 15 nF nL (kept &&& (((1 : Int32) <<< (nI j &&& 31)) ^^^ (-1))) σ 15 f = bgM 14 15 nF nL (kept &&& (((1 : Int32) <<< (nI j &&& 31)) ^^^ (-1))) σ 13 f) ∨ (own = false ∧ ¬ bgM 14 15 nF nL (kept &&& (((1 : Int32) <<< (nI j &&& 31)) ^^^ (-1))) σ 14 2 = 0)
      then rsL own f nF nL d (j + 1) (kept &&& (((1 : Int32) <<< (nI j &&& 31)) ^^^ (-1))) (bgM 14 15 nF nL (kept &&& (((1 : Int32) <<< (nI j &&& 31)) ^^^ (-1))) σ)
      else rsL own f nF nL d (j + 1) kept (bgM 14 15 nF nL (kept &&& (((1 : Int32) <<< (nI j &&& 31)) ^^^ (-1))) σ)
/-- asking leaves all but the trial as it was -/
def AE (σ τ : Mem) : Prop := (∀ p : Nat, p ≠ 14 → p ≠ 15 → τ p = σ p) ∧ bz (τ 14 2)
theorem AE.rf {σ : Mem} (h : bz (σ 14 2)) : AE σ σ := ⟨fun _ _ _ => rfl, h⟩
theorem AE.trans {σ τ ρ : Mem} (h : AE σ τ) (h2 : AE τ ρ) : AE σ ρ := ⟨fun p a b => (h2.1 p a b).trans (h.1 p a b), h2.2⟩
theorem AE.lv {σ τ : Mem} {nF nL : Nat} (h : AE σ τ) (hL : LV σ nF nL) : LV τ nF nL := hL.sm (fun p hp => h.1 p (by omega) (by omega))
theorem AE.ci {σ τ : Mem} {nF nL nC : Nat} (h : AE σ τ) (hI : CI σ nF nL nC) : CI τ nF nL nC := hI.sm (fun p hp => h.1 p (by omega) (by omega)) (by rw [h.1 12 (by decide) (by decide)]; exact hI.2.2.2.1) h.2
theorem bgM_ae {nF nL : Nat} {set : Int32} {σ : Mem} : AE σ (bgM 14 15 nF nL set σ) := ⟨fun p a b => bgM_fr a b, bgM_bz⟩
theorem rsL_ae {own : Bool} {f nF nL : Nat} : ∀ (d j : Nat) (kept : Int32) (σ : Mem), bz (σ 14 2) → AE σ (rsL own f nF nL d j kept σ).2 := by
  intro d
  induction d with
  | zero => intro j kept σ h; exact AE.rf h
  | succ d ih =>
    intro j kept σ h
    unfold rsL
    split
    · exact ih _ _ _ h
    · split
      · exact bgM_ae.trans (ih _ _ _ bgM_bz)
      · exact bgM_ae.trans (ih _ _ _ bgM_bz)
/-- the reason for a field (x), or for a contradiction -/
def rsF (nF nL : Nat) (x : Int32) (σ : Mem) : Int32 × Mem :=
  if ¬ (x < 0 ∨ nF ≤ x.toNatClampNeg) ∧ σ 12 2 = 0 then rsL true x.toNatClampNeg nF nL nL 0 (σ 11 6) σ
  else if σ 12 2 = 0 then (0, σ) else rsL false 0 nF nL nL 0 (σ 11 6) σ
theorem rsF_ae {nF nL : Nat} {x : Int32} {σ : Mem} (h : bz (σ 14 2)) : AE σ (rsF nF nL x σ).2 := by
  unfold rsF
  split
  · exact rsL_ae _ _ _ _ h
  · split
    · exact AE.rf h
    · exact rsL_ae _ _ _ _ h
theorem s_reasonOf {post : Int32 → Mem → Prop} {σ : Mem} {nF nL : Nat} {x : Int32} (h : LV σ nF nL) (hp : post (rsF nF nL x σ).1 (rsF nF nL x σ).2) : q_X4_reasonOf post x σ := by
  have h5 := h.1
  have h30 := h.2.1
  have loop : ∀ (own : Bool) (x2 : Int32) (f : Nat), (own = true → f < 5 ∧ x = nI f ∧ ¬ x2 = 0) → (own = false → x2 = 0) →
      ∀ (d j : Nat) (kept : Int32) (τ : Mem), j + d = nL → LV τ nF nL → post (rsL own f nF nL d j kept τ).1 (rsL own f nF nL d j kept τ).2 → lp_5 (q_X4_reasonOf_55 post (q_X4_reasonOf_139 post)) (d + 1) x x2 kept (nI j) τ := by
    intro own x2 f ho ho2 d
    induction d with
    | zero =>
      intro j kept τ hj hL hp
      show q_X4_reasonOf_55 _ _ _ _ _ _ _ _
      unfold q_X4_reasonOf_55 q_X4_reasonOf_139
      rw [hL.nl]
      exact ⟨fun _ => hp, fun q => absurd (nI_le (by omega) (by omega)) q⟩
    | succ d ih =>
      intro j kept τ hj hL hp
      show q_X4_reasonOf_55 _ _ _ _ _ _ _ _
      unfold q_X4_reasonOf_55
      rw [hL.nl]
      unfold rsL at hp
      refine ⟨fun q => absurd ((nI_leI (by omega) (by omega)).mp q) (by omega), fun _ => ?_⟩
      rintro _ rfl
      generalize kept &&& (((1 : Int32) <<< (nI j &&& 31)) ^^^ (-1)) = w at hp ⊢
      have nx : ∀ (k9 : Int32) (ρ : Mem), LV ρ nF nL → post (rsL own f nF nL d (j + 1) k9 ρ).1 (rsL own f nF nL d (j + 1) k9 ρ).2 → q_X4_reasonOf_133 post (q_X4_reasonOf_139 post) (lp_5 (q_X4_reasonOf_55 post (q_X4_reasonOf_139 post)) (d + 1)) x x2 k9 (nI j) ρ := fun k9 ρ hL9 hp9 => by
        unfold q_X4_reasonOf_133
        rintro _ rfl
        rw [nI_1]
        exact ih (j + 1) k9 ρ (by omega) hL9 hp9
      refine ⟨fun q => nx kept τ hL (by rwa [if_pos q] at hp), fun q => ?_⟩
      rw [if_neg q] at hp
      refine s_begin (by decide) (by decide) (by decide) hL ?_
      change (x2 = 0 → (bgM 14 15 nF nL w τ 14 2 = 0 → _) ∧ (¬ bgM 14 15 nF nL w τ 14 2 = 0 → _)) ∧ (¬ x2 = 0 → vp_in x 5 ∧ vp_in x 5 ∧ (¬ bgM 14 15 nF nL w τ 15 x.toNatClampNeg = bgM 14 15 nF nL w τ 13 x.toNatClampNeg → q_X4_reasonOf_133 post (q_X4_reasonOf_139 post) _ x x2 kept (nI j) (bgM 14 15 nF nL w τ)) ∧ (bgM 14 15 nF nL w τ 15 x.toNatClampNeg = bgM 14 15 nF nL w τ 13 x.toNatClampNeg → q_X4_reasonOf_130 post (q_X4_reasonOf_139 post) _ x x2 (nI j) w (bgM 14 15 nF nL w τ)))
      have hL2 : LV (bgM 14 15 nF nL w τ) nF nL := bgM_ae.lv hL
      unfold q_X4_reasonOf_130
      refine ⟨fun q2 => ⟨fun q3 => nx kept _ hL2 ?_, fun q3 => nx w _ hL2 ?_⟩, fun q2 => ?_⟩
      · have hof : own = false := by
          cases ho9 : own with
          | false => rfl
          | true => exact absurd q2 (ho ho9).2.2
        rwa [if_neg (fun z => z.elim (fun z => by rw [hof] at z; exact absurd z.1 (by decide)) (fun z => z.2 q3))] at hp
      · have hof : own = false := by
          cases ho9 : own with
          | false => rfl
          | true => exact absurd q2 (ho ho9).2.2
        rwa [if_pos (Or.inr ⟨hof, q3⟩)] at hp
      · have hot : own = true := by
          cases ho9 : own with
          | true => rfl
          | false => exact absurd (ho2 ho9) q2
        obtain ⟨hf, hxe, -⟩ := ho hot
        have ef : x.toNatClampNeg = f := by rw [hxe]; exact nI_clamp (by omega)
        have hvx : vp_in x 5 := by rw [hxe]; exact vin_j hf (by decide)
        rw [ef]
        refine ⟨hvx, hvx, fun q3 => nx kept _ hL2 ?_, fun q3 => nx w _ hL2 ?_⟩
        · rwa [if_neg (fun z => z.elim (fun z => q3 z.2) (fun z => by rw [hot] at z; exact absurd z.1 (by decide)))] at hp
        · rwa [if_pos (Or.inl ⟨hot, q3⟩)] at hp
  have r0 : ∀ x2 : Int32, x2 = 0 → ¬ (vp_in x nF ∧ σ 12 2 = 0) → q_X4_reasonOf_30 post x2 x σ := fun x2 e hn => by
    unfold q_X4_reasonOf_30 q_X4_reasonOf_47
    unfold rsF at hp
    rw [if_neg (show ¬ (¬ (x < 0 ∨ nF ≤ x.toNatClampNeg) ∧ σ 12 2 = 0) from hn)] at hp
    refine ⟨fun q => absurd e q, fun _ => ⟨fun q => ?_, fun q => by rwa [if_pos q] at hp⟩⟩
    rw [if_neg q] at hp
    rintro _ rfl
    exact ⟨nL + 1, loop false x2 0 (fun z => absurd z (by decide)) (fun _ => e) nL 0 _ σ (Nat.zero_add _) h hp⟩
  unfold q_X4_reasonOf q_X4_reasonOf_29
  rw [h.nf]
  refine ⟨fun q => r0 0 rfl (fun z => (lo_vin (by omega) z.1).1 q), fun q => ⟨fun q2 => r0 0 rfl (fun z => (lo_vin (by omega) z.1).2 q2), fun q2 => ⟨fun q3 => r0 0 rfl (fun z => q3 z.2), fun q3 => ?_⟩⟩⟩
  have hv : vp_in x nF := vin_lo (by omega) q q2
  unfold rsF at hp
  rw [if_pos (show ¬ (x < 0 ∨ nF ≤ x.toNatClampNeg) ∧ σ 12 2 = 0 from ⟨hv, q3⟩)] at hp
  obtain ⟨f, hf, rfl⟩ := vin_ex (by omega) hv
  have ef : (nI f).toNatClampNeg = f := nI_clamp (by omega)
  rw [ef] at hp
  unfold q_X4_reasonOf_30 q_X4_reasonOf_47
  refine ⟨fun _ => ?_, fun z => absurd z (by decide)⟩
  rintro _ rfl
  exact ⟨nL + 1, loop true 1 f (fun _ => ⟨by omega, rfl, by decide⟩) (fun z => absurd z (by decide)) nL 0 _ σ (Nat.zero_add _) h hp⟩
