/-! THE CLASS: lines and how they meet -/
abbrev ctP (σ : Mem) (j : Nat) : Prop := σ 10 j = 0 ∧ (¬ σ 9 j = 0 ∨ σ 5 j = σ 2 (σ 6 j).toNatClampNeg)
/-- what is told is in order -/
def LV (σ : Mem) (nF nL : Nat) : Prop := nF ≤ 5 ∧ nL ≤ 30 ∧ σ 1 9 = nI nF ∧ σ 1 10 = nI nL ∧ ∀ j : Nat, j < nL →
  vp_in (σ 6 j) nF ∧ vp_in (σ 4 j) 6 ∧ ((σ 4 j = 3 ∨ σ 4 j = 4) → vp_in (σ 7 j) nF ∧ ¬ σ 7 j = σ 6 j) ∧ (σ 4 j = 0 → σ 7 j &&& 255 = σ 7 j) ∧ ((σ 4 j = 1 ∨ σ 4 j = 2 ∨ σ 4 j = 5) → vp_in (σ 7 j) 8) ∧ (σ 4 j = 5 → vp_in (σ 8 j) 10)
theorem LV.nf {σ : Mem} {nF nL : Nat} (h : LV σ nF nL) : σ 1 9 = nI nF := h.2.2.1
theorem LV.nl {σ : Mem} {nF nL : Nat} (h : LV σ nF nL) : σ 1 10 = nI nL := h.2.2.2.1
theorem LV.ab {σ : Mem} {nF nL : Nat} (h : LV σ nF nL) {j : Nat} (hj : j < nL) : vp_in (σ 6 j) 5 := vin_mono (h.2.2.2.2 j hj).1 h.1
theorem LV.two {σ : Mem} {nF nL : Nat} (h : LV σ nF nL) {j : Nat} (hj : j < nL) (hk : σ 4 j = 3 ∨ σ 4 j = 4) : vp_in (σ 7 j) 5 := vin_mono ((h.2.2.2.2 j hj).2.2.1 hk).1 h.1
theorem LV.sm {σ τ : Mem} {nF nL : Nat} (h : LV σ nF nL) (e : ∀ p : Nat, p ≤ 10 → τ p = σ p) : LV τ nF nL := by
  unfold LV at h ⊢
  rw [e 1 (by omega), e 4 (by omega), e 6 (by omega), e 7 (by omega), e 8 (by omega)]
  exact h
theorem s_counts {post : Int32 → Mem → Prop} {σ : Mem} {j : Nat} (hj : j < 30) (ha : vp_in (σ 6 j) 5) (hp : ∀ r : Int32, bl (ctP σ j) r → post r σ) : q_X2_counts post (nI j) σ := by
  have e : (nI j).toNatClampNeg = j := nI_clamp (by omega)
  have hv : vp_in (nI j) 30 := vin_j hj (by decide)
  unfold q_X2_counts q_X2_counts_42 q_X2_counts_38 q_X2_counts_43
  rw [e]
  refine ⟨hv, fun q => ⟨bz0, hp 0 (bl0 (fun z => q z.1))⟩, fun q => ⟨hv, fun q2 => ⟨bz1, hp 1 (bl1 ⟨q, Or.inl q2⟩)⟩, fun q2 => ⟨hv, hv, ha, fun q3 => ⟨bz0, hp 0 (bl0 (fun z => z.2.elim (fun z => z q2) q3))⟩, fun q3 => ⟨bz1, hp 1 (bl1 ⟨q, Or.inr q3⟩)⟩⟩⟩⟩
/-- the set of lines that count, but for defaults: from line j on, d of them -/
def stF (σ : Mem) : Nat → Nat → Int32 → Int32
  | 0, _, x => x
  | d + 1, j, x => stF σ d (j + 1) (if ¬ σ 4 j = 5 ∧ ctP σ j then x ||| ((1 : Int32) <<< (nI j &&& 31)) else x)
theorem s_strictLines {post : Int32 → Mem → Prop} {σ : Mem} {nF nL : Nat} (h : LV σ nF nL) (hp : post (stF σ nL 0 0) σ) : q_X2_strictLines post σ := by
  unfold q_X2_strictLines
  have h30 := h.2.1
  have key : ∀ (d j : Nat) (x : Int32), j + d = nL → post (stF σ d j x) σ → lp_3 (q_X2_strictLines_4 post (q_X2_strictLines_42 post)) (d + 1) x (nI j) σ := by
    intro d
    induction d with
    | zero =>
      intro j x hj hp
      show q_X2_strictLines_4 _ _ _ _ _ _
      unfold q_X2_strictLines_4 q_X2_strictLines_42
      rw [h.nl]
      exact ⟨fun _ => hp, fun q => absurd (nI_le (by omega) (by omega)) q⟩
    | succ d ih =>
      intro j x hj hp
      show q_X2_strictLines_4 _ _ _ _ _ _
      have e : (nI j).toNatClampNeg = j := nI_clamp (by omega)
      unfold q_X2_strictLines_4 q_X2_strictLines_36
      rw [h.nl, e]
      refine ⟨fun q => absurd ((nI_leI (by omega) (by omega)).mp q) (by omega), fun _ => ⟨vin_j (by omega) (by decide), fun q => ?_, fun q => s_counts (by omega) (h.ab (by omega)) (fun r hr => ⟨fun z => ?_, fun z => ?_⟩)⟩⟩
      · rintro _ rfl
        rw [nI_1]
        unfold stF at hp
        rw [if_neg (fun z => z.1 q)] at hp
        exact ih (j + 1) x (by omega) hp
      · rintro _ rfl
        rw [nI_1]
        unfold stF at hp
        rw [if_neg (fun y => hr.f z y.2)] at hp
        exact ih (j + 1) x (by omega) hp
      · rintro _ rfl _ rfl
        rw [nI_1]
        unfold stF at hp
        rw [if_pos ⟨q, hr.t z⟩] at hp
        exact ih (j + 1) _ (by omega) hp
  exact ⟨nL + 1, key nL 0 0 (Nat.zero_add nL) hp⟩
theorem s_isOfTwo {post : Int32 → Mem → Prop} {σ : Mem} {j : Nat} (hj : j < 30) (hp : ∀ r : Int32, bl (σ 4 j = 3 ∨ σ 4 j = 4) r → post r σ) : q_X2_isOfTwo post (nI j) σ := by
  have e : (nI j).toNatClampNeg = j := nI_clamp (by omega)
  have hv : vp_in (nI j) 30 := vin_j hj (by decide)
  unfold q_X2_isOfTwo q_X2_isOfTwo_20 q_X2_isOfTwo_25
  rw [e]
  exact ⟨hv, fun q => ⟨bz1, hp 1 (bl1 (Or.inl q))⟩, fun q => ⟨hv, fun q2 => ⟨bz0, hp 0 (bl0 (fun z => z.elim q q2))⟩, fun q2 => ⟨bz1, hp 1 (bl1 (Or.inr q2))⟩⟩⟩
/-- what a line about one field lets -/
def l1F (kd sd : Int32) : Int32 := if kd = 0 then sd else if kd = 1 then ((255 : Int32) <<< (sd &&& 31)) &&& 255 else if kd = 2 then (255 : Int32) >>> (((7 : Int32) - sd) &&& 31) else 255
theorem s_letsAlone {post : Int32 → Mem → Prop} {σ : Mem} {j : Nat} (hj : j < 30) (hp : post (l1F (σ 4 j) (σ 7 j)) σ) : q_X2_letsAlone post (nI j) σ := by
  have e : (nI j).toNatClampNeg = j := nI_clamp (by omega)
  have hv : vp_in (nI j) 30 := vin_j hj (by decide)
  unfold q_X2_letsAlone
  unfold l1F at hp
  rw [e]
  refine ⟨hv, fun q => ?_, fun q => ⟨hv, ?_⟩, fun q => ⟨hv, ?_⟩, fun q => ⟨hv, ?_⟩⟩
  · have h0 : ¬ σ 4 j = 0 := fun z => by rw [z] at q; exact absurd q (by unfold sw_out; decide)
    have h1 : ¬ σ 4 j = 1 := fun z => by rw [z] at q; exact absurd q (by unfold sw_out; decide)
    have h2 : ¬ σ 4 j = 2 := fun z => by rw [z] at q; exact absurd q (by unfold sw_out; decide)
    rwa [if_neg h0, if_neg h1, if_neg h2] at hp
  · rw [if_pos (show σ 4 j = 0 from q)] at hp
    exact hp
  · rw [if_neg (show ¬ σ 4 j = 0 from fun z => absurd (q.symm.trans z) (by decide)), if_pos (show σ 4 j = 1 from q)] at hp
    exact hp
  · rw [if_neg (show ¬ σ 4 j = 0 from fun z => absurd (q.symm.trans z) (by decide)), if_neg (show ¬ σ 4 j = 1 from fun z => absurd (q.symm.trans z) (by decide)), if_pos (show σ 4 j = 2 from q)] at hp
    exact hp
/-- each number of a set, and some more -/
def shF (s0 x : Int32) : Int32 := (if s0 < 0 then x >>> ((-s0) &&& 31) else x <<< (s0 &&& 31)) &&& 255
def unF (x : Int32) : Int32 := if (x &&& (x - 1)) = 0 then (255 : Int32) &&& (x ^^^ (-1)) else 255
def loF (kd bs p2 x : Int32) : Int32 := if kd = 4 then unF x else shF (if p2 = 0 then bs else -bs) x
theorem s_letsByOther {post : Int32 → Mem → Prop} {σ : Mem} {j : Nat} {p2 x : Int32} (hj : j < 30) (hp : post (loF (σ 4 j) (σ 8 j) p2 x) σ) : q_X2_letsByOther post (nI j) p2 x σ := by
  have e : (nI j).toNatClampNeg = j := nI_clamp (by omega)
  have hv : vp_in (nI j) 30 := vin_j hj (by decide)
  have key : ∀ s0 : Int32, post (shF s0 x) σ → q_X2_letsByOther_64 post s0 x σ := fun s0 h => by
    unfold q_X2_letsByOther_64 q_X2_letsByOther_83
    unfold shF at h
    exact ⟨fun q => by rwa [if_pos q] at h, fun q => by rwa [if_neg q] at h⟩
  unfold q_X2_letsByOther q_X2_letsByOther_23 q_X2_letsByOther_43
  unfold loF unF at hp
  rw [e]
  refine ⟨hv, fun q => ⟨fun q2 => ⟨hv, key _ ?_⟩, fun q2 => ⟨hv, key _ ?_⟩⟩, fun q => ⟨fun q2 => ⟨fun _ => ?_, fun z => absurd rfl z⟩, fun q2 => ⟨fun z => absurd z (by decide), fun _ => ?_⟩⟩⟩
  · rwa [if_neg q, if_pos q2] at hp
  · rwa [if_neg q, if_neg q2] at hp
  · rwa [if_pos q, if_neg q2] at hp
  · rwa [if_pos q, if_pos q2] at hp
/-- what a line takes away -/
def tkF (kd ab sd bs : Int32) (m : Nat → Int32) : Nat → Int32 :=
  if kd = 3 ∨ kd = 4 then upd (upd m ab.toNatClampNeg (m ab.toNatClampNeg &&& loF kd bs 0 (m sd.toNatClampNeg))) sd.toNatClampNeg (m sd.toNatClampNeg &&& loF kd bs 1 (upd m ab.toNatClampNeg (m ab.toNatClampNeg &&& loF kd bs 0 (m sd.toNatClampNeg)) ab.toNatClampNeg))
  else upd m ab.toNatClampNeg (m ab.toNatClampNeg &&& l1F kd sd)
/-- whether that is any -/
def tkC (kd ab sd bs : Int32) (m : Nat → Int32) : Bool :=
  if kd = 3 ∨ kd = 4 then decide (¬ tkF kd ab sd bs m ab.toNatClampNeg = m ab.toNatClampNeg) || decide (¬ tkF kd ab sd bs m sd.toNatClampNeg = m sd.toNatClampNeg) else decide (¬ tkF kd ab sd bs m ab.toNatClampNeg = m ab.toNatClampNeg)
def lnM (σ : Mem) (j : Nat) (m : Nat → Int32) : Nat → Int32 := tkF (σ 4 j) (σ 6 j) (σ 7 j) (σ 8 j) m
def lnC (σ : Mem) (j : Nat) (m : Nat → Int32) : Bool := tkC (σ 4 j) (σ 6 j) (σ 7 j) (σ 8 j) m
theorem s_takesAway {pm pa : Nat} {post : Int32 → Mem → Prop} {σ : Mem} {j : Nat} (hpa : 10 < pa) (hj : j < 30) (ha : vp_in (σ 6 j) 5) (h2 : (σ 4 j = 3 ∨ σ 4 j = 4) → vp_in (σ 7 j) 5) (hp : ∀ r : Int32, bl (lnC σ j (σ pa) = true) r → post r (mup σ pa (lnM σ j (σ pa)))) : q_X3_takesAway pm pa post (nI j) σ := by
  have e : (nI j).toNatClampNeg = j := nI_clamp (by omega)
  have hv : vp_in (nI j) 30 := vin_j hj (by decide)
  unfold q_X3_takesAway
  rw [e]
  refine ⟨hv, ?_⟩
  rintro _ rfl
  refine ⟨ha, ?_⟩
  rintro _ rfl
  refine s_isOfTwo hj (fun r hr => ⟨fun z => ⟨hv, ?_⟩, fun z => ?_⟩)
  · have hk := hr.t z
    have hs := h2 hk
    have eM : lnM σ j (σ pa) = upd (upd (σ pa) (σ 6 j).toNatClampNeg (σ pa (σ 6 j).toNatClampNeg &&& loF (σ 4 j) (σ 8 j) 0 (σ pa (σ 7 j).toNatClampNeg))) (σ 7 j).toNatClampNeg (σ pa (σ 7 j).toNatClampNeg &&& loF (σ 4 j) (σ 8 j) 1 (upd (σ pa) (σ 6 j).toNatClampNeg (σ pa (σ 6 j).toNatClampNeg &&& loF (σ 4 j) (σ 8 j) 0 (σ pa (σ 7 j).toNatClampNeg)) (σ 6 j).toNatClampNeg)) := by
      unfold lnM tkF
      rw [if_pos hk]
    have eC : lnC σ j (σ pa) = (decide (¬ lnM σ j (σ pa) (σ 6 j).toNatClampNeg = σ pa (σ 6 j).toNatClampNeg) || decide (¬ lnM σ j (σ pa) (σ 7 j).toNatClampNeg = σ pa (σ 7 j).toNatClampNeg)) := by
      unfold lnC tkC
      rw [if_pos hk]
      rfl
    rintro _ rfl
    refine ⟨hs, ?_⟩
    rintro _ rfl
    refine s_letsByOther hj ⟨ha, ?_⟩
    rintro _ rfl
    refine ⟨ha, s_letsByOther hj ⟨hs, ?_⟩⟩
    rw [mst_ne (show (4 : Nat) ≠ pa by omega), mst_ne (show (8 : Nat) ≠ pa by omega), mst_eq]
    rintro _ rfl
    have eF : mst (mst σ pa (σ 6 j).toNatClampNeg (σ pa (σ 6 j).toNatClampNeg &&& loF (σ 4 j) (σ 8 j) 0 (σ pa (σ 7 j).toNatClampNeg))) pa (σ 7 j).toNatClampNeg (σ pa (σ 7 j).toNatClampNeg &&& loF (σ 4 j) (σ 8 j) 1 (upd (σ pa) (σ 6 j).toNatClampNeg (σ pa (σ 6 j).toNatClampNeg &&& loF (σ 4 j) (σ 8 j) 0 (σ pa (σ 7 j).toNatClampNeg)) (σ 6 j).toNatClampNeg)) = mup σ pa (lnM σ j (σ pa)) := by
      rw [mst_mup, mst_eq, mst_mup, mup_mup, eM]
    rw [eF, mup_eq]
    unfold q_X3_takesAway_146 q_X3_takesAway_151
    refine ⟨ha, fun q => ⟨bz1, hp 1 (bl1 ?_)⟩, fun q => ⟨hs, fun q2 => ⟨bz0, hp 0 (bl0 ?_)⟩, fun q2 => ⟨bz1, hp 1 (bl1 ?_)⟩⟩⟩
    · rw [eC]; simp [q]
    · rw [eC]; simp [q, q2]
    · rw [eC]; simp [q2]
  · have hk := hr.f z
    have eM : lnM σ j (σ pa) = upd (σ pa) (σ 6 j).toNatClampNeg (σ pa (σ 6 j).toNatClampNeg &&& l1F (σ 4 j) (σ 7 j)) := by
      unfold lnM tkF
      rw [if_neg hk]
    have eC : lnC σ j (σ pa) = decide (¬ lnM σ j (σ pa) (σ 6 j).toNatClampNeg = σ pa (σ 6 j).toNatClampNeg) := by
      unfold lnC tkC
      rw [if_neg hk]
      rfl
    refine s_letsAlone hj ⟨ha, ?_⟩
    rintro _ rfl
    rw [mst_mup, ← eM, mup_eq]
    unfold q_X3_takesAway_59
    refine ⟨ha, fun q => ⟨bz0, hp 0 (bl0 ?_)⟩, fun q => ⟨bz1, hp 1 (bl1 ?_)⟩⟩
    · rw [eC]; simp [q]
    · rw [eC]; simp [q]
