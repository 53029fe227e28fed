/-! THE CLASS: a meeting -/
abbrev Mw : Type := Nat → Int32
/-- one line of a set -/
def stM (T : Nat → Mw → Mw) (set : Int32) (j : Nat) (m : Mw) : Mw := if ((set >>> (nI j &&& 31)) &&& 1) = 0 then m else T j m
/-- the lines of a set from j on, d of them -/
def psM (T : Nat → Mw → Mw) (set : Int32) : Nat → Nat → Mw → Mw
  | 0, _, m => m
  | d + 1, j, m => psM T set d (j + 1) (stM T set j m)
/-- whether they took away any -/
def psC (T : Nat → Mw → Mw) (C : Nat → Mw → Bool) (set : Int32) : Nat → Nat → Mw → Bool
  | 0, _, _ => false
  | d + 1, j, m => (if ((set >>> (nI j &&& 31)) &&& 1) = 0 then false else C j m) || psC T C set d (j + 1) (stM T set j m)
/-- rounds, at most so many -/
def rnF (T : Nat → Mw → Mw) (C : Nat → Mw → Bool) (set : Int32) (nL : Nat) : Nat → Mw → Mw
  | 0, m => m
  | n + 1, m => if psC T C set nL 0 m = true then rnF T C set nL n (psM T set nL 0 m) else psM T set nL 0 m
/-- whether a field is empty -/
def emC (m : Mw) : Nat → Nat → Int32 → Int32
  | 0, _, c => c
  | d + 1, f, c => emC m d (f + 1) (if m f = 0 then 1 else c)
def finM (nF : Nat) (m : Mw) : Mw := if emC m nF 0 0 = 0 then m else fl_row 5 0 m
/-- what a meeting leaves, and whether it is a contradiction -/
def mtF (σ : Mem) (set : Int32) (nF nL : Nat) (m : Mw) : Mw := finM nF (rnF (lnM σ) (lnC σ) set nL 41 m)
def mtC (σ : Mem) (set : Int32) (nF nL : Nat) (m : Mw) : Int32 := emC (rnF (lnM σ) (lnC σ) set nL 41 m) nF 0 0
theorem lnM_sm {σ τ : Mem} (e : ∀ p : Nat, p ≤ 10 → τ p = σ p) : lnM τ = lnM σ := by
  funext j m
  unfold lnM
  rw [e 4 (by omega), e 6 (by omega), e 7 (by omega), e 8 (by omega)]
theorem lnC_sm {σ τ : Mem} (e : ∀ p : Nat, p ≤ 10 → τ p = σ p) : lnC τ = lnC σ := by
  funext j m
  unfold lnC
  rw [e 4 (by omega), e 6 (by omega), e 7 (by omega), e 8 (by omega)]
theorem mtF_sm {σ τ : Mem} (e : ∀ p : Nat, p ≤ 10 → τ p = σ p) : mtF τ = mtF σ := by
  funext set nF nL m
  unfold mtF
  rw [lnM_sm e, lnC_sm e]
theorem mtC_sm {σ τ : Mem} (e : ∀ p : Nat, p ≤ 10 → τ p = σ p) : mtC τ = mtC σ := by
  funext set nF nL m
  unfold mtC
  rw [lnM_sm e, lnC_sm e]
theorem sm_mup {σ : Mem} {pa : Nat} {f : Mw} (h : 10 < pa) : ∀ p : Nat, p ≤ 10 → mup σ pa f p = σ p := fun p hp => mup_ne (by omega)
theorem sm_mst {σ : Mem} {pa j : Nat} {x : Int32} (h : 10 < pa) : ∀ p : Nat, p ≤ 10 → mst σ pa j x p = σ p := fun p hp => mst_ne (by omega)
theorem emC_01 (m : Mw) : ∀ (d f : Nat) (c : Int32), (c = 0 ∨ c = 1) → (emC m d f c = 0 ∨ emC m d f c = 1) := by
  intro d
  induction d with
  | zero => intro f c h; exact h
  | succ d ih =>
    intro f c h
    unfold emC
    refine ih _ _ ?_
    split
    · exact Or.inr rfl
    · exact h
theorem s_goOn_in {pm pa : Nat} {post : Mem → Prop} {kE : Int32 → Int32 → Int32 → Mem → Prop} {σ : Mem} {nF nL : Nat} {set x3 : Int32} (hpa : 10 < pa) (h : LV σ nF nL) :
    ∀ (d j : Nat) (x2 : Int32) (m : Mw), j + d = nL → (∀ y : Int32, (y = 0 ↔ x2 = 0 ∧ psC (lnM σ) (lnC σ) set d j m = false) → kE set y x3 (mup σ pa (psM (lnM σ) set d j m))) →
    lp_5 (q_X3_goOn_19 pm pa post kE) (d + 1) set x2 x3 (nI j) (mup σ pa m) := by
  have h30 := h.2.1
  intro d
  induction d with
  | zero =>
    intro j x2 m hj hp
    show q_X3_goOn_19 _ _ _ _ _ _ _ _ _ _
    unfold q_X3_goOn_19
    rw [mup_ne (show (1 : Nat) ≠ pa by omega), h.nl]
    exact ⟨fun _ => hp x2 ⟨fun e => ⟨e, rfl⟩, fun e => e.1⟩, fun q => absurd (nI_le (by omega) (by omega)) q⟩
  | succ d ih =>
    intro j x2 m hj hp
    show q_X3_goOn_19 _ _ _ _ _ _ _ _ _ _
    unfold q_X3_goOn_19 q_X3_goOn_51
    rw [mup_ne (show (1 : Nat) ≠ pa by omega), h.nl]
    refine ⟨fun q => absurd ((nI_leI (by omega) (by omega)).mp q) (by omega), fun _ => s_contains (fun r hr => ⟨fun z => ?_, fun z => ?_⟩)⟩
    · rintro _ rfl
      rw [nI_1]
      have hb : ((set >>> (nI j &&& 31)) &&& 1) = 0 := Classical.byContradiction (hr.f z)
      refine ih (j + 1) x2 m (by omega) (fun y hy => ?_)
      have := hp y
      unfold psC psM stM at this
      rw [if_pos hb, if_pos hb] at this
      exact this (by simpa using hy)
    · have hb : ¬ ((set >>> (nI j &&& 31)) &&& 1) = 0 := hr.t z
      have hj2 : j < nL := by omega
      have e6 : (mup σ pa m) 6 = σ 6 := mup_ne (by omega)
      have e4 : (mup σ pa m) 4 = σ 4 := mup_ne (by omega)
      have e7 : (mup σ pa m) 7 = σ 7 := mup_ne (by omega)
      refine s_takesAway hpa (by omega) (by rw [e6]; exact h.ab hj2) (by rw [e4, e7]; exact h.two hj2) (fun r2 hr2 => ?_)
      rw [mup_mup, mup_eq, lnM_sm (sm_mup hpa)]
      rw [mup_eq, lnC_sm (sm_mup hpa)] at hr2
      refine ⟨fun y => ?_, fun y => ?_⟩
      · rintro _ rfl
        rw [nI_1]
        refine ih (j + 1) x2 _ (by omega) (fun u hu => ?_)
        have := hp u
        unfold psC psM stM at this
        rw [if_neg hb, if_neg hb] at this
        have hc : lnC σ j m = false := by
          cases hh : lnC σ j m with
          | false => rfl
          | true => exact absurd hh (hr2.f y)
        rw [hc] at this
        exact this (by simpa using hu)
      · rintro _ rfl
        rw [nI_1]
        refine ih (j + 1) 1 _ (by omega) (fun u hu => ?_)
        have := hp u
        unfold psC psM stM at this
        rw [if_neg hb, if_neg hb, hr2.t y] at this
        refine this ⟨fun e => absurd (hu.mp e).1 (by decide), fun e => absurd e.2 (by simp)⟩
theorem s_goOn_em {pm pa : Nat} {post : Mem → Prop} {kE : Mem → Prop} {τ : Mem} {nF nL : Nat} {m : Mw} (hpm : 10 < pm) (hne : pm ≠ pa) (h : LV τ nF nL) (hm : τ pa = m) :
    ∀ (d f : Nat) (c : Int32), f + d = nF → kE (mst τ pm 2 (emC m d f c)) → lp_2 (q_X3_goOn_70 pm pa post kE) (d + 1) (nI f) (mst τ pm 2 c) := by
  have h5 := h.1
  intro d
  induction d with
  | zero =>
    intro f c hf hp
    show q_X3_goOn_70 _ _ _ _ _ _ _
    unfold q_X3_goOn_70
    rw [mst_ne (show (1 : Nat) ≠ pm by omega), h.nf]
    exact ⟨fun _ => hp, fun q => absurd (nI_le (by omega) (by omega)) q⟩
  | succ d ih =>
    intro f c hf hp
    show q_X3_goOn_70 _ _ _ _ _ _ _
    have e : (nI f).toNatClampNeg = f := nI_clamp (by omega)
    unfold q_X3_goOn_70 q_X3_goOn_95
    rw [mst_ne (show (1 : Nat) ≠ pm by omega), h.nf, mst_ne (Ne.symm hne), hm, e]
    unfold emC at hp
    refine ⟨fun q => absurd ((nI_leI (by omega) (by omega)).mp q) (by omega), fun _ => ⟨vin_j (by omega) (by decide), fun q => ?_, fun q => ?_⟩⟩
    · rintro _ rfl
      rw [nI_1]
      rw [if_neg q] at hp
      exact ih (f + 1) c (by omega) hp
    · rintro _ rfl _ rfl
      rw [nI_1, mst_mup, mst_mup, mup_mup, mup_eq, upd_upd, ← mst_mup]
      rw [if_pos q] at hp
      exact ih (f + 1) 1 (by omega) hp
theorem s_goOn {pm pa : Nat} {post : Mem → Prop} {σ : Mem} {nF nL : Nat} {set : Int32} (hpm : 10 < pm) (hpa : 10 < pa) (hne : pm ≠ pa) (h : LV σ nF nL) (hp : post (mst (mup σ pa (mtF σ set nF nL (σ pa))) pm 2 (mtC σ set nF nL (σ pa)))) : q_X3_goOn pm pa post set σ := by
  have h5 := h.1
  -- what comes behind the rounds
  have fin : ∀ m : Mw, post (mst (mup σ pa (finM nF m)) pm 2 (emC m nF 0 0)) → q_X3_goOn_63 pm pa post (mup σ pa m) := fun m hp => by
    unfold q_X3_goOn_63
    rintro _ rfl
    refine ⟨nF + 1, s_goOn_em (m := m) hpm hne (h.sm (sm_mup hpa)) mup_eq nF 0 0 (Nat.zero_add nF) ?_⟩
    unfold q_X3_goOn_101 q_X3_goOn_116
    have e2 : mst (mup σ pa m) pm 2 (emC m nF 0 0) pm 2 = emC m nF 0 0 := by rw [mst_eq, upd_eq]
    rw [e2]
    unfold finM at hp
    refine ⟨fun q => by rwa [if_pos q] at hp, fun q => ?_⟩
    rintro _ rfl
    rw [if_neg q] at hp
    have e3 : mup (mst (mup σ pa m) pm 2 (emC m nF 0 0)) pa (fl_row 5 0 (mst (mup σ pa m) pm 2 (emC m nF 0 0) pa)) = mst (mup σ pa (fl_row 5 0 m)) pm 2 (emC m nF 0 0) := by
      rw [mst_ne (Ne.symm hne), mup_eq, mst_mup, mst_mup, mup_ne hne, mup_ne hne, mup_comm hne, mup_mup]
    rw [e3]
    exact hp
  have key : ∀ (n : Nat) (x2 : Int32) (m : Mw), n ≤ 41 → (x2 = 0 → post (mst (mup σ pa (finM nF m)) pm 2 (emC m nF 0 0))) → (¬ x2 = 0 → post (mst (mup σ pa (finM nF (rnF (lnM σ) (lnC σ) set nL n m))) pm 2 (emC (rnF (lnM σ) (lnC σ) set nL n m) nF 0 0))) →
      lp_4 (q_X3_goOn_4 pm pa post (q_X3_goOn_63 pm pa post)) (n + 1) set x2 (nI (41 - n)) (mup σ pa m) := by
    intro n
    induction n with
    | zero =>
      intro x2 m _ h0 h1
      show q_X3_goOn_4 _ _ _ _ _ _ _ _ _
      unfold q_X3_goOn_4
      refine ⟨fun q => fin m (h0 q), fun q => ⟨fun _ => fin m (h1 q), fun z => absurd (show (40 : Int32) < nI (41 - 0) by decide) z⟩⟩
    | succ n ih =>
      intro x2 m hn h0 h1
      show q_X3_goOn_4 _ _ _ _ _ _ _ _ _
      unfold q_X3_goOn_4
      refine ⟨fun q => fin m (h0 q), fun q => ⟨fun z => ?_, fun _ => ⟨nL + 1, ?_⟩⟩⟩
      · exfalso
        rw [Int32.lt_iff_toInt_lt, nI_toInt (by omega)] at z
        have : (40 : Int32).toInt = 40 := by decide
        omega
      · refine s_goOn_in hpa h nL 0 0 m (Nat.zero_add nL) (fun y hy => ?_)
        unfold q_X3_goOn_57
        rintro _ rfl
        rw [show nI (41 - (n + 1)) + 1 = nI (41 - n) by rw [nI_1]; congr 1; omega]
        have h1 := h1 q
        unfold rnF at h1
        refine ih y _ (by omega) (fun e => ?_) (fun e => ?_)
        · rw [if_neg (by rw [(hy.mp e).2]; decide)] at h1
          exact h1
        · rw [if_pos (by
            cases hh : psC (lnM σ) (lnC σ) set nL 0 m with
            | false => exact absurd (hy.mpr ⟨rfl, hh⟩) e
            | true => rfl)] at h1
          exact h1
  unfold q_X3_goOn
  have := key 41 1 (σ pa) (Nat.le_refl _) (fun e => absurd e (by decide)) (fun _ => hp)
  rw [mup_self] at this
  exact ⟨42, this⟩
/-- what fields may be at first -/
theorem s_begin {pm pa : Nat} {post : Mem → Prop} {σ : Mem} {nF nL : Nat} {set : Int32} (hpm : 10 < pm) (hpa : 10 < pa) (hne : pm ≠ pa) (h : LV σ nF nL) (hp : post (mst (mup σ pa (mtF σ set nF nL (fl_row 5 255 (σ pa)))) pm 2 (mtC σ set nF nL (fl_row 5 255 (σ pa))))) : q_X3_begin pm pa post set σ := by
  unfold q_X3_begin
  rintro _ rfl
  refine s_goOn hpm hpa hne (h.sm (sm_mup hpa)) ?_
  rw [mtF_sm (sm_mup hpa), mtC_sm (sm_mup hpa), mup_eq, mup_mup]
  exact hp
/-- five numbers taken over -/
def cp5 (f g : Mw) : Mw := fun j => if j < 5 then f j else g j
theorem cpy5 (f g : Mw) : va_cpy f g ((0 : Int32).toNatClampNeg) ((0 : Int32).toNatClampNeg) ((5 : Int32).toNatClampNeg) = cp5 f g := by
  funext j
  show (if 0 ≤ j ∧ j < 0 + 5 then f (0 + (j - 0)) else g j) = if j < 5 then f j else g j
  by_cases h : j < 5
  · rw [if_pos ⟨Nat.zero_le _, by omega⟩, if_pos h]; congr 1; omega
  · rw [if_neg (fun z => h (by omega)), if_neg h]
theorem s_copy {pm pa po pb : Nat} {post : Mem → Prop} {σ : Mem} (hpo : po ≠ pa) (hb : bz (σ po 2)) (hp : post (mst (mup σ pa (cp5 (σ pb) (σ pa))) pm 2 (σ po 2))) : q_X3_copy pm pa po pb post σ := by
  unfold q_X3_copy
  rintro _ rfl
  rw [cpy5, mup_ne hpo]
  refine ⟨hb, ?_⟩
  rintro _ rfl
  exact hp
