/-! WHAT IS TOLD ALIKE GOES ON ALIKE -/
def Agr (σ ρ : Mem) : Prop := ∀ p j : Nat, 1 ≤ p → p ≤ 10 → j < 30 → σ p j = ρ p j
theorem Agr.symm {σ ρ : Mem} (h : Agr σ ρ) : Agr ρ σ := fun p j a b c => (h p j a b c).symm
theorem ag_lv {σ ρ : Mem} {nF nL : Nat} (h : Agr σ ρ) (hL : LV σ nF nL) : LV ρ nF nL := by
  obtain ⟨h1, h2, h3, h4, h5⟩ := hL
  refine ⟨h1, h2, (h 1 9 (by decide) (by decide) (by decide)).symm.trans h3, (h 1 10 (by decide) (by decide) (by decide)).symm.trans h4, fun j hj => ?_⟩
  rw [← h 4 j (by decide) (by decide) (by omega), ← h 6 j (by decide) (by decide) (by omega), ← h 7 j (by decide) (by decide) (by omega), ← h 8 j (by decide) (by decide) (by omega)]
  exact h5 j hj
theorem ag_ct {σ ρ : Mem} {nF nL j : Nat} (h : Agr σ ρ) (hL : LV σ nF nL) (hj : j < nL) : ctP σ j ↔ ctP ρ j := by
  have h30 := hL.2.1
  have ha := vin_lt (hL.ab hj)
  unfold ctP
  rw [← h 10 j (by decide) (by decide) (by omega), ← h 9 j (by decide) (by decide) (by omega), ← h 5 j (by decide) (by decide) (by omega), ← h 6 j (by decide) (by decide) (by omega), ← h 2 _ (by decide) (by decide) (by omega)]
theorem ag_st {σ ρ : Mem} {nF nL : Nat} (h : Agr σ ρ) (hL : LV σ nF nL) : ∀ (d j : Nat) (x : Int32), j + d = nL → stF σ d j x = stF ρ d j x := by
  have h30 := hL.2.1
  intro d
  induction d with
  | zero => intro j x _; rfl
  | succ d ih =>
    intro j x hj
    unfold stF
    have e : (¬ σ 4 j = 5 ∧ ctP σ j) ↔ (¬ ρ 4 j = 5 ∧ ctP ρ j) := by
      rw [h 4 j (by decide) (by decide) (by omega), ag_ct h hL (by omega)]
    rw [ih (j + 1) _ (by omega)]
    by_cases q : ¬ σ 4 j = 5 ∧ ctP σ j
    · rw [if_pos q, if_pos (e.mp q)]
    · rw [if_neg q, if_neg (fun z => q (e.mpr z))]
theorem ag_ln {σ ρ : Mem} {j : Nat} (h : Agr σ ρ) (hj : j < 30) : lnM σ j = lnM ρ j ∧ lnC σ j = lnC ρ j := by
  constructor
  · funext m
    unfold lnM
    rw [h 4 j (by decide) (by decide) hj, h 6 j (by decide) (by decide) hj, h 7 j (by decide) (by decide) hj, h 8 j (by decide) (by decide) hj]
  · funext m
    unfold lnC
    rw [h 4 j (by decide) (by decide) hj, h 6 j (by decide) (by decide) hj, h 7 j (by decide) (by decide) hj, h 8 j (by decide) (by decide) hj]
theorem ps_eq {T T' : Nat → Mw → Mw} {set : Int32} (d j : Nat) (m : Mw) : psM T set (d + 1) j m = psM T set d (j + 1) (stM T set j m) := rfl
theorem pc_eq {T T' : Nat → Mw → Mw} {C : Nat → Mw → Bool} {set : Int32} (d j : Nat) (m : Mw) : psC T C set (d + 1) j m = ((if ((set >>> (nI j &&& 31)) &&& 1) = 0 then false else C j m) || psC T C set d (j + 1) (stM T set j m)) := rfl
theorem ag_ps1 {T T' : Nat → Mw → Mw} {C C' : Nat → Mw → Bool} {set : Int32} {N : Nat} (h : ∀ j : Nat, j < N → T j = T' j) (h2 : ∀ j : Nat, j < N → C j = C' j) : ∀ (d j : Nat) (m : Mw), j + d ≤ N → psM T set d j m = psM T' set d j m ∧ psC T C set d j m = psC T' C' set d j m := by
  intro d
  induction d with
  | zero => intro j m _; exact ⟨rfl, rfl⟩
  | succ d ih =>
    intro j m hj
    have e1 := h j (by omega)
    have e2 := h2 j (by omega)
    have es : stM T set j m = stM T' set j m := by unfold stM; rw [e1]
    rw [ps_eq (T' := T'), ps_eq (T' := T'), pc_eq (T' := T'), pc_eq (T' := T'), es, e2]
    obtain ⟨p1, p2⟩ := ih (j + 1) (stM T' set j m) (by omega)
    exact ⟨p1, by rw [p2]⟩
theorem ag_rn1 {T T' : Nat → Mw → Mw} {C C' : Nat → Mw → Bool} {set : Int32} {N nL : Nat} (hn : nL ≤ N) (h : ∀ j : Nat, j < N → T j = T' j) (h2 : ∀ j : Nat, j < N → C j = C' j) : ∀ (k : Nat) (m : Mw), rnF T C set nL k m = rnF T' C' set nL k m := by
  intro k
  induction k with
  | zero => intro m; rfl
  | succ k ih =>
    intro m
    obtain ⟨e1, e2⟩ := ag_ps1 (set := set) h h2 nL 0 m (by omega)
    unfold rnF
    rw [e1, e2, ih]
theorem ag_rn {σ ρ : Mem} {set : Int32} {nL : Nat} (h : Agr σ ρ) (hn : nL ≤ 30) (k : Nat) (m : Mw) : rnF (lnM σ) (lnC σ) set nL k m = rnF (lnM ρ) (lnC ρ) set nL k m := ag_rn1 hn (fun j hj => (ag_ln h hj).1) (fun j hj => (ag_ln h hj).2) k m
theorem ag_mt {σ ρ : Mem} {set : Int32} {nF nL : Nat} (h : Agr σ ρ) (hn : nL ≤ 30) : mtF σ set nF nL = mtF ρ set nF nL ∧ mtC σ set nF nL = mtC ρ set nF nL := by
  constructor
  · funext m; unfold mtF; rw [ag_rn h hn]
  · funext m; unfold mtC; rw [ag_rn h hn]
theorem ag_a {σ ρ : Mem} {nF nL : Nat} (h : Agr σ ρ) (hL : LV σ nF nL) : aM σ nF nL = aM ρ nF nL ∧ aC σ nF nL = aC ρ nF nL := by
  have e := ag_st h hL nL 0 0 (Nat.zero_add _)
  obtain ⟨e1, e2⟩ := ag_mt (set := stF ρ nL 0 0) (nF := nF) h hL.2.1
  unfold aM aC
  rw [e, e1, e2]
  exact ⟨rfl, rfl⟩
/-! SETTLING ONE FIELD, SAID ONCE: the first default that meets -/
/-- a default of field f that counts, of the place q: rank 9 - q / 8, number q % 8 -/
def Dq (σ : Mem) (nL f q : Nat) : Prop := ∃ j : Nat, j < nL ∧ σ 4 j = 5 ∧ σ 6 j = nI f ∧ σ 8 j = nI (9 - q / 8) ∧ σ 7 j = nI (q % 8) ∧ ctP σ j
def tyM (m : Mw) (f q : Nat) : Mw := upd m f ((1 : Int32) <<< (nI (q % 8) &&& 31))
def Gq (σ : Mem) (set : Int32) (nF nL f : Nat) (m : Mw) (q : Nat) : Prop := Dq σ nL f q ∧ hasB (m f) (nI (q % 8)) ∧ mtC σ set nF nL (tyM m f q) = 0
def Res (σ : Mem) (set : Int32) (nF nL f : Nat) (m m' : Mw) : Prop := (∃ q : Nat, q < 80 ∧ Gq σ set nF nL f m q ∧ (∀ r : Nat, r < q → ¬ Gq σ set nF nL f m r) ∧ m' = mtF σ set nF nL (tyM m f q)) ∨ ((∀ r : Nat, r < 80 → ¬ Gq σ set nF nL f m r) ∧ m' = m)
theorem Res.det {σ : Mem} {set : Int32} {nF nL f : Nat} {m a b : Mw} (ha : Res σ set nF nL f m a) (hb : Res σ set nF nL f m b) : a = b := by
  rcases ha with ⟨q, hq, gq, lq, eq⟩ | ⟨nq, eq⟩
  · rcases hb with ⟨r, hr, gr, lr, er⟩ | ⟨nr, er⟩
    · have : q = r := by
        rcases Nat.lt_trichotomy q r with z | z | z
        · exact absurd gq (lr q z)
        · exact z
        · exact absurd gr (lq r z)
      rw [eq, er, this]
    · exact absurd gq (nr q hq)
  · rcases hb with ⟨r, hr, gr, lr, er⟩ | ⟨nr, er⟩
    · exact absurd gr (nq r hr)
    · rw [eq, er]
def Sep (σ : Mem) (set : Int32) (nF nL f : Nat) (m m' : Mw) : Prop := (2 ≤ bcF (m f) → Res σ set nF nL f m m') ∧ (¬ 2 ≤ bcF (m f) → m' = m)
theorem Sep.det {σ : Mem} {set : Int32} {nF nL f : Nat} {m a b : Mw} (ha : Sep σ set nF nL f m a) (hb : Sep σ set nF nL f m b) : a = b := by
  by_cases q : 2 ≤ bcF (m f)
  · exact (ha.1 q).det (hb.1 q)
  · rw [ha.2 q, hb.2 q]
def SetR (σ : Mem) (set : Int32) (nF nL : Nat) : Nat → Nat → Mw → Mw → Prop
  | 0, _, m, m' => m' = m
  | d + 1, f, m, m' => ∃ m1 : Mw, Sep σ set nF nL f m m1 ∧ SetR σ set nF nL d (f + 1) m1 m'
theorem SetR.det {σ : Mem} {set : Int32} {nF nL : Nat} : ∀ (d f : Nat) (m a b : Mw), SetR σ set nF nL d f m a → SetR σ set nF nL d f m b → a = b := by
  intro d
  induction d with
  | zero => intro f m a b ha hb; exact ha.trans hb.symm
  | succ d ih =>
    intro f m a b ha hb
    obtain ⟨a1, h1, h2⟩ := ha
    obtain ⟨b1, h3, h4⟩ := hb
    have := h1.det h3
    subst this
    exact ih (f + 1) a1 a b h2 h4
theorem ag_dq {σ ρ : Mem} {nF nL f q : Nat} (h : Agr σ ρ) (hL : LV σ nF nL) (hd : Dq σ nL f q) : Dq ρ nL f q := by
  have h30 := hL.2.1
  obtain ⟨j, hj, a, b, c, d, e⟩ := hd
  exact ⟨j, hj, (h 4 j (by decide) (by decide) (by omega)).symm.trans a, (h 6 j (by decide) (by decide) (by omega)).symm.trans b, (h 8 j (by decide) (by decide) (by omega)).symm.trans c, (h 7 j (by decide) (by decide) (by omega)).symm.trans d, (ag_ct h hL hj).mp e⟩
theorem ag_gq {σ ρ : Mem} {set : Int32} {nF nL f q : Nat} {m : Mw} (h : Agr σ ρ) (hL : LV σ nF nL) (hg : Gq σ set nF nL f m q) : Gq ρ set nF nL f m q := ⟨ag_dq h hL hg.1, hg.2.1, by rw [← (ag_mt h hL.2.1).2]; exact hg.2.2⟩
theorem ag_res {σ ρ : Mem} {set : Int32} {nF nL f : Nat} {m m' : Mw} (h : Agr σ ρ) (hL : LV σ nF nL) (hr : Res σ set nF nL f m m') : Res ρ set nF nL f m m' := by
  have hL2 := ag_lv h hL
  rcases hr with ⟨q, hq, gq, lq, eq⟩ | ⟨nq, eq⟩
  · exact Or.inl ⟨q, hq, ag_gq h hL gq, fun r hr2 z => lq r hr2 (ag_gq h.symm hL2 z), by rw [← (ag_mt h hL.2.1).1]; exact eq⟩
  · exact Or.inr ⟨fun r hr2 z => nq r hr2 (ag_gq h.symm hL2 z), eq⟩
theorem ag_set {σ ρ : Mem} {set : Int32} {nF nL : Nat} (h : Agr σ ρ) (hL : LV σ nF nL) : ∀ (d f : Nat) (m m' : Mw), SetR σ set nF nL d f m m' → SetR ρ set nF nL d f m m' := by
  intro d
  induction d with
  | zero => intro f m m' hs; exact hs
  | succ d ih =>
    intro f m m' hs
    obtain ⟨m1, h1, h2⟩ := hs
    exact ⟨m1, ⟨fun q => ag_res h hL (h1.1 q), h1.2⟩, ih _ _ _ h2⟩
