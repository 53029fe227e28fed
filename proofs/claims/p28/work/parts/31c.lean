/-! WHAT STANDS BEHIND FIVE IS NO MATTER -/
theorem cp_lt {m g : Mw} {f : Nat} (hf : f < 5) : cp5 m g f = m f := if_pos hf
theorem cp_upd {m g : Mw} {f : Nat} {x : Int32} (hf : f < 5) : upd (cp5 m g) f x = cp5 (upd m f x) g := by
  funext i
  by_cases e : i = f
  · subst e; rw [upd_eq, cp_lt hf, upd_eq]
  · rw [upd_ne e]
    unfold cp5
    by_cases q : i < 5
    · rw [if_pos q, if_pos q, upd_ne e]
    · rw [if_neg q, if_neg q]
theorem cp_ln {σ : Mem} {nF nL j : Nat} {m g : Mw} (h : LV σ nF nL) (hj : j < nL) : lnM σ j (cp5 m g) = cp5 (lnM σ j m) g ∧ lnC σ j (cp5 m g) = lnC σ j m := by
  have ha := vin_lt (h.ab hj)
  have e1 : lnM σ j (cp5 m g) = cp5 (lnM σ j m) g := by
    unfold lnM tkF
    by_cases k : σ 4 j = 3 ∨ σ 4 j = 4
    · have hs := vin_lt (h.two hj k)
      rw [if_pos k, if_pos k, cp_lt ha, cp_lt hs, cp_upd ha, cp_lt ha, cp_upd hs]
    · rw [if_neg k, if_neg k, cp_lt ha, cp_upd ha]
  refine ⟨e1, ?_⟩
  have e2 : tkF (σ 4 j) (σ 6 j) (σ 7 j) (σ 8 j) (cp5 m g) = cp5 (tkF (σ 4 j) (σ 6 j) (σ 7 j) (σ 8 j) m) g := e1
  unfold lnC tkC
  by_cases k : σ 4 j = 3 ∨ σ 4 j = 4
  · have hs := vin_lt (h.two hj k)
    rw [if_pos k, if_pos k, e2, cp_lt ha, cp_lt hs, cp_lt ha, cp_lt hs]
  · rw [if_neg k, if_neg k, e2, cp_lt ha, cp_lt ha]
theorem cp_ps {T : Nat → Mw → Mw} {C : Nat → Mw → Bool} {set : Int32} {N : Nat} {g : Mw} (h : ∀ (j : Nat) (m : Mw), j < N → T j (cp5 m g) = cp5 (T j m) g ∧ C j (cp5 m g) = C j m) : ∀ (d j : Nat) (m : Mw), j + d ≤ N → psM T set d j (cp5 m g) = cp5 (psM T set d j m) g ∧ psC T C set d j (cp5 m g) = psC T C set d j m := by
  intro d
  induction d with
  | zero => intro j m _; exact ⟨rfl, rfl⟩
  | succ d ih =>
    intro j m hj
    obtain ⟨e1, e2⟩ := h j m (by omega)
    have es : stM T set j (cp5 m g) = cp5 (stM T set j m) g := by
      unfold stM
      by_cases q : ((set >>> (nI j &&& 31)) &&& 1) = 0
      · rw [if_pos q, if_pos q]
      · rw [if_neg q, if_neg q, e1]
    rw [ps_eq (T' := T), ps_eq (T' := T), pc_eq (T' := T), pc_eq (T' := T), es, e2]
    obtain ⟨p1, p2⟩ := ih (j + 1) (stM T set j m) (by omega)
    exact ⟨p1, by rw [p2]⟩
theorem cp_rn {T : Nat → Mw → Mw} {C : Nat → Mw → Bool} {set : Int32} {N : Nat} {g : Mw} (h : ∀ (j : Nat) (m : Mw), j < N → T j (cp5 m g) = cp5 (T j m) g ∧ C j (cp5 m g) = C j m) : ∀ (k : Nat) (m : Mw), rnF T C set N k (cp5 m g) = cp5 (rnF T C set N k m) g := by
  intro k
  induction k with
  | zero => intro m; rfl
  | succ k ih =>
    intro m
    obtain ⟨e1, e2⟩ := cp_ps (set := set) h N 0 m (by omega)
    unfold rnF
    rw [e1, e2, ih]
    split <;> rfl
theorem cp_em {m g : Mw} : ∀ (d f : Nat) (c : Int32), f + d ≤ 5 → emC (cp5 m g) d f c = emC m d f c := by
  intro d
  induction d with
  | zero => intro f c _; rfl
  | succ d ih =>
    intro f c hf
    unfold emC
    rw [cp_lt (by omega), ih (f + 1) _ (by omega)]
theorem cp_mt {σ : Mem} {set : Int32} {nF nL : Nat} {m g : Mw} (h : LV σ nF nL) : mtF σ set nF nL (cp5 m g) = cp5 (mtF σ set nF nL m) g ∧ mtC σ set nF nL (cp5 m g) = mtC σ set nF nL m := by
  have h5 := h.1
  have e := cp_rn (T := lnM σ) (C := lnC σ) (set := set) (N := nL) (g := g) (fun j m hj => cp_ln h hj) 41 m
  constructor
  · unfold mtF finM
    rw [e, cp_em _ _ _ (by omega)]
    split
    · rfl
    · funext i
      unfold fl_row cp5
      by_cases q : i < 5
      · simp only [if_pos q]
      · simp only [if_neg q]
  · unfold mtC
    rw [e, cp_em _ _ _ (by omega)]
theorem cp_cp {a b g : Mw} (ha : ∀ i : Nat, 5 ≤ i → a i = 0) (hb : ∀ i : Nat, 5 ≤ i → b i = 0) : cp5 (cp5 a g) b = a := by
  funext i
  unfold cp5
  by_cases h : i < 5
  · rw [if_pos h, if_pos h]
  · rw [if_neg h, hb i (by omega), ha i (by omega)]
/-! THE CLASS: settles so -/
/-- a memory at which told stands as in σ, the settled row is m -/
def Js (σ : Mem) (m : Mw) (ρ : Mem) : Prop := (∀ p : Nat, p ≤ 10 → ρ p = σ p) ∧ ρ 11 = σ 11 ∧ ρ 17 = m
theorem ty_RW {m : Mw} {f q : Nat} (h : RW m) (hf : f < 5) : RW (tyM m f q) := upd_RW h hf (one_s8 _ (Nat.mod_lt _ (by decide)))
theorem cp_row {a b : Mw} (ha : ∀ i : Nat, 5 ≤ i → a i = 0) (hb : ∀ i : Nat, 5 ≤ i → b i = 0) : cp5 a b = a := by
  funext i
  unfold cp5
  by_cases h : i < 5
  · rw [if_pos h]
  · rw [if_neg h, hb i (by omega), ha i (by omega)]
theorem try_j {σ ρ : Mem} {nF nL f i : Nat} {m : Mw} (hL : LV σ nF nL) (hm : RW m) (hf : f < 5) (hi : i < 8) (h : Js σ m ρ) :
    Js σ m (tryM nF nL f i ρ) ∧ tryM nF nL f i ρ 15 = cp5 (mtF σ (σ 11 6) nF nL (tyM m f i)) (ρ 15) ∧ tryM nF nL f i ρ 14 2 = mtC σ (σ 11 6) nF nL (tyM m f i) := by
  obtain ⟨h1, h2, h3⟩ := h
  have hty := ty_RW (q := i) hm hf
  have ei : i % 8 = i := Nat.mod_eq_of_lt hi
  have e1 : (mst (cyM 14 15 16 17 ρ) 15 f ((1 : Int32) <<< (nI i &&& 31))) 15 = cp5 (tyM m f i) (ρ 15) := by
    unfold cyM tyM
    rw [mst_eq, mst_ne (show (15 : Nat) ≠ 14 by decide), mup_eq, h3, ei, cp_upd hf]
  have e2 : ∀ p : Nat, p ≠ 14 → p ≠ 15 → (mst (cyM 14 15 16 17 ρ) 15 f ((1 : Int32) <<< (nI i &&& 31))) p = ρ p := fun p a b => by
    rw [mst_ne b, cyM_fr a b]
  have e3 : ∀ p : Nat, p ≤ 10 → (mst (cyM 14 15 16 17 ρ) 15 f ((1 : Int32) <<< (nI i &&& 31))) p = σ p := fun p hp => (e2 p (by omega) (by omega)).trans (h1 p hp)
  have e11 : ρ 11 6 = σ 11 6 := by rw [h2]
  have r15 : tryM nF nL f i ρ 15 = cp5 (mtF σ (σ 11 6) nF nL (tyM m f i)) (ρ 15) := by
    unfold tryM goM
    rw [mst_ne (by decide), mup_eq, e1, mtF_sm e3, e11, (cp_mt hL).1]
  have r14 : tryM nF nL f i ρ 14 2 = mtC σ (σ 11 6) nF nL (tyM m f i) := by
    unfold tryM goM
    rw [mst_eq, upd_eq, e1, mtC_sm e3, e11, (cp_mt hL).2]
  refine ⟨⟨fun p hp => (tryM_fr (Or.inl (Or.inl (by omega)))).trans (h1 p hp), (tryM_fr (Or.inl (Or.inl (by decide)))).trans h2, (tryM_fr (Or.inr (Or.inr rfl))).trans h3⟩, r15, r14⟩
/-- no place before q is good -/
abbrev NoG (σ : Mem) (nF nL f : Nat) (m : Mw) (q : Nat) : Prop := ∀ r : Nat, r < q → ¬ Gq σ (σ 11 6) nF nL f m r
theorem td_num {σ : Mem} {nF nL f r : Nat} {m : Mw} {nums : Int32} (hL : LV σ nF nL) (hm : RW m) (hf : f < 5) (hr : r < 10) (hn : ∀ i : Nat, i < 8 → (hasB nums (nI i) ↔ Dq σ nL f ((9 - r) * 8 + i) ∧ hasB (m f) (nI i))) :
    ∀ (d i : Nat) (ρ : Mem), i + d = 8 → Js σ m ρ → NoG σ nF nL f m ((9 - r) * 8 + i) →
      ((tdN nF nL f nums d i ρ).1 = true → ∃ m' : Mw, Res σ (σ 11 6) nF nL f m m' ∧ Js σ m' (tdN nF nL f nums d i ρ).2 ∧ RW m') ∧
      ((tdN nF nL f nums d i ρ).1 = false → Js σ m (tdN nF nL f nums d i ρ).2 ∧ NoG σ nF nL f m ((9 - r) * 8 + 8)) := by
  intro d
  induction d with
  | zero =>
    intro i ρ hi hj hg
    refine ⟨fun z => absurd z (by show ¬ false = true; decide), fun _ => ⟨hj, ?_⟩⟩
    rw [show i = 8 by omega] at hg
    exact hg
  | succ d ih =>
    intro i ρ hi hj hg
    have hi8 : i < 8 := by omega
    have em : ((9 - r) * 8 + i) % 8 = i := by omega
    have nx : ¬ Gq σ (σ 11 6) nF nL f m ((9 - r) * 8 + i) → NoG σ nF nL f m ((9 - r) * 8 + (i + 1)) := fun hn1 q hq => by
      rcases Nat.lt_or_ge q ((9 - r) * 8 + i) with z | z
      · exact hg q z
      · rw [show q = (9 - r) * 8 + i by omega]; exact hn1
    unfold tdN
    by_cases hb : ((nums >>> (nI i &&& 31)) &&& 1) = 0
    · rw [if_pos hb]
      refine ih (i + 1) ρ (by omega) hj (nx (fun z => ?_))
      have := (hn i hi8).mpr ⟨z.1, by have := z.2.1; rwa [em] at this⟩
      exact this hb
    · rw [if_neg hb]
      obtain ⟨t1, t2, t3⟩ := try_j hL hm hf hi8 hj
      have ety : tyM m f ((9 - r) * 8 + i) = tyM m f i := by unfold tyM; rw [em, Nat.mod_eq_of_lt hi8]
      have hd := (hn i hi8).mp hb
      by_cases hc : tryM nF nL f i ρ 14 2 = 0
      · rw [if_pos hc]
        refine ⟨fun _ => ⟨mtF σ (σ 11 6) nF nL (tyM m f i), Or.inl ⟨(9 - r) * 8 + i, by omega, ⟨hd.1, by rw [em]; exact hd.2, by rw [ety, ← t3]; exact hc⟩, hg, by rw [ety]⟩, ?_, mt_RW hL (ty_RW hm hf)⟩, fun z => absurd z (by show ¬ true = false; decide)⟩
        obtain ⟨j1, j2, j3⟩ := t1
        refine ⟨fun p hp => (cyM_fr (by omega) (by omega)).trans (j1 p hp), (cyM_fr (pm := 16) (pa := 17) (po := 14) (pb := 15) (by decide) (by decide)).trans j2, ?_⟩
        show cyM 16 17 14 15 (tryM nF nL f i ρ) 17 = _
        unfold cyM
        rw [mst_ne (by decide), mup_eq, t2, j3, cp_cp (mt_RW hL (ty_RW hm hf)).1 hm.1]
      · rw [if_neg hc]
        exact ih (i + 1) _ (by omega) t1 (nx (fun z => hc (by rw [t3, ← ety]; exact z.2.2)))
theorem td_rank {σ : Mem} {nF nL f : Nat} {m : Mw} (hL : LV σ nF nL) (hm : RW m) (hf : f < 5) :
    ∀ (r : Nat) (ρ : Mem), r ≤ 10 → Js σ m ρ → NoG σ nF nL f m ((10 - r) * 8) → ∃ m' : Mw, Res σ (σ 11 6) nF nL f m m' ∧ Js σ m' (tdR nF nL f r ρ) ∧ RW m' := by
  intro r
  induction r with
  | zero =>
    intro ρ hr hj hg
    exact ⟨m, Or.inr ⟨hg, rfl⟩, hj, hm⟩
  | succ r ih =>
    intro ρ hr hj hg
    have e9 : (10 - (r + 1)) * 8 = (9 - r) * 8 + 0 := by omega
    rw [e9] at hg
    have hn : ∀ i : Nat, i < 8 → (hasB (dfF ρ f (nI r) nL 0 0 &&& ρ 17 f) (nI i) ↔ Dq σ nL f ((9 - r) * 8 + i) ∧ hasB (m f) (nI i)) := fun i hi => by
      rw [hasB_and hi, hj.2.2, dfF_sm hj.1, dfF_bit hL hi nL 0 0 (Nat.zero_add _)]
      refine and_congr ?_ Iff.rfl
      unfold Dq
      rw [show 9 - ((9 - r) * 8 + i) / 8 = r by omega, show ((9 - r) * 8 + i) % 8 = i by omega]
      constructor
      · rintro (h | ⟨k, -, h2, h3⟩)
        · exact absurd h (hasB_0 hi)
        · exact ⟨k, h2, h3⟩
      · rintro ⟨k, h2, h3⟩
        exact Or.inr ⟨k, Nat.zero_le _, h2, h3⟩
    obtain ⟨t1, t2⟩ := td_num hL hm hf (by omega) hn 8 0 ρ rfl hj hg
    unfold tdR
    by_cases q : (tdN nF nL f (dfF ρ f (nI r) nL 0 0 &&& ρ 17 f) 8 0 ρ).1 = true
    · rw [if_pos q]; exact t1 q
    · rw [if_neg q]
      have q2 : (tdN nF nL f (dfF ρ f (nI r) nL 0 0 &&& ρ 17 f) 8 0 ρ).1 = false := by
        cases hh : (tdN nF nL f (dfF ρ f (nI r) nL 0 0 &&& ρ 17 f) 8 0 ρ).1 with
        | true => exact absurd hh q
        | false => rfl
      obtain ⟨u1, u2⟩ := t2 q2
      exact ih _ (by omega) u1 (by rw [show (10 - r) * 8 = (9 - r) * 8 + 8 by omega]; exact u2)
theorem lt_2 (x : Int32) : (1 < x) ↔ (2 ≤ x) := by
  rw [Int32.lt_iff_toInt_lt, Int32.le_iff_toInt_le]
  have e1 : (1 : Int32).toInt = 1 := by decide
  have e2 : (2 : Int32).toInt = 2 := by decide
  omega
theorem td_sep {σ ρ : Mem} {nF nL f : Nat} {m : Mw} (hL : LV σ nF nL) (hm : RW m) (hf : f < 5) (hj : Js σ m ρ) : ∃ m' : Mw, Sep σ (σ 11 6) nF nL f m m' ∧ Js σ m' (tdF nF nL f ρ) ∧ RW m' := by
  unfold tdF
  rw [hj.2.2]
  by_cases q : 1 < bcF (m f)
  · rw [if_pos q]
    obtain ⟨m', h1, h2, h3⟩ := td_rank hL hm hf 10 ρ (Nat.le_refl _) hj (fun r hr => absurd hr (by omega))
    exact ⟨m', ⟨fun _ => h1, fun z => absurd ((lt_2 _).mp q) z⟩, h2, h3⟩
  · rw [if_neg q]
    exact ⟨m, ⟨fun z => absurd ((lt_2 _).mpr z) q, fun _ => rfl⟩, hj, hm⟩
theorem se_set {σ : Mem} {nF nL : Nat} (hL : LV σ nF nL) : ∀ (d f : Nat) (m : Mw) (ρ : Mem), f + d ≤ 5 → RW m → Js σ m ρ → ∃ m' : Mw, SetR σ (σ 11 6) nF nL d f m m' ∧ Js σ m' (seF nF nL d f ρ) ∧ RW m' := by
  intro d
  induction d with
  | zero => intro f m ρ _ hm hj; exact ⟨m, rfl, hj, hm⟩
  | succ d ih =>
    intro f m ρ hf hm hj
    obtain ⟨m1, h1, h2, h3⟩ := td_sep hL hm (show f < 5 by omega) hj
    obtain ⟨m2, k1, k2, k3⟩ := ih (f + 1) m1 _ (by omega) h3 h2
    exact ⟨m2, ⟨m1, h1, k1⟩, k2, k3⟩
