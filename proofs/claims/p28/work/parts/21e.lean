/-! THE REFERENCE: a meeting -/
theorem or_c {x r : Int32} {c : Bool} (hr : bl (c = true) r) (y : Int32) (hy : y = x ||| r) : (y = 0 ↔ x = 0 ∧ c = false) := by
  rw [hy, or_0]
  constructor
  · rintro ⟨h1, h2⟩
    refine ⟨h1, ?_⟩
    cases hc : c with
    | false => rfl
    | true => exact absurd hc (hr.f h2)
  · rintro ⟨h1, h2⟩
    refine ⟨h1, Classical.byContradiction fun z => ?_⟩
    have := hr.t z
    rw [h2] at this
    exact absurd this (by decide)
theorem s_meet_in {n c nF d : Nat} {post : Int32 → Mem → Prop} {kE : Int32 → Int32 → Int32 → Mem → Prop} {set : Int32} {τ : Mem} (h : LV (tm n τ) nF n) (hd : d < 7) :
    ∀ (k j : Nat) (x3 : Int32) (m : Mw), j + k = n → RW m → (∀ y : Int32, (y = 0 ↔ x3 = 0 ∧ psC (lnM (tm n τ)) (lnC (tm n τ)) set k j m = false) → kE (nI d) set y (put d (psM (lnM (tm n τ)) set k j m) τ)) →
    lp_5 (q_X8_meet_19 n c post kE) (k + 1) (nI d) set x3 (nI j) (put d m τ) := by
  have h30 := h.2.1
  intro k
  induction k with
  | zero =>
    intro j x3 m hj hm hp
    show q_X8_meet_19 _ _ _ _ _ _ _ _ _ _
    unfold q_X8_meet_19
    exact ⟨fun _ => hp x3 ⟨fun e => ⟨e, rfl⟩, fun e => e.1⟩, fun q => absurd (nI_le (by omega) (by omega)) q⟩
  | succ k ih =>
    intro j x3 m hj hm hp
    show q_X8_meet_19 _ _ _ _ _ _ _ _ _ _
    have hj2 : j < n := by omega
    have eT : ∀ m : Mw, tm n (put d m τ) = tm n τ := fun m => put_te.etm
    have eP : ∀ (m : Mw) (i : Nat), put d m τ (100 + j) i = τ (100 + j) i := fun m i => by rw [put_ne (by omega)]
    have hv := h.2.2.2.2 j hj2
    have hk6 : vp_in (τ (100 + j) 0) 6 := hv.2.1
    have nx : ∀ (y : Int32) (m' : Mw) (cc : Bool), RW m' → m' = stM (lnM (tm n τ)) set j m → cc = (if ((set >>> (nI j &&& 31)) &&& 1) = 0 then false else lnC (tm n τ) j m) → (y = 0 ↔ x3 = 0 ∧ cc = false) →
        q_X8_meet_108 n c post kE (lp_5 (q_X8_meet_19 n c post kE) (k + 1)) (nI d) set y (nI j) (put d m' τ) := fun y m' cc hm' em ec hy => by
      unfold q_X8_meet_108
      rintro _ rfl
      rw [nI_1]
      refine ih (j + 1) y m' (by omega) hm' (fun u hu => ?_)
      have := hp u
      unfold psC psM at this
      rw [← em, ← ec] at this
      refine this ?_
      rw [hu, hy]
      constructor
      · rintro ⟨⟨a, b⟩, b2⟩
        exact ⟨a, by rw [b, b2]; rfl⟩
      · rintro ⟨a, b⟩
        obtain ⟨b1, b2⟩ := (Bool.or_eq_false_iff).mp b
        exact ⟨⟨a, b1⟩, b2⟩
    unfold q_X8_meet_19
    refine ⟨fun q => absurd ((nI_leI (by omega) (by omega)).mp q) (by omega), fun _ => ⟨fun hb => ⟨j, ⟨hj2, rfl⟩, ?_⟩, fun hb => nx x3 m false hm (by unfold stM; rw [if_pos hb]) (by rw [if_pos hb]) ⟨fun e => ⟨e, rfl⟩, fun e => e.1⟩⟩⟩
    have hb : ¬ ((set >>> (nI j &&& 31)) &&& 1) = 0 := hb
    have eS : stM (lnM (tm n τ)) set j m = lnM (tm n τ) j m := by unfold stM; rw [if_neg hb]
    rw [eP m 0]
    refine ⟨fun h5 => ?_, fun h5 => ?_⟩
    · have h5 : ¬ τ (100 + j) 0 = 5 := h5
      have kd := kd_le2 hk6 h5
      obtain ⟨f, hf, ef, ef2⟩ := vin_idx (h.ab hj2)
      have ef : τ (100 + j) 2 = nI f := ef
      have ef2 : (tm n τ 6 j).toNatClampNeg = f := ef2
      have rP : row d (put d m τ) = m := row_put hm
      rw [eP m 2]
      refine s_takes (L := letA (tm n τ) j m) hd hf ef (by rw [rP]; exact hm) (fun po hpo => ?_) (fun r hr => ?_)
      · have := s_letsA (n := n) (c := c) (nF := nF) (j := j) (d := d) (post := po) (τ := put d m τ) (by rw [eT]; exact h) hj2 hd (by rw [eP]; exact h5) (by rw [rP]; exact hm) (by rw [eT, rP]; exact hpo)
        rw [eP m 2] at this
        exact this
      · rw [rP] at hr
        rw [rP, put_put]
        generalize hm1 : upd m f (m f &&& letA (tm n τ) j m) = m1
        have hm1R : RW m1 := by rw [← hm1]; exact upd_RW hm hf (and_s8 (hm.2 f))
        rintro _ rfl
        rw [eP m1 0]
        refine ⟨fun q => ?_, fun q => ?_⟩
        · have hn : ¬ (tm n τ 4 j = 3 ∨ tm n τ 4 j = 4) := (kd.1 q).1
          have e1 : lnM (tm n τ) j m = m1 := by rw [ln_one hn, ef2, hm1]
          have eC : lnC (tm n τ) j m = decide (¬ (m f &&& letA (tm n τ) j m) = m f) := by
            unfold lnC tkC
            rw [if_neg hn]
            have e2 : tkF (tm n τ 4 j) (tm n τ 6 j) (tm n τ 7 j) (tm n τ 8 j) m = m1 := e1
            rw [e2, ef2, ← hm1, upd_eq]
          refine nx _ m1 _ hm1R (by rw [eS, e1]) (by rw [if_neg hb]) (or_c (hr.iff ?_) _ rfl)
          rw [eC]
          simp
        · have h3 : tm n τ 4 j = 3 ∨ tm n τ 4 j = 4 := kd.2 q
          obtain ⟨g, hg, eg, eg2⟩ := vin_idx (h.two hj2 h3)
          have eg : τ (100 + j) 3 = nI g := eg
          have eg2 : (tm n τ 7 j).toNatClampNeg = g := eg2
          have hgf : ¬ g = f := fun z => by
            have := (hv.2.2.1 h3).2
            apply this
            show τ (100 + j) 3 = τ (100 + j) 2
            rw [eg, ef, z]
          have rP1 : row d (put d m1 τ) = m1 := row_put hm1R
          have e1f : m1 f = m f &&& letA (tm n τ) j m := by rw [← hm1, upd_eq]
          have e1g : m1 g = m g := by rw [← hm1, upd_ne hgf]
          rw [eP m1 3]
          refine s_takes (L := loF (tm n τ 4 j) (tm n τ 8 j) 1 (m1 f)) hd hg eg (by rw [rP1]; exact hm1R) (fun po hpo => ?_) (fun r2 hr2 => ?_)
          · have := s_letsB (n := n) (c := c) (nF := nF) (j := j) (d := d) (post := po) (τ := put d m1 τ) (by rw [eT]; exact h) hj2 hd (by rw [eP]; exact h3) (by rw [rP1]; exact hm1R) (by
              rw [eP, eP, eP, rP1]
              have e9 : (τ (100 + j) 2).toNatClampNeg = f := ef2
              rw [e9]
              exact hpo)
            rw [eP m1 3] at this
            exact this
          · rw [rP1] at hr2
            rw [rP1, put_put]
            generalize hm2 : upd m1 g (m1 g &&& loF (tm n τ 4 j) (tm n τ 8 j) 1 (m1 f)) = m2
            have hm2R : RW m2 := by rw [← hm2]; exact upd_RW hm1R hg (and_s8 (hm1R.2 g))
            have e1 : lnM (tm n τ) j m = m2 := by
              rw [ln_two h3, ef2, eg2, ← hm2, ← e1g, hm1]
            have eC : lnC (tm n τ) j m = (decide (¬ (m f &&& letA (tm n τ) j m) = m f) || decide (¬ (m1 g &&& loF (tm n τ 4 j) (tm n τ 8 j) 1 (m1 f)) = m1 g)) := by
              unfold lnC tkC
              rw [if_pos h3]
              have e2 : tkF (tm n τ 4 j) (tm n τ 6 j) (tm n τ 7 j) (tm n τ 8 j) m = m2 := e1
              rw [e2, ef2, eg2, ← e1f, e1g]
              have a1 : m2 f = m1 f := by rw [← hm2, upd_ne (fun z => hgf z.symm)]
              have a2 : m2 g = m1 g &&& loF (tm n τ 4 j) (tm n τ 8 j) 1 (m1 f) := by rw [← hm2, upd_eq]
              rw [a1, a2, e1g]
            rintro _ rfl
            refine nx _ m2 _ hm2R (by rw [eS, e1]) (by rw [if_neg hb]) ?_
            rw [eC]
            have o1 := or_c (c := decide (¬ (m f &&& letA (tm n τ) j m) = m f)) (x := x3) (hr.iff (by simp)) _ rfl
            have o2 := or_c (c := decide (¬ (m1 g &&& loF (tm n τ 4 j) (tm n τ 8 j) 1 (m1 f)) = m1 g)) (x := x3 ||| r) (hr2.iff (by simp)) _ rfl
            rw [o2, o1, Bool.or_eq_false_iff]
            exact and_assoc
    · have := ln_def (σ := tm n τ) (j := j) h5 hm
      exact nx x3 m false hm (by rw [eS, this.1]) (by rw [if_neg hb, this.2]) ⟨fun e => ⟨e, rfl⟩, fun e => e.1⟩
theorem s_meet {n c nF d : Nat} {post : Int32 → Mem → Prop} {set : Int32} {τ : Mem} (h : LV (tm n τ) nF n) (hd : d < 7) (hr : RW (row d τ)) (hp : post (mtC (tm n τ) set nF n (row d τ)) (put d (mtF (tm n τ) set nF n (row d τ)) τ)) : q_X8_meet n c post (nI d) set τ := by
  have h5 := h.1
  have h30 := h.2.1
  have eT : ∀ m : Mw, tm n (put d m τ) = tm n τ := fun m => put_te.etm
  have fin : ∀ m : Mw, RW m → post (emC m nF 0 0) (put d (finM nF m) τ) → q_X8_meet_117 n c post (nI d) (put d m τ) := fun m hm hp => by
    unfold q_X8_meet_117
    refine s_isEmpty (by rw [eT]; exact h) hd ?_
    rw [row_put hm]
    have key : ∀ (k f : Nat) (m' : Mw), f + k = 5 → (∀ i : Nat, i < f → m' i = 0) → RW m' → ¬ emC m nF 0 0 = 0 → lp_4 (q_X8_meet_127 n c post (q_X8_meet_156 n c post)) (k + 1) (nI d) (emC m nF 0 0) (nI f) (put d m' τ) := by
      intro k
      induction k with
      | zero =>
        intro f m' hf hm0 hm' he
        show q_X8_meet_127 _ _ _ _ _ _ _ _ _
        unfold q_X8_meet_127 q_X8_meet_156
        rw [show f = 5 by omega]
        refine ⟨fun _ => ⟨bz_of (emC_01 _ _ _ _ (Or.inl rfl)), ?_⟩, fun z => absurd (by decide) z⟩
        have e0 : m' = finM nF m := by
          unfold finM
          rw [if_neg he, fl_zero hm]
          funext i
          by_cases hi : i < 5
          · exact hm0 i (by omega)
          · exact hm'.1 i (by omega)
        rw [e0]
        exact hp
      | succ k ih =>
        intro f m' hf hm0 hm' he
        show q_X8_meet_127 _ _ _ _ _ _ _ _ _
        unfold q_X8_meet_127
        rw [ix5, c35 hd (by omega)]
        refine ⟨fun z => absurd ((nI_leI (a := 5) (b := f) (by decide) (by omega)).mp z) (by omega), fun _ => ⟨fun z => absurd z he, fun _ => ⟨v35 hd (by omega), ?_⟩⟩⟩
        rintro _ rfl _ rfl
        rw [nI_1, mst_put (by omega), put_put, row_put hm']
        refine ih (f + 1) _ (by omega) (fun i hi => ?_) (upd_RW hm' (by omega) (by decide)) he
        by_cases e : i = f
        · subst e; exact upd_eq
        · rw [upd_ne e]; exact hm0 i (by omega)
    by_cases he : emC m nF 0 0 = 0
    · refine ⟨1, ?_⟩
      show q_X8_meet_127 _ _ _ _ _ _ _ _ _
      unfold q_X8_meet_127 q_X8_meet_156
      have hb : bz (emC m nF 0 0) := by rw [he]; exact bz0
      have hp2 : post (emC m nF 0 0) (put d m τ) := by
        unfold finM at hp
        rwa [if_pos he] at hp
      exact ⟨fun _ => ⟨hb, hp2⟩, fun _ => ⟨fun _ => ⟨hb, hp2⟩, fun z => absurd he z⟩⟩
    · exact ⟨6, key 5 0 m rfl (fun i hi => absurd hi (Nat.not_lt_zero i)) hm he⟩
  have key : ∀ (k : Nat) (x3 : Int32) (m : Mw), RW m → ms m < k → (x3 = 0 → post (emC m nF 0 0) (put d (finM nF m) τ)) → (¬ x3 = 0 → post (emC (rrF (lnM (tm n τ)) (lnC (tm n τ)) set nF n k m) nF 0 0) (put d (finM nF (rrF (lnM (tm n τ)) (lnC (tm n τ)) set nF n k m)) τ)) →
      lp_4 (q_X8_meet_2 n c post (q_X8_meet_117 n c post)) (k + 1) (nI d) set x3 (put d m τ) := by
    intro k
    induction k with
    | zero => intro x3 m _ hk; omega
    | succ k ih =>
      intro x3 m hm hk h0 h1
      show q_X8_meet_2 _ _ _ _ _ _ _ _ _
      unfold q_X8_meet_2
      refine ⟨fun q => fin m hm (h0 q), fun q => s_isEmpty (by rw [eT]; exact h) hd ?_⟩
      rw [row_put hm]
      replace h1 := h1 q
      unfold rrF at h1
      refine ⟨fun e => fin m hm (by rwa [if_pos e] at h1), fun e => ⟨n + 1, ?_⟩⟩
      rw [if_neg (fun z => z e)] at h1
      have p := ps_sh (set := set) h n 0 m (Nat.zero_add _) hm
      refine s_meet_in h hd n 0 0 m (Nat.zero_add _) hm (fun y hy => ?_)
      unfold q_X8_meet_114
      by_cases hc : psC (lnM (tm n τ)) (lnC (tm n τ)) set n 0 m = true
      · rw [if_pos hc] at h1
        have hy0 : ¬ y = 0 := fun z => by
          have := (hy.mp z).2
          rw [hc] at this
          exact absurd this (by decide)
        exact ih y _ p.1.2.2 (by have := p.2.1 hc; omega) (fun z => absurd z hy0) (fun _ => h1)
      · rw [if_neg hc] at h1
        have hc0 : psC (lnM (tm n τ)) (lnC (tm n τ)) set n 0 m = false := by
          cases hh : psC (lnM (tm n τ)) (lnC (tm n τ)) set n 0 m with
          | false => rfl
          | true => exact absurd hh hc
        have hy0 : y = 0 := hy.mpr ⟨rfl, hc0⟩
        show q_X8_meet_2 _ _ _ _ _ _ _ _ _
        unfold q_X8_meet_2
        exact ⟨fun _ => fin _ p.1.2.2 h1, fun z => absurd hy0 z⟩
  have q := rr_eq (set := set) h 41 (row d τ) hr (Nat.lt_of_le_of_lt (ms_40 _) (by decide))
  unfold q_X8_meet
  refine ⟨42, ?_⟩
  have := key 41 1 (row d τ) hr (Nat.lt_of_le_of_lt (ms_40 _) (by decide)) (fun z => absurd z (by decide)) (fun _ => by
    rw [q.1, q.2]
    exact hp)
  rwa [put_row] at this
theorem s_meetAnew {n c nF d : Nat} {post : Int32 → Mem → Prop} {set : Int32} {τ : Mem} (h : LV (tm n τ) nF n) (hd : d < 7) (hp : post (mtC (tm n τ) set nF n full) (put d (mtF (tm n τ) set nF n full) τ)) : q_X8_meetAnew n c post (nI d) set τ := by
  unfold q_X8_meetAnew
  refine s_begin8 hd (s_meet (by rw [put_te.etm]; exact h) hd (by rw [row_put full_RW]; exact full_RW) ?_)
  rw [put_te.etm, row_put full_RW, put_put]
  exact ⟨bz_of (emC_01 _ _ _ _ (Or.inl rfl)), hp⟩
/-- all lines that count, met -/
def aM (σ : Mem) (nF nL : Nat) : Mw := mtF σ (stF σ nL 0 0) nF nL full
def aC (σ : Mem) (nF nL : Nat) : Int32 := mtC σ (stF σ nL 0 0) nF nL full
theorem aM_RW {σ : Mem} {nF nL : Nat} (h : LV σ nF nL) : RW (aM σ nF nL) := mt_RW h full_RW
theorem aC_01 (σ : Mem) (nF nL : Nat) : aC σ nF nL = 0 ∨ aC σ nF nL = 1 := emC_01 _ _ _ _ (Or.inl rfl)
theorem s_isContradiction {n c nF : Nat} {post : Int32 → Mem → Prop} {τ : Mem} (h : LV (tm n τ) nF n) (hp : post (aC (tm n τ) nF n) (put 0 (aM (tm n τ) nF n) τ)) : q_X8_isContradiction n c post τ := by
  unfold q_X8_isContradiction
  exact s_counting h (s_meetAnew (d := 0) h (by decide) ⟨bz_of (aC_01 _ _ _), hp⟩)
theorem s_mayBe {n c nF f : Nat} {post : Int32 → Mem → Prop} {τ : Mem} (h : LV (tm n τ) nF n) (hf : f < 5) (hp : post (aM (tm n τ) nF n f) (put 0 (aM (tm n τ) nF n) τ)) : q_X8_mayBe n c post (nI f) τ := by
  unfold q_X8_mayBe
  refine s_counting h (s_meetAnew (d := 0) h (by decide) (s_setOf (d := 0) (by decide) hf ?_))
  have e : row 0 (put 0 (mtF (tm n τ) (stF (tm n τ) n 0 0) nF n full) τ) = aM (tm n τ) nF n := row_put (aM_RW h)
  rw [e]
  exact hp
