/-! A MEETING ENDS: sets become less -/
def pcN (i : Nat) : Nat := (i.testBit 0).toNat + (i.testBit 1).toNat + (i.testBit 2).toNat + (i.testBit 3).toNat + (i.testBit 4).toNat + (i.testBit 5).toNat + (i.testBit 6).toNat + (i.testBit 7).toNat
theorem b_le (a b : Bool) : (a && b).toNat ≤ a.toNat := by cases a <;> cases b <;> decide
theorem b_eq {a b : Bool} (h : ¬ (a && b).toNat < a.toNat) : (a && b) = a := by
  cases a <;> cases b <;> first | rfl | exact absurd (by decide) h
theorem pc_le (i k : Nat) : pcN (i &&& k) ≤ pcN i := by
  unfold pcN
  simp only [Nat.testBit_and]
  have h := fun t => b_le (i.testBit t) (k.testBit t)
  have h0 := h 0; have h1 := h 1; have h2 := h 2; have h3 := h 3; have h4 := h 4; have h5 := h 5; have h6 := h 6; have h7 := h 7
  omega
theorem pc_lt {i k : Nat} (hi : i < 256) (hn : ¬ i &&& k = i) : pcN (i &&& k) < pcN i := by
  refine Nat.lt_of_not_le (fun hle => hn ?_)
  unfold pcN at hle
  simp only [Nat.testBit_and] at hle
  have h := fun t => b_le (i.testBit t) (k.testBit t)
  have h0 := h 0; have h1 := h 1; have h2 := h 2; have h3 := h 3; have h4 := h 4; have h5 := h 5; have h6 := h 6; have h7 := h 7
  have e : ∀ t : Nat, t < 8 → (i.testBit t && k.testBit t) = i.testBit t := by
    intro t ht
    rcases (show t = 0 ∨ t = 1 ∨ t = 2 ∨ t = 3 ∨ t = 4 ∨ t = 5 ∨ t = 6 ∨ t = 7 by omega) with rfl | rfl | rfl | rfl | rfl | rfl | rfl | rfl <;> exact b_eq (by omega)
  apply Nat.eq_of_testBit_eq
  intro t
  rw [Nat.testBit_and]
  by_cases ht : t < 8
  · exact e t ht
  · have : i.testBit t = false := Nat.testBit_lt_two_pow (Nat.lt_of_lt_of_le hi (by
      calc 256 = 2 ^ 8 := rfl
        _ ≤ 2 ^ t := Nat.pow_le_pow_right (by decide) (by omega)))
    rw [this]
    rfl
theorem pc_8 (i : Nat) : pcN i ≤ 8 := by
  unfold pcN
  have h := fun t => Bool.toNat_le (i.testBit t)
  have h0 := h 0; have h1 := h 1; have h2 := h 2; have h3 := h 3; have h4 := h 4; have h5 := h 5; have h6 := h 6; have h7 := h 7
  omega
theorem nI_and (i k : Nat) : nI i &&& nI k = nI (i &&& k) := by
  apply Int32.toBitVec_inj.mp
  show BitVec.ofNat 32 i &&& BitVec.ofNat 32 k = BitVec.ofNat 32 (i &&& k)
  apply BitVec.eq_of_toNat_eq
  rw [BitVec.toNat_and, BitVec.toNat_ofNat, BitVec.toNat_ofNat, BitVec.toNat_ofNat, Nat.and_mod_two_pow]
def pc (x : Int32) : Nat := pcN x.toNatClampNeg
theorem pc_and {x y : Int32} (h : x &&& 255 = x) : pc (x &&& y) ≤ pc x ∧ (¬ x &&& y = x → pc (x &&& y) < pc x) := by
  obtain ⟨i, hi, rfl⟩ := s8_ex h
  have e : nI i &&& y = nI i &&& (y &&& 255) := by
    rw [Int32.and_comm y 255, ← Int32.and_assoc, h]
  have hy : (y &&& 255) &&& 255 = y &&& 255 := by rw [Int32.and_assoc]; rfl
  obtain ⟨k, hk, ek⟩ := s8_ex hy
  rw [e, ek, nI_and]
  have hik : i &&& k ≤ i := Nat.and_le_left
  unfold pc
  rw [nI_clamp (show i < 2 ^ 31 by omega), nI_clamp (show i &&& k < 2 ^ 31 by omega)]
  exact ⟨pc_le i k, fun hn => pc_lt hi (fun z => hn (by rw [z]))⟩
/-- how many numbers there are in a row -/
def ms (m : Mw) : Nat := pc (m 0) + pc (m 1) + pc (m 2) + pc (m 3) + pc (m 4)
theorem ms_40 (m : Mw) : ms m ≤ 40 := by
  unfold ms pc
  have h := fun t => pc_8 (m t).toNatClampNeg
  have h0 := h 0; have h1 := h 1; have h2 := h 2; have h3 := h 3; have h4 := h 4
  omega
/-- a row that became less -/
def Sh (m m' : Mw) : Prop := ms m' ≤ ms m ∧ (∀ f : Nat, m f = 0 → m' f = 0) ∧ RW m'
theorem Sh.rf {m : Mw} (h : RW m) : Sh m m := ⟨Nat.le_refl _, fun _ h => h, h⟩
theorem Sh.trans {m m' m'' : Mw} (h : Sh m m') (h2 : Sh m' m'') : Sh m m'' := ⟨Nat.le_trans h2.1 h.1, fun f e => h2.2.1 f (h.2.1 f e), h2.2.2⟩
theorem sh_upd {m : Mw} {f : Nat} {a : Int32} (h : RW m) (hf : f < 5) : Sh m (upd m f (m f &&& a)) ∧ (¬ m f &&& a = m f → ms (upd m f (m f &&& a)) < ms m) := by
  obtain ⟨p1, p2⟩ := pc_and (y := a) (h.2 f)
  have e : ∀ i : Nat, i ≠ f → upd m f (m f &&& a) i = m i := fun i hi => upd_ne hi
  have e2 : upd m f (m f &&& a) f = m f &&& a := upd_eq
  have key : ms (upd m f (m f &&& a)) + pc (m f) = ms m + pc (m f &&& a) := by
    unfold ms
    rcases (show f = 0 ∨ f = 1 ∨ f = 2 ∨ f = 3 ∨ f = 4 by omega) with rfl | rfl | rfl | rfl | rfl
    · rw [e2, e 1 (by decide), e 2 (by decide), e 3 (by decide), e 4 (by decide)]; omega
    · rw [e2, e 0 (by decide), e 2 (by decide), e 3 (by decide), e 4 (by decide)]; omega
    · rw [e2, e 0 (by decide), e 1 (by decide), e 3 (by decide), e 4 (by decide)]; omega
    · rw [e2, e 0 (by decide), e 1 (by decide), e 2 (by decide), e 4 (by decide)]; omega
    · rw [e2, e 0 (by decide), e 1 (by decide), e 2 (by decide), e 3 (by decide)]; omega
  refine ⟨⟨by omega, fun i hi => ?_, upd_RW h hf (and_s8 (h.2 f))⟩, fun hn => ?_⟩
  · by_cases q : i = f
    · subst q; rw [e2, hi]; exact Int32.zero_and
    · rw [e i q]; exact hi
  · have := p2 hn
    omega
theorem ln_sh {σ : Mem} {j nF nL : Nat} {m : Mw} (h : LV σ nF nL) (hj : j < nL) (hm : RW m) : Sh m (lnM σ j m) ∧ (lnC σ j m = true → ms (lnM σ j m) < ms m) ∧ (lnC σ j m = false → lnM σ j m = m) := by
  have ha := vin_lt (h.ab hj)
  by_cases hk : σ 4 j = 3 ∨ σ 4 j = 4
  · have hs := vin_lt (h.two hj hk)
    have hne : ¬ (σ 7 j).toNatClampNeg = (σ 6 j).toNatClampNeg := fun z => by
      obtain ⟨a, ha5, ea⟩ := vin_ex (by decide) (h.ab hj)
      obtain ⟨b, hb5, eb⟩ := vin_ex (by decide) (h.two hj hk)
      have hne2 := ((h.2.2.2.2 j hj).2.2.1 hk).2
      rw [ea, eb, nI_clamp (by omega), nI_clamp (by omega)] at z
      exact hne2 (by rw [ea, eb, z])
    have e0 := ln_two (m := m) hk
    have eC : lnC σ j m = (decide (¬ lnM σ j m (σ 6 j).toNatClampNeg = m (σ 6 j).toNatClampNeg) || decide (¬ lnM σ j m (σ 7 j).toNatClampNeg = m (σ 7 j).toNatClampNeg)) := by
      unfold lnC tkC
      rw [if_pos hk]
      rfl
    generalize letA σ j m = a at e0
    generalize hm1 : upd m (σ 6 j).toNatClampNeg (m (σ 6 j).toNatClampNeg &&& a) = m1 at e0
    generalize loF (σ 4 j) (σ 8 j) 1 (m1 (σ 6 j).toNatClampNeg) = b at e0
    have e1 : m1 (σ 7 j).toNatClampNeg = m (σ 7 j).toNatClampNeg := by rw [← hm1, upd_ne hne]
    rw [← e1] at e0
    obtain ⟨s1, t1⟩ := sh_upd (f := (σ 6 j).toNatClampNeg) (a := a) hm ha
    rw [hm1] at s1 t1
    obtain ⟨s2, t2⟩ := sh_upd (f := (σ 7 j).toNatClampNeg) (a := b) s1.2.2 hs
    rw [← e0] at s2 t2
    have f1 : lnM σ j m (σ 6 j).toNatClampNeg = m (σ 6 j).toNatClampNeg &&& a := by
      rw [e0, upd_ne (fun z => hne z.symm), ← hm1, upd_eq]
    have f2 : lnM σ j m (σ 7 j).toNatClampNeg = m1 (σ 7 j).toNatClampNeg &&& b := by rw [e0, upd_eq]
    rw [f1, f2, ← e1] at eC
    refine ⟨s1.trans s2, fun hc => ?_, fun hc => ?_⟩
    · rw [eC] at hc
      rcases (Bool.or_eq_true _ _).mp hc with q | q
      · have := t1 (of_decide_eq_true q)
        have := s2.1
        omega
      · have := t2 (of_decide_eq_true q)
        have := s1.1
        omega
    · rw [eC] at hc
      obtain ⟨q1, q2⟩ := (Bool.or_eq_false_iff).mp hc
      have q1 : m (σ 6 j).toNatClampNeg &&& a = m (σ 6 j).toNatClampNeg := Classical.byContradiction (of_decide_eq_false q1)
      have q2 : m1 (σ 7 j).toNatClampNeg &&& b = m1 (σ 7 j).toNatClampNeg := Classical.byContradiction (of_decide_eq_false q2)
      rw [e0, q2, upd_self, ← hm1, q1, upd_self]
  · have e0 := ln_one (m := m) hk
    have eC : lnC σ j m = decide (¬ lnM σ j m (σ 6 j).toNatClampNeg = m (σ 6 j).toNatClampNeg) := by
      unfold lnC tkC
      rw [if_neg hk]
      rfl
    generalize letA σ j m = a at e0
    obtain ⟨s1, t1⟩ := sh_upd (f := (σ 6 j).toNatClampNeg) (a := a) hm ha
    rw [← e0] at s1 t1
    have f1 : lnM σ j m (σ 6 j).toNatClampNeg = m (σ 6 j).toNatClampNeg &&& a := by rw [e0, upd_eq]
    rw [f1] at eC
    refine ⟨s1, fun hc => ?_, fun hc => ?_⟩
    · rw [eC] at hc
      exact t1 (of_decide_eq_true hc)
    · rw [eC] at hc
      have q1 : m (σ 6 j).toNatClampNeg &&& a = m (σ 6 j).toNatClampNeg := Classical.byContradiction (of_decide_eq_false hc)
      rw [e0, q1, upd_self]
theorem ps_sh {σ : Mem} {nF nL : Nat} {set : Int32} (h : LV σ nF nL) : ∀ (d j : Nat) (m : Mw), j + d = nL → RW m → Sh m (psM (lnM σ) set d j m) ∧ (psC (lnM σ) (lnC σ) set d j m = true → ms (psM (lnM σ) set d j m) < ms m) ∧ (psC (lnM σ) (lnC σ) set d j m = false → psM (lnM σ) set d j m = m) := by
  intro d
  induction d with
  | zero => intro j m _ hm; exact ⟨Sh.rf hm, fun z => absurd (show false = true from z) (by decide), fun _ => rfl⟩
  | succ d ih =>
    intro j m hj hm
    unfold psC psM stM
    by_cases hb : ((set >>> (nI j &&& 31)) &&& 1) = 0
    · rw [if_pos hb, if_pos hb]
      obtain ⟨i1, i2, i3⟩ := ih (j + 1) m (by omega) hm
      exact ⟨i1, fun z => i2 (by simpa using z), fun z => i3 (by simpa using z)⟩
    · rw [if_neg hb, if_neg hb]
      obtain ⟨l1, l2, l3⟩ := ln_sh h (show j < nL by omega) hm
      obtain ⟨i1, i2, i3⟩ := ih (j + 1) _ (by omega) l1.2.2
      refine ⟨l1.trans i1, fun z => ?_, fun z => ?_⟩
      · rcases (Bool.or_eq_true _ _).mp z with q | q
        · have := l2 q
          have := i1.1
          omega
        · have := i2 q
          have := l1.1
          omega
      · obtain ⟨q1, q2⟩ := (Bool.or_eq_false_iff).mp z
        rw [i3 q2, l3 q1]
theorem emC_iff (m : Mw) : ∀ (d f : Nat) (c : Int32), (¬ emC m d f c = 0) ↔ (¬ c = 0 ∨ ∃ i : Nat, f ≤ i ∧ i < f + d ∧ m i = 0) := by
  intro d
  induction d with
  | zero => intro f c; exact ⟨fun h => Or.inl h, fun h => h.elim id (fun ⟨i, h1, h2, _⟩ => absurd h2 (by omega))⟩
  | succ d ih =>
    intro f c
    unfold emC
    rw [ih]
    by_cases q : m f = 0
    · rw [if_pos q]
      exact ⟨fun _ => Or.inr ⟨f, Nat.le_refl _, by omega, q⟩, fun _ => Or.inl (by decide)⟩
    · rw [if_neg q]
      constructor
      · rintro (h | ⟨i, h1, h2, h3⟩)
        · exact Or.inl h
        · exact Or.inr ⟨i, by omega, by omega, h3⟩
      · rintro (h | ⟨i, h1, h2, h3⟩)
        · exact Or.inl h
        · refine Or.inr ⟨i, ?_, by omega, h3⟩
          rcases Nat.eq_or_lt_of_le h1 with e | e
          · subst e; exact absurd h3 q
          · omega
theorem em_sh {m m' : Mw} {nF : Nat} (h : Sh m m') (he : ¬ emC m nF 0 0 = 0) : ¬ emC m' nF 0 0 = 0 := by
  rw [emC_iff] at he ⊢
  rcases he with h9 | ⟨i, h1, h2, h3⟩
  · exact absurd rfl h9
  · exact Or.inr ⟨i, h1, h2, h.2.1 i h3⟩
theorem rn_sh {σ : Mem} {nF nL : Nat} {set : Int32} (h : LV σ nF nL) : ∀ (k : Nat) (m : Mw), RW m → Sh m (rnF (lnM σ) (lnC σ) set nL k m) := by
  intro k
  induction k with
  | zero => intro m hm; exact Sh.rf hm
  | succ k ih =>
    intro m hm
    have p := ps_sh (set := set) h nL 0 m (Nat.zero_add _) hm
    unfold rnF
    split
    · exact p.1.trans (ih _ p.1.2.2)
    · exact p.1
/-- rounds as the reference makes them: it stops where a field is empty -/
def rrF (T : Nat → Mw → Mw) (C : Nat → Mw → Bool) (set : Int32) (nF nL : Nat) : Nat → Mw → Mw
  | 0, m => m
  | k + 1, m => if ¬ emC m nF 0 0 = 0 then m else if psC T C set nL 0 m = true then rrF T C set nF nL k (psM T set nL 0 m) else psM T set nL 0 m
theorem fl_zero {m : Mw} (h : RW m) : fl_row 5 0 m = fun _ => 0 := by
  funext f
  unfold fl_row
  split
  · rfl
  · exact h.1 f (by omega)
theorem em_one {m : Mw} {nF : Nat} (h : ¬ emC m nF 0 0 = 0) : emC m nF 0 0 = 1 := (emC_01 m nF 0 0 (Or.inl rfl)).resolve_left h
theorem rr_eq {σ : Mem} {nF nL : Nat} {set : Int32} (h : LV σ nF nL) : ∀ (k : Nat) (m : Mw), RW m → ms m < k →
    finM nF (rrF (lnM σ) (lnC σ) set nF nL k m) = finM nF (rnF (lnM σ) (lnC σ) set nL k m) ∧ emC (rrF (lnM σ) (lnC σ) set nF nL k m) nF 0 0 = emC (rnF (lnM σ) (lnC σ) set nL k m) nF 0 0 := by
  intro k
  induction k with
  | zero => intro m _ hk; omega
  | succ k ih =>
    intro m hm hk
    by_cases he : ¬ emC m nF 0 0 = 0
    · have e1 : rrF (lnM σ) (lnC σ) set nF nL (k + 1) m = m := by unfold rrF; rw [if_pos he]
      have s := rn_sh (set := set) h (k + 1) m hm
      have he2 := em_sh s he
      rw [e1]
      refine ⟨?_, by rw [em_one he, em_one he2]⟩
      unfold finM
      rw [if_neg he, if_neg he2, fl_zero hm, fl_zero s.2.2]
    · have p := ps_sh (set := set) h nL 0 m (Nat.zero_add _) hm
      unfold rrF rnF
      rw [if_neg he]
      by_cases hc : psC (lnM σ) (lnC σ) set nL 0 m = true
      · rw [if_pos hc, if_pos hc]
        exact ih _ p.1.2.2 (by have := p.2.1 hc; omega)
      · rw [if_neg hc, if_neg hc]
        exact ⟨rfl, rfl⟩
theorem fin_RW {nF : Nat} {m : Mw} (h : RW m) : RW (finM nF m) := by
  unfold finM
  split
  · exact h
  · rw [fl_zero h]
    exact ⟨fun _ _ => rfl, fun _ => (show (0 : Int32) &&& 255 = 0 from by decide)⟩
theorem mt_RW {σ : Mem} {nF nL : Nat} {set : Int32} {m : Mw} (h : LV σ nF nL) (hm : RW m) : RW (mtF σ set nF nL m) := fin_RW (rn_sh h 41 m hm).2.2
