/-! CHOICES: points, and what a line says of a point -/
def b1 (k : Nat) : Int32 := (1 : Int32) <<< (nI k &&& 31)
def cv_HL (σ : Mem) (j : Nat) (x : Nat → Nat) : Prop := ((σ 4 j = 3 ∨ σ 4 j = 4) → hasB (loF (σ 4 j) (σ 8 j) 0 (b1 (x (σ 7 j).toNatClampNeg))) (nI (x (σ 6 j).toNatClampNeg))) ∧ (¬ (σ 4 j = 3 ∨ σ 4 j = 4) → hasB (l1F (σ 4 j) (σ 7 j)) (nI (x (σ 6 j).toNatClampNeg)))
def cv_Hd (σ : Mem) (set : Int32) (nL : Nat) (x : Nat → Nat) : Prop := ∀ j : Nat, j < nL → ¬ ((set >>> (nI j &&& 31)) &&& 1) = 0 → cv_HL σ j x
def cv_In (nF : Nat) (x : Nat → Nat) (m : Mw) : Prop := ∀ f : Nat, f < nF → hasB (m f) (nI (x f))
def cv_Ok (nF : Nat) (x : Nat → Nat) : Prop := ∀ f : Nat, f < nF → x f < 8
theorem and31 (x : Int32) : ∃ c : Nat, c < 32 ∧ x &&& 31 = nI c := by
  have h : (x &&& 31) &&& 255 = x &&& 31 := by rw [Int32.and_assoc]; rfl
  obtain ⟨j, hj, e⟩ := s8_ex h
  refine ⟨j, ?_, e⟩
  have h2 : nI j &&& nI 31 = nI j := by
    rw [← e]
    show (x &&& 31) &&& 31 = x &&& 31
    rw [Int32.and_assoc]; rfl
  rw [nI_and] at h2
  have h3 := nI_inj (Nat.lt_of_le_of_lt Nat.and_le_right (by decide)) (by omega) h2
  have h4 : j &&& 31 ≤ 31 := Nat.and_le_right
  omega
theorem hb_b1 {k i : Nat} (hk : k < 8) (hi : i < 8) : hasB (b1 k) (nI i) ↔ i = k := hasB_one2 hk hi
theorem or_b1 : ∀ w : Nat, w < 8 → ∀ i : Nat, i < 256 → ¬ ((nI i >>> (nI w &&& 31)) &&& 1) = 0 → nI i ||| ((1 : Int32) <<< (nI w &&& 31)) = nI i := by decide +kernel
theorem sg_b1 : ∀ w : Nat, w < 8 → ∀ i : Nat, i < 256 → ¬ ((nI i >>> (nI w &&& 31)) &&& 1) = 0 → (nI i &&& (nI i - 1)) = 0 → nI i = (1 : Int32) <<< (nI w &&& 31) := by decide +kernel
theorem hb_255 : ∀ i : Nat, i < 8 → ¬ (((255 : Int32) >>> (nI i &&& 31)) &&& 1) = 0 := by decide +kernel
theorem sh_sym : ∀ c : Nat, c < 32 → ∀ o : Nat, o < 8 → ∀ a : Nat, a < 8 → (((((((1 : Int32) <<< (nI o &&& 31)) <<< nI c) &&& 255) >>> (nI a &&& 31)) &&& 1) = 0 ↔ ((((((1 : Int32) <<< (nI a &&& 31)) >>> nI c) &&& 255) >>> (nI o &&& 31)) &&& 1) = 0) := by decide +kernel
theorem un_sym : ∀ o : Nat, o < 8 → ∀ a : Nat, a < 8 → (((unF ((1 : Int32) <<< (nI o &&& 31)) >>> (nI a &&& 31)) &&& 1) = 0 ↔ ((unF ((1 : Int32) <<< (nI a &&& 31)) >>> (nI o &&& 31)) &&& 1) = 0) := by decide +kernel
theorem neg_min {s : Int32} (h1 : s < 0) (h2 : -s < 0) : -s = s := by
  have e := Int32.toInt_neg s
  have b := i32_b s
  have b2 := i32_b (-s)
  rw [Int32.lt_iff_toInt_lt] at h1 h2
  have h1 : s.toInt < 0 := h1
  have h2 : (-s).toInt < 0 := h2
  apply Int32.toInt_inj.mp
  rw [Int.bmod_def] at e
  have : (2 : Nat) ^ 32 = 4294967296 := by decide
  omega
theorem neg_zero {s : Int32} (h1 : ¬ s < 0) (h2 : ¬ -s < 0) : s = 0 := by
  have e := Int32.toInt_neg s
  have b := i32_b s
  rw [Int32.lt_iff_toInt_lt] at h1 h2
  have h1 : ¬ s.toInt < 0 := h1
  have h2 : ¬ (-s).toInt < 0 := h2
  apply Int32.toInt_inj.mp
  show s.toInt = 0
  rw [Int.bmod_def] at e
  have : (2 : Nat) ^ 32 = 4294967296 := by decide
  omega
theorem shF_sym {s : Int32} {o a : Nat} (ho : o < 8) (ha : a < 8) : hasB (shF s (b1 o)) (nI a) ↔ hasB (shF (-s) (b1 a)) (nI o) := by
  unfold shF b1 hasB
  by_cases h1 : s < 0
  · rw [if_pos h1]
    by_cases h2 : -s < 0
    · rw [if_pos h2]
      have e := neg_min h1 h2
      rw [e, e]
      have z : s &&& 31 = 0 := by
        have q : s = -2147483648 := by
          have b := i32_b s
          have e2 := Int32.toInt_neg s
          rw [e, Int.bmod_def] at e2
          rw [Int32.lt_iff_toInt_lt] at h1
          have h1 : s.toInt < 0 := h1
          apply Int32.toInt_inj.mp
          show s.toInt = -2147483648
          have : (2 : Nat) ^ 32 = 4294967296 := by decide
          omega
        rw [q]; decide
      rw [z]
      have k : ∀ o : Nat, o < 8 → ∀ a : Nat, a < 8 → (((((((1 : Int32) <<< (nI o &&& 31)) >>> (0 : Int32)) &&& 255) >>> (nI a &&& 31)) &&& 1) = 0 ↔ (((((((1 : Int32) <<< (nI a &&& 31)) >>> (0 : Int32)) &&& 255) >>> (nI o &&& 31)) &&& 1) = 0)) := by decide +kernel
      exact not_congr (k o ho a ha)
    · rw [if_neg h2]
      obtain ⟨c, hc, ec⟩ := and31 (-s)
      rw [ec]
      exact not_congr (sh_sym c hc a ha o ho).symm
  · rw [if_neg h1]
    by_cases h2 : -s < 0
    · rw [if_pos h2, Int32.neg_neg]
      obtain ⟨c, hc, ec⟩ := and31 s
      rw [ec]
      exact not_congr (sh_sym c hc o ho a ha)
    · have e := neg_zero h1 h2
      rw [if_neg h2, e]
      have k : ∀ o : Nat, o < 8 → ∀ a : Nat, a < 8 → (((((((1 : Int32) <<< (nI o &&& 31)) <<< ((0 : Int32) &&& 31)) &&& 255) >>> (nI a &&& 31)) &&& 1) = 0 ↔ (((((((1 : Int32) <<< (nI a &&& 31)) <<< ((-(0 : Int32)) &&& 31)) &&& 255) >>> (nI o &&& 31)) &&& 1) = 0)) := by decide +kernel
      exact not_congr (k o ho a ha)
theorem lo_sym {kd s : Int32} {o a : Nat} (ho : o < 8) (ha : a < 8) : hasB (loF kd s 0 (b1 o)) (nI a) ↔ hasB (loF kd s 1 (b1 a)) (nI o) := by
  unfold loF
  by_cases k : kd = 4
  · rw [if_pos k, if_pos k]
    unfold b1 hasB
    exact not_congr (un_sym o ho a ha)
  · rw [if_neg k, if_neg k, if_pos rfl, if_neg (by decide)]
    exact shF_sym ho ha
theorem lo_mono {kd s p y : Int32} {o a : Nat} (hy : y &&& 255 = y) (ho : o < 8) (ha : a < 8) (hb : hasB y (nI o)) (h : hasB (loF kd s p (b1 o)) (nI a)) : hasB (loF kd s p y) (nI a) := by
  obtain ⟨i, hi, rfl⟩ := s8_ex hy
  unfold loF at h ⊢
  by_cases k : kd = 4
  · rw [if_pos k] at h ⊢
    by_cases q : (nI i &&& (nI i - 1)) = 0
    · have e := sg_b1 o ho i hi hb q
      rw [e]; exact h
    · unfold unF
      rw [if_neg q]
      exact hb_255 a ha
  · rw [if_neg k] at h ⊢
    have e : nI i ||| b1 o = nI i := or_b1 o ho i hi hb
    rw [← e]
    generalize (if p = 0 then s else -s) = t at h ⊢
    unfold shF at h ⊢
    rw [hasB_and ha] at h ⊢
    refine ⟨?_, h.2⟩
    by_cases q : t < 0
    · rw [if_pos q] at h ⊢
      rw [Int32.shiftRight_or, hasB_or ha]
      exact Or.inr h.1
    · rw [if_neg q] at h ⊢
      rw [Int32.shiftLeft_or, hasB_or ha]
      exact Or.inr h.1
theorem lao_ne {σ : Mem} {nF nL j : Nat} (h : LV σ nF nL) (hj : j < nL) (hk : σ 4 j = 3 ∨ σ 4 j = 4) : ¬ (σ 7 j).toNatClampNeg = (σ 6 j).toNatClampNeg := fun z => by
  obtain ⟨a, ha5, ea⟩ := vin_ex (by decide) (h.ab hj)
  obtain ⟨b, hb5, eb⟩ := vin_ex (by decide) (h.two hj hk)
  have hne2 := ((h.2.2.2.2 j hj).2.2.1 hk).2
  rw [ea, eb, nI_clamp (by omega), nI_clamp (by omega)] at z
  exact hne2 (by rw [ea, eb, z])
theorem la_lt {σ : Mem} {nF nL j : Nat} (h : LV σ nF nL) (hj : j < nL) : (σ 6 j).toNatClampNeg < nF := vin_lt (h.2.2.2.2 j hj).1
theorem lo_lt {σ : Mem} {nF nL j : Nat} (h : LV σ nF nL) (hj : j < nL) (hk : σ 4 j = 3 ∨ σ 4 j = 4) : (σ 7 j).toNatClampNeg < nF := vin_lt ((h.2.2.2.2 j hj).2.2.1 hk).1
/-- a line keeps a point that it holds at -/
theorem ln_in {σ : Mem} {nF nL j : Nat} {x : Nat → Nat} {m : Mw} (h : LV σ nF nL) (hj : j < nL) (hx : cv_Ok nF x) (hm : RW m) (hl : cv_HL σ j x) (hi : cv_In nF x m) : cv_In nF x (lnM σ j m) := fun f hf => by
  have ha := la_lt h hj
  by_cases k : σ 4 j = 3 ∨ σ 4 j = 4
  · have ho := lo_lt h hj k
    have ne := lao_ne h hj k
    have l0 := hl.1 k
    rw [ln_two k]
    unfold letA
    rw [if_pos k]
    generalize (σ 6 j).toNatClampNeg = a at ha ne l0 ⊢
    generalize (σ 7 j).toNatClampNeg = o at ho ne l0 ⊢
    have A1 : hasB (m a &&& loF (σ 4 j) (σ 8 j) 0 (m o)) (nI (x a)) := (hasB_and (hx a ha)).mpr ⟨hi a ha, lo_mono (hm.2 o) (hx o ho) (hx a ha) (hi o ho) l0⟩
    by_cases e : f = o
    · rw [e, upd_eq, upd_eq]
      exact (hasB_and (hx o ho)).mpr ⟨hi o ho, lo_mono (and_s8 (hm.2 a)) (hx a ha) (hx o ho) A1 ((lo_sym (hx o ho) (hx a ha)).mp l0)⟩
    · rw [upd_ne e]
      by_cases e2 : f = a
      · rw [e2, upd_eq]; exact A1
      · rw [upd_ne e2]; exact hi f hf
  · have l0 := hl.2 k
    rw [ln_one k]
    unfold letA
    rw [if_neg k]
    by_cases e2 : f = (σ 6 j).toNatClampNeg
    · rw [e2, upd_eq]
      exact (hasB_and (hx _ ha)).mpr ⟨hi _ ha, l0⟩
    · rw [upd_ne e2]; exact hi f hf
theorem ps_in {σ : Mem} {nF nL : Nat} {set : Int32} {x : Nat → Nat} (h : LV σ nF nL) (hx : cv_Ok nF x) (hd : cv_Hd σ set nL x) : ∀ (d j : Nat) (m : Mw), j + d = nL → RW m → cv_In nF x m → cv_In nF x (psM (lnM σ) set d j m) := by
  intro d
  induction d with
  | zero => intro j m _ _ hi; exact hi
  | succ d ih =>
    intro j m hj hm hi
    unfold psM stM
    by_cases hb : ((set >>> (nI j &&& 31)) &&& 1) = 0
    · rw [if_pos hb]; exact ih (j + 1) m (by omega) hm hi
    · rw [if_neg hb]
      exact ih (j + 1) _ (by omega) (ln_sh h (by omega) hm).1.2.2 (ln_in h (by omega) hx hm (hd j (by omega) hb) hi)
theorem rn_in {σ : Mem} {nF nL : Nat} {set : Int32} {x : Nat → Nat} (h : LV σ nF nL) (hx : cv_Ok nF x) (hd : cv_Hd σ set nL x) : ∀ (k : Nat) (m : Mw), RW m → cv_In nF x m → cv_In nF x (rnF (lnM σ) (lnC σ) set nL k m) := by
  intro k
  induction k with
  | zero => intro m _ hi; exact hi
  | succ k ih =>
    intro m hm hi
    have p := ps_in h hx hd nL 0 m (Nat.zero_add _) hm hi
    unfold rnF
    split
    · exact ih _ (ps_sh h nL 0 m (Nat.zero_add _) hm).1.2.2 p
    · exact p
theorem in_em {nF : Nat} {x : Nat → Nat} {m : Mw} (hx : cv_Ok nF x) (hi : cv_In nF x m) : emC m nF 0 0 = 0 := Classical.byContradiction (fun h => by
  rcases (emC_iff m nF 0 0).mp h with q | ⟨i, h1, h2, h3⟩
  · exact q rfl
  · have := hi i (by omega)
    rw [h3] at this
    exact hasB_0 (hx i (by omega)) this)
/-- meeting loses no choice -/
theorem mt_in {σ : Mem} {nF nL : Nat} {set : Int32} {x : Nat → Nat} {m : Mw} (h : LV σ nF nL) (hx : cv_Ok nF x) (hd : cv_Hd σ set nL x) (hm : RW m) (hi : cv_In nF x m) : mtC σ set nF nL m = 0 ∧ cv_In nF x (mtF σ set nF nL m) := by
  have p := rn_in h hx hd 41 m hm hi
  have e := in_em hx p
  refine ⟨e, ?_⟩
  unfold mtF finM
  rw [if_pos e]
  exact p
/-- a row from which nothing is taken away -/
def cv_Fx (σ : Mem) (set : Int32) (nL : Nat) (m : Mw) : Prop := ∀ j : Nat, j < nL → ¬ ((set >>> (nI j &&& 31)) &&& 1) = 0 → lnM σ j m = m
theorem pc_fx {σ : Mem} {nF nL : Nat} {set : Int32} (h : LV σ nF nL) : ∀ (d j : Nat) (m : Mw), j + d = nL → RW m → psC (lnM σ) (lnC σ) set d j m = false → ∀ k : Nat, j ≤ k → k < nL → ¬ ((set >>> (nI k &&& 31)) &&& 1) = 0 → lnM σ k m = m := by
  intro d
  induction d with
  | zero => intro j m hj _ _ k h1 h2; omega
  | succ d ih =>
    intro j m hj hm hc k h1 h2 hb
    unfold psC stM at hc
    obtain ⟨q1, q2⟩ := (Bool.or_eq_false_iff).mp hc
    by_cases e : ((set >>> (nI j &&& 31)) &&& 1) = 0
    · rw [if_pos e] at q2
      exact ih (j + 1) m (by omega) hm q2 k (by
        rcases Nat.eq_or_lt_of_le h1 with z | z
        · subst z; exact absurd e hb
        · omega) h2 hb
    · rw [if_neg e] at q1 q2
      have f := (ln_sh h (by omega) hm).2.2 q1
      rw [f] at q2
      rcases Nat.eq_or_lt_of_le h1 with z | z
      · subst z; exact f
      · exact ih (j + 1) m (by omega) hm q2 k (by omega) h2 hb
theorem rn_fx {σ : Mem} {nF nL : Nat} {set : Int32} (h : LV σ nF nL) : ∀ (k : Nat) (m : Mw), RW m → ms m < k → psC (lnM σ) (lnC σ) set nL 0 (rnF (lnM σ) (lnC σ) set nL k m) = false := by
  intro k
  induction k with
  | zero => intro m _ hk; omega
  | succ k ih =>
    intro m hm hk
    have p := ps_sh (set := set) h nL 0 m (Nat.zero_add _) hm
    unfold rnF
    by_cases c : psC (lnM σ) (lnC σ) set nL 0 m = true
    · rw [if_pos c]
      exact ih _ p.1.2.2 (by have := p.2.1 c; omega)
    · rw [if_neg c]
      have c := (Bool.not_eq_true _).mp c
      rw [p.2.2 c]
      exact c
theorem mt_fx {σ : Mem} {nF nL : Nat} {set : Int32} {m : Mw} (h : LV σ nF nL) (hm : RW m) : cv_Fx σ set nL (mtF σ set nF nL m) := fun j hj hb => by
  have s := rn_sh (set := set) h 41 m hm
  unfold mtF finM
  split
  · exact pc_fx h nL 0 _ (Nat.zero_add _) s.2.2 (rn_fx h 41 m hm (by have := ms_40 m; omega)) j (Nat.zero_le _) hj hb
  · rw [fl_zero s.2.2]
    funext f
    exact (ln_sh (m := fun _ => 0) h hj ⟨fun _ _ => rfl, fun _ => (show (0 : Int32) &&& 255 = 0 from by decide)⟩).1.2.1 f rfl
theorem and_hb {a b : Int32} {i : Nat} (hi : i < 8) (e : a &&& b = a) (h : hasB a (nI i)) : hasB b (nI i) := by
  rw [← e] at h
  exact ((hasB_and hi).mp h).2
/-- what holds at a row of single numbers -/
theorem fx_hd {σ : Mem} {nF nL : Nat} {set : Int32} {x : Nat → Nat} {m : Mw} (h : LV σ nF nL) (hx : cv_Ok nF x) (hf : cv_Fx σ set nL m) (hs : ∀ f : Nat, f < nF → m f = b1 (x f)) : cv_Hd σ set nL x := fun j hj hb => by
  have e := hf j hj hb
  have ha := la_lt h hj
  have hi : hasB (m (σ 6 j).toNatClampNeg) (nI (x (σ 6 j).toNatClampNeg)) := by rw [hs _ ha]; exact (hb_b1 (hx _ ha) (hx _ ha)).mpr rfl
  refine ⟨fun k => ?_, fun k => ?_⟩
  · have ho := lo_lt h hj k
    rw [ln_two k] at e
    have e2 := congrFun e (σ 6 j).toNatClampNeg
    rw [upd_ne (fun z => lao_ne h hj k z.symm), upd_eq] at e2
    unfold letA at e2
    rw [if_pos k, hs _ ho] at e2
    exact and_hb (hx _ ha) e2 hi
  · rw [ln_one k] at e
    have e2 := congrFun e (σ 6 j).toNatClampNeg
    rw [upd_eq] at e2
    unfold letA at e2
    rw [if_neg k] at e2
    exact and_hb (hx _ ha) e2 hi
theorem fx_one {σ : Mem} {nF nL j : Nat} {set : Int32} {x : Nat → Nat} {m : Mw} (h : LV σ nF nL) (hx : cv_Ok nF x) (hf : cv_Fx σ set nL m) (hi : cv_In nF x m) (hj : j < nL) (hb : ¬ ((set >>> (nI j &&& 31)) &&& 1) = 0) (k : ¬ (σ 4 j = 3 ∨ σ 4 j = 4)) : cv_HL σ j x := by
  have e := hf j hj hb
  have ha := la_lt h hj
  refine ⟨fun z => absurd z k, fun _ => ?_⟩
  rw [ln_one k] at e
  have e2 := congrFun e (σ 6 j).toNatClampNeg
  rw [upd_eq] at e2
  unfold letA at e2
  rw [if_neg k] at e2
  exact and_hb (hx _ ha) e2 (hi _ ha)
