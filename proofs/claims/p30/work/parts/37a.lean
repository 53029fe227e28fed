/-! LESS LINES TAKE LESS AWAY; what a reason is -/
theorem hb_test : ∀ k : Nat, k < 256 → ∀ i : Nat, i < 8 → (((nI k >>> (nI i &&& 31)) &&& 1) = 0 ↔ k.testBit i = false) := by decide +kernel
theorem ext8 {x y : Int32} (hx : x &&& 255 = x) (hy : y &&& 255 = y) (h : ∀ i : Nat, i < 8 → (hasB x (nI i) ↔ hasB y (nI i))) : x = y := by
  obtain ⟨k, hk, rfl⟩ := s8_ex hx
  obtain ⟨l, hl, rfl⟩ := s8_ex hy
  have e : k = l := by
    apply Nat.eq_of_testBit_eq
    intro i
    by_cases hi : i < 8
    · have a := hb_test k hk i hi
      have b := hb_test l hl i hi
      have c := h i hi
      unfold hasB at c
      rw [a, b] at c
      cases q : k.testBit i <;> cases r : l.testBit i <;> simp [q, r] at c ⊢
    · have z : ∀ t : Nat, t < 256 → t.testBit i = false := fun t ht => Nat.testBit_lt_two_pow (Nat.lt_of_lt_of_le ht (by
        calc 256 = 2 ^ 8 := rfl
          _ ≤ 2 ^ i := Nat.pow_le_pow_right (by decide) (by omega)))
      rw [z k hk, z l hl]
  rw [e]
theorem or_s8 {x y : Int32} (hx : x &&& 255 = x) (hy : y &&& 255 = y) : (x ||| y) &&& 255 = x ||| y := by
  obtain ⟨k, hk, rfl⟩ := s8_ex hx
  obtain ⟨l, hl, rfl⟩ := s8_ex hy
  have e : nI k ||| nI l = nI (k ||| l) := by
    apply Int32.toBitVec_inj.mp
    show BitVec.ofNat 32 k ||| BitVec.ofNat 32 l = BitVec.ofNat 32 (k ||| l)
    apply BitVec.eq_of_toNat_eq
    rw [BitVec.toNat_or, BitVec.toNat_ofNat, BitVec.toNat_ofNat, BitVec.toNat_ofNat, Nat.or_mod_two_pow]
  rw [e]
  exact s8_nI _ (Nat.or_lt_two_pow (n := 8) hk hl)
def sb8 (x y : Int32) : Prop := ∀ i : Nat, i < 8 → hasB x (nI i) → hasB y (nI i)
theorem or_sub {x y : Int32} (hx : x &&& 255 = x) (hy : y &&& 255 = y) (h : sb8 x y) : x ||| y = y := ext8 (or_s8 hx hy) hy (fun i hi => by
  rw [hasB_or hi]
  exact ⟨fun z => z.elim (h i hi) id, Or.inr⟩)
theorem nz_hb : ∀ k : Nat, k < 256 → k = 0 ∨ ∃ i : Nat, i < 8 ∧ ¬ ((nI k >>> (nI i &&& 31)) &&& 1) = 0 := by
  have h : ∀ k : Nat, k < 256 → k = 0 ∨ ¬ ((nI k >>> (nI (lsN k) &&& 31)) &&& 1) = 0 := by decide +kernel
  intro k hk
  rcases h k hk with z | z
  · exact Or.inl z
  · refine Or.inr ⟨lsN k, ?_, z⟩
    have := ls_8 (nI k)
    unfold ls at this
    rwa [nI_clamp (by omega)] at this
theorem nz_bit {x : Int32} (hx : x &&& 255 = x) (h0 : ¬ x = 0) : ∃ i : Nat, i < 8 ∧ hasB x (nI i) := by
  obtain ⟨k, hk, rfl⟩ := s8_ex hx
  rcases nz_hb k hk with z | z
  · exact absurd (by rw [z]; rfl) h0
  · exact z
theorem lo_sub {kd s p x y : Int32} {a : Nat} (hx : x &&& 255 = x) (hy : y &&& 255 = y) (h0 : ¬ x = 0) (hs : sb8 x y) (ha : a < 8) (h : hasB (loF kd s p x) (nI a)) : hasB (loF kd s p y) (nI a) := by
  unfold loF at h ⊢
  by_cases k : kd = 4
  · rw [if_pos k] at h ⊢
    by_cases q : (y &&& (y - 1)) = 0
    · obtain ⟨o, ho, hb⟩ := nz_bit hx h0
      have hyo := hs o ho hb
      obtain ⟨l, hl, el⟩ := s8_ex hy
      rw [el] at q hyo
      have e := sg_b1 o ho l hl hyo q
      have ey : y = b1 o := by rw [el, e]; rfl
      have ex : x = b1 o := ext8 hx (b1_255 o ho) (fun i hi => ⟨fun z => by rw [← ey]; exact hs i hi z, fun z => by
        have := (hb_b1 ho hi).mp z
        rw [this]; exact hb⟩)
      rw [ey, ← ex]
      exact h
    · unfold unF
      rw [if_neg q]
      exact hb_255 a ha
  · rw [if_neg k] at h ⊢
    rw [← or_sub hx hy hs]
    generalize (if p = 0 then s else -s) = t at h ⊢
    unfold shF at h ⊢
    rw [hasB_and ha] at h ⊢
    refine ⟨?_, h.2⟩
    by_cases q : t < 0
    · rw [if_pos q] at h ⊢
      rw [Int32.shiftRight_or, hasB_or ha]
      exact Or.inl h.1
    · rw [if_neg q] at h ⊢
      rw [Int32.shiftLeft_or, hasB_or ha]
      exact Or.inl h.1
def cv_Sb (m m' : Mw) : Prop := ∀ f : Nat, sb8 (m f) (m' f)
theorem fix_sb {x y : Int32} (h : x &&& y = x) : sb8 x y := fun i hi z => by
  rw [← h] at z
  exact ((hasB_and hi).mp z).2
theorem ln_mono {σ : Mem} {nF nL j : Nat} {m m' : Mw} (h : LV σ nF nL) (hj : j < nL) (hm : RW m) (hm' : RW m') (hf : lnM σ j m = m) (h0 : ∀ f : Nat, f < nF → ¬ m f = 0) (hs : cv_Sb m m') : cv_Sb m (lnM σ j m') := fun f i hi hb => by
  have ha := la_lt h hj
  by_cases k : σ 4 j = 3 ∨ σ 4 j = 4
  · have ho := lo_lt h hj k
    have ne := lao_ne h hj k
    rw [ln_two k] at hf ⊢
    unfold letA at hf ⊢
    rw [if_pos k] at hf ⊢
    generalize (σ 6 j).toNatClampNeg = a at ha ne hf ⊢
    generalize (σ 7 j).toNatClampNeg = o at ho ne hf ⊢
    have f1 := congrFun hf a
    rw [upd_ne (fun z => ne z.symm), upd_eq] at f1
    have f2 := congrFun hf o
    rw [upd_eq, upd_eq, f1] at f2
    have A1 : sb8 (m a) (m' a &&& loF (σ 4 j) (σ 8 j) 0 (m' o)) := fun i hi hb => (hasB_and hi).mpr ⟨hs a i hi hb, lo_sub (hm.2 o) (hm'.2 o) (h0 o ho) (hs o) hi (fix_sb f1 i hi hb)⟩
    by_cases e : f = o
    · rw [e] at hb
      rw [e, upd_eq, upd_eq]
      exact (hasB_and hi).mpr ⟨hs o i hi hb, lo_sub (hm.2 a) (and_s8 (hm'.2 a)) (h0 a ha) A1 hi (fix_sb f2 i hi hb)⟩
    · rw [upd_ne e]
      by_cases e2 : f = a
      · rw [e2] at hb
        rw [e2, upd_eq]; exact A1 i hi hb
      · rw [upd_ne e2]; exact hs f i hi hb
  · rw [ln_one k] at hf ⊢
    unfold letA at hf ⊢
    rw [if_neg k] at hf ⊢
    by_cases e2 : f = (σ 6 j).toNatClampNeg
    · have f1 := congrFun hf f
      rw [e2, upd_eq] at f1
      rw [e2] at hb
      rw [e2, upd_eq]
      exact (hasB_and hi).mpr ⟨hs _ i hi hb, fix_sb f1 i hi hb⟩
    · rw [upd_ne e2]; exact hs f i hi hb
theorem ps_mono {σ : Mem} {nF nL : Nat} {set : Int32} {m : Mw} (h : LV σ nF nL) (hm : RW m) (hf : cv_Fx σ set nL m) (h0 : ∀ f : Nat, f < nF → ¬ m f = 0) : ∀ (d j : Nat) (m' : Mw), j + d = nL → RW m' → cv_Sb m m' → cv_Sb m (psM (lnM σ) set d j m') := by
  intro d
  induction d with
  | zero => intro j m' _ _ hs; exact hs
  | succ d ih =>
    intro j m' hj hm' hs
    unfold psM stM
    by_cases hb : ((set >>> (nI j &&& 31)) &&& 1) = 0
    · rw [if_pos hb]; exact ih (j + 1) m' (by omega) hm' hs
    · rw [if_neg hb]
      exact ih (j + 1) _ (by omega) (ln_sh h (by omega) hm').1.2.2 (ln_mono h (by omega) hm hm' (hf j (by omega) hb) h0 hs)
theorem rn_mono {σ : Mem} {nF nL : Nat} {set : Int32} {m : Mw} (h : LV σ nF nL) (hm : RW m) (hf : cv_Fx σ set nL m) (h0 : ∀ f : Nat, f < nF → ¬ m f = 0) : ∀ (k : Nat) (m' : Mw), RW m' → cv_Sb m m' → cv_Sb m (rnF (lnM σ) (lnC σ) set nL k m') := by
  intro k
  induction k with
  | zero => intro m' _ hs; exact hs
  | succ k ih =>
    intro m' hm' hs
    have p := ps_mono h hm hf h0 nL 0 m' (Nat.zero_add _) hm' hs
    unfold rnF
    split
    · exact ih _ (ps_sh h nL 0 m' (Nat.zero_add _) hm').1.2.2 p
    · exact p
/-- with less lines there is no contradiction where there was none -/
theorem mt_less {σ : Mem} {nF nL : Nat} {set set' : Int32} (h : LV σ nF nL) (hsub : ∀ j : Nat, j < nL → ¬ ((set' >>> (nI j &&& 31)) &&& 1) = 0 → ¬ ((set >>> (nI j &&& 31)) &&& 1) = 0) (hc : mtC σ set nF nL full = 0) : mtC σ set' nF nL full = 0 := by
  have h5 := h.1
  have hm := mt_RW (set := set) h full_RW
  have hf : cv_Fx σ set' nL (mtF σ set nF nL full) := fun j hj hb => mt_fx h full_RW j hj (hsub j hj hb)
  have h0 : ∀ f : Nat, f < nF → ¬ mtF σ set nF nL full f = 0 := fun f hf => mt_some hf hc
  have hs : cv_Sb (mtF σ set nF nL full) full := fun f i hi hb => by
    by_cases q : f < 5
    · unfold full
      rw [if_pos q]
      exact hb_255 i hi
    · rw [hm.1 f (by omega)] at hb
      exact absurd hb (hasB_0 hi)
  have r := rn_mono h hm hf h0 41 full full_RW hs
  refine Classical.byContradiction (fun z => ?_)
  rcases (emC_iff _ nF 0 0).mp z with q | ⟨i, h1, h2, h3⟩
  · exact q rfl
  · obtain ⟨b, hb, hbb⟩ := nz_bit (hm.2 i) (h0 i (by omega))
    have := r i b hb hbb
    rw [h3] at this
    exact hasB_0 hb this
theorem bit_less {x : Int32} {j i : Nat} (hj : j < 32) (hi : i < 32) : ¬ (((x &&& (((1 : Int32) <<< (nI j &&& 31)) ^^^ (-1))) >>> (nI i &&& 31)) &&& 1) = 0 ↔ ¬ ((x >>> (nI i &&& 31)) &&& 1) = 0 ∧ ¬ i = j := by
  rw [bit_j hi, bit_j hi]
  show ¬ (x.toBitVec &&& (((1 : Int32) <<< (nI j &&& 31)) ^^^ (-1)).toBitVec).getLsbD i = false ↔ _
  rw [BitVec.getLsbD_and, no_bit j hj i hi]
  cases x.toBitVec.getLsbD i <;> by_cases q : i = j <;> simp [q]
section JR2
variable {g : Nat → Nat} {σ τ : Mem} {nF : Nat}
theorem rs_min (h : RR σ g τ nF) : ∀ (d j : Nat) (kept : Int32) (ρ : Mem), j + d = g 0 → Tr σ ρ → (∀ k : Nat, k < 32 → ¬ (((rsL false 0 nF (g 0) d j kept ρ).1 >>> (nI k &&& 31)) &&& 1) = 0 → ¬ ((kept >>> (nI k &&& 31)) &&& 1) = 0) ∧ ∀ k : Nat, j ≤ k → k < g 0 → ¬ (((rsL false 0 nF (g 0) d j kept ρ).1 >>> (nI k &&& 31)) &&& 1) = 0 → mtC (tm (g 0) τ) ((rsL false 0 nF (g 0) d j kept ρ).1 &&& (((1 : Int32) <<< (nI k &&& 31)) ^^^ (-1))) nF (g 0) full = 0 := by
  have h30 := h.lv.2.1
  intro d
  induction d with
  | zero => intro j kept ρ hj _; exact ⟨fun k _ z => z, fun k h1 h2 => by omega⟩
  | succ d ih =>
    intro j kept ρ hj ht
    have hj32 : j < 32 := by omega
    unfold rsL
    by_cases q : kept &&& (((1 : Int32) <<< (nI j &&& 31)) ^^^ (-1)) = kept
    · rw [if_pos q]
      obtain ⟨i1, i2⟩ := ih (j + 1) kept ρ (by omega) ht
      refine ⟨i1, fun k h1 h2 hb => ?_⟩
      rcases Nat.eq_or_lt_of_le h1 with e | e
      · subst e
        exact absurd ((less_eq hj32).mp q) (i1 j hj32 hb)
      · exact i2 k e h2 hb
    · rw [if_neg q]
      have t := tr_bg (set := kept &&& (((1 : Int32) <<< (nI j &&& 31)) ^^^ (-1))) (f := 0) h ht (by decide)
      have c : ((false = true ∧ bgM 14 15 nF (g 0) (kept &&& (((1 : Int32) <<< (nI j &&& 31)) ^^^ (-1))) ρ 15 0 = bgM 14 15 nF (g 0) (kept &&& (((1 : Int32) <<< (nI j &&& 31)) ^^^ (-1))) ρ 13 0) ∨ (false = false ∧ ¬ bgM 14 15 nF (g 0) (kept &&& (((1 : Int32) <<< (nI j &&& 31)) ^^^ (-1))) ρ 14 2 = 0)) ↔ ¬ mtC (tm (g 0) τ) (kept &&& (((1 : Int32) <<< (nI j &&& 31)) ^^^ (-1))) nF (g 0) full = 0 := by
        rw [t.2.1]
        exact ⟨fun z => z.elim (fun z => absurd z.1 (by decide)) (fun z => z.2), fun z => Or.inr ⟨rfl, z⟩⟩
      by_cases w : mtC (tm (g 0) τ) (kept &&& (((1 : Int32) <<< (nI j &&& 31)) ^^^ (-1))) nF (g 0) full = 0
      · rw [if_neg (fun z => (c.mp z) w)]
        obtain ⟨i1, i2⟩ := ih (j + 1) kept (bgM 14 15 nF (g 0) (kept &&& (((1 : Int32) <<< (nI j &&& 31)) ^^^ (-1))) ρ) (by omega) t.2.2
        refine ⟨i1, fun k h1 h2 hb => ?_⟩
        rcases Nat.eq_or_lt_of_le h1 with e | e
        · subst e
          refine mt_less h.lv (fun i hi hbi => ?_) w
          obtain ⟨b1', b2⟩ := (bit_less hj32 (by omega)).mp hbi
          exact (bit_less hj32 (by omega)).mpr ⟨i1 i (by omega) b1', b2⟩
        · exact i2 k e h2 hb
      · rw [if_pos (c.mpr w)]
        obtain ⟨i1, i2⟩ := ih (j + 1) (kept &&& (((1 : Int32) <<< (nI j &&& 31)) ^^^ (-1))) (bgM 14 15 nF (g 0) (kept &&& (((1 : Int32) <<< (nI j &&& 31)) ^^^ (-1))) ρ) (by omega) t.2.2
        refine ⟨fun k hk hb => ((bit_less hj32 hk).mp (i1 k hk hb)).1, fun k h1 h2 hb => ?_⟩
        rcases Nat.eq_or_lt_of_le h1 with e | e
        · subst e
          exact absurd rfl ((bit_less hj32 hj32).mp (i1 j hj32 hb)).2
        · exact i2 k e h2 hb
/-- which lines are strict and count -/
theorem st_bit {nL : Nat} (hn : nL ≤ 30) : ∀ (d j : Nat) (x : Int32) (k : Nat), j + d = nL → k < 32 → (¬ ((stF σ d j x >>> (nI k &&& 31)) &&& 1) = 0 ↔ ¬ ((x >>> (nI k &&& 31)) &&& 1) = 0 ∨ (j ≤ k ∧ k < nL ∧ ¬ σ 4 k = 5 ∧ ctP σ k)) := by
  intro d
  induction d with
  | zero => intro j x k hj hk; exact ⟨Or.inl, fun z => z.elim id (fun w => by omega)⟩
  | succ d ih =>
    intro j x k hj hk
    unfold stF
    rw [ih (j + 1) _ k (by omega) hk]
    have one : ∀ j : Nat, j < 32 → ∀ k : Nat, k < 32 → (((1 : Int32) <<< (nI j &&& 31)).toBitVec.getLsbD k = decide (k = j)) := by decide +kernel
    by_cases c : ¬ σ 4 j = 5 ∧ ctP σ j
    · rw [if_pos c, bit_j hk, bit_j hk]
      show (¬ (x.toBitVec ||| ((1 : Int32) <<< (nI j &&& 31)).toBitVec).getLsbD k = false ∨ _) ↔ _
      rw [BitVec.getLsbD_or, one j (by omega) k hk]
      constructor
      · rintro (z | ⟨z1, z2⟩)
        · by_cases e : k = j
          · subst e; exact Or.inr ⟨Nat.le_refl _, by omega, c⟩
          · simp [e] at z
            exact Or.inl (by simp [z])
        · exact Or.inr ⟨by omega, z2⟩
      · rintro (z | ⟨z1, z2, z3⟩)
        · exact Or.inl (by simp at z; simp [z])
        · by_cases e : k = j
          · exact Or.inl (by simp [e])
          · exact Or.inr ⟨by omega, z2, z3⟩
    · rw [if_neg c]
      constructor
      · rintro (z | ⟨z1, z2⟩)
        · exact Or.inl z
        · exact Or.inr ⟨by omega, z2⟩
      · rintro (z | ⟨z1, z2, z3⟩)
        · exact Or.inl z
        · refine Or.inr ⟨?_, z2, z3⟩
          rcases Nat.eq_or_lt_of_le z1 with e | e
          · subst e; exact absurd z3 c
          · omega
end JR2
