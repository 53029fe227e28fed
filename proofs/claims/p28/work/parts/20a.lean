/-! MEANINGS HOLD: basics -/
theorem vin_mono {i : Int32} {n m : Nat} (h : vp_in i n) (hnm : n ≤ m) : vp_in i m := fun q => h (q.elim Or.inl (fun h => Or.inr (Nat.le_trans hnm h)))
theorem vin_j {j n : Nat} (h : j < n) (hn : n < 2 ^ 31) : vp_in (nI j) n := vp_in_nI h hn
theorem vin_ex {i : Int32} {n : Nat} (hn : n < 2 ^ 31) (h : vp_in i n) : ∃ j : Nat, j < n ∧ i = nI j := by
  rcases pk_ix i hn with q | q | q
  · exact absurd (Or.inl q) h
  · refine absurd (Or.inr ?_) h
    rw [Int32.le_iff_toInt_le, nI_toInt hn] at q
    show n ≤ i.toInt.toNat
    omega
  · exact q
theorem nI_inj {a b : Nat} (ha : a < 2 ^ 31) (hb : b < 2 ^ 31) (h : nI a = nI b) : a = b := by
  have := congrArg Int32.toNatClampNeg h
  rwa [nI_clamp ha, nI_clamp hb] at this
theorem nI_pos0 {a : Nat} (ha : a < 2 ^ 31) : ¬ nI a < 0 := by
  rw [Int32.lt_iff_toInt_lt, nI_toInt ha]
  show ¬ (a : Int) < 0
  omega
theorem mup_mup {σ : Mem} {p : Nat} {f g : Nat → Int32} : mup (mup σ p f) p g = mup σ p g := by
  funext q
  unfold mup
  cases Nat.beq q p <;> rfl
theorem mup_self {σ : Mem} {p : Nat} : mup σ p (σ p) = σ := by
  funext q
  by_cases h : q = p
  · subst h; exact mup_eq
  · exact mup_ne h
theorem mst_mup {σ : Mem} {p j : Nat} {x : Int32} : mst σ p j x = mup σ p (upd (σ p) j x) := rfl
theorem mup_comm {σ : Mem} {p q : Nat} (h : p ≠ q) {f g : Nat → Int32} : mup (mup σ p f) q g = mup (mup σ q g) p f := by
  funext r
  by_cases hp : r = p
  · subst hp; rw [mup_ne h, mup_eq, mup_eq]
  · by_cases hq : r = q
    · subst hq; rw [mup_eq, mup_ne (Ne.symm h), mup_eq]
    · rw [mup_ne hq, mup_ne hp, mup_ne hp, mup_ne hq]
theorem upd_upd {f : Nat → Int32} {j : Nat} {x y : Int32} : upd (upd f j x) j y = upd f j y := by
  funext i
  by_cases h : i = j
  · subst h; rw [upd_eq, upd_eq]
  · rw [upd_ne h, upd_ne h, upd_ne h]
theorem upd_self {f : Nat → Int32} {j : Nat} : upd f j (f j) = f := by
  funext i
  by_cases h : i = j
  · subst h; rw [upd_eq]
  · rw [upd_ne h]
/-- an answer that tells whether c -/
def bl (c : Prop) (r : Int32) : Prop := bz r ∧ (r = 0 ↔ ¬ c)
theorem bl1 {c : Prop} (h : c) : bl c 1 := ⟨bz1, fun e => absurd e (by decide), fun e => absurd h e⟩
theorem bl0 {c : Prop} (h : ¬ c) : bl c 0 := ⟨bz0, fun _ => h, fun _ => rfl⟩
theorem bl.f {c : Prop} {r : Int32} (h : bl c r) (e : r = 0) : ¬ c := h.2.mp e
theorem bl.t {c : Prop} {r : Int32} (h : bl c r) (e : ¬ r = 0) : c := Classical.byContradiction fun q => e (h.2.mpr q)
theorem bl.iff {c d : Prop} {r : Int32} (h : bl c r) (e : c ↔ d) : bl d r := ⟨h.1, h.2.trans (not_congr e)⟩
theorem bz_or {r : Int32} (h : bz r) : r = 0 ∨ r = 1 := by
  obtain ⟨h1, -⟩ := h
  have h2 : (if r &&& 1 = 1 then (1 : Int32) else 0) = r ∨ (r &&& 1) = r := by
    first
      | exact Or.inr (by injection h1)
      | exact Or.inl (by injection h1)
  rcases h2 with h2 | h2
  · by_cases hh : r &&& 1 = 1
    · rw [if_pos hh] at h2; exact Or.inr h2.symm
    · rw [if_neg hh] at h2; exact Or.inl h2.symm
  · rw [← h2]
    have : ∀ x : BitVec 32, x &&& 1 = 0 ∨ x &&& 1 = 1 := by
      intro x
      rcases Nat.mod_two_eq_zero_or_one x.toNat with q | q
      · left; apply BitVec.eq_of_toNat_eq; simp [BitVec.toNat_and, Nat.and_one_is_mod, q]
      · right; apply BitVec.eq_of_toNat_eq; simp [BitVec.toNat_and, Nat.and_one_is_mod, q]
    rcases this r.toBitVec with q | q
    · left; apply Int32.toBitVec_inj.mp; exact q
    · right; apply Int32.toBitVec_inj.mp; exact q
/-- whether a set has a number -/
def hasB (x y : Int32) : Prop := ¬ ((x >>> (y &&& 31)) &&& 1) = 0
theorem s_contains {post : Int32 → Mem → Prop} {x y : Int32} {σ : Mem} (hp : ∀ r : Int32, bl (hasB x y) r → post r σ) : q_X5_contains post x y σ := by
  unfold q_X5_contains q_X5_contains_13
  exact ⟨fun h => ⟨bz0, hp 0 (bl0 (fun q => q h))⟩, fun h => ⟨bz1, hp 1 (bl1 h)⟩⟩
theorem s_isMachine {post : Int32 → Mem → Prop} {x : Int32} {σ : Mem} (hp : ∀ r : Int32, bl (¬ x < 0 ∧ ¬ 6 ≤ x) r → post r σ) : q_X5_isMachine post x σ := by
  unfold q_X5_isMachine q_X5_isMachine_14 q_X5_isMachine_15
  exact ⟨fun h => ⟨bz0, hp 0 (bl0 (fun q => q.1 h))⟩, fun h => ⟨fun h2 => ⟨bz0, hp 0 (bl0 (fun q => q.2 h2))⟩, fun h2 => ⟨bz1, hp 1 (bl1 ⟨h, h2⟩)⟩⟩⟩
theorem s_isTeam {post : Int32 → Mem → Prop} {x : Int32} {σ : Mem} (hp : ∀ r : Int32, bl (¬ x < 0 ∧ ¬ 4 ≤ x) r → post r σ) : q_X5_isTeam post x σ := by
  unfold q_X5_isTeam q_X5_isTeam_13 q_X5_isTeam_14
  exact ⟨fun h => ⟨bz0, hp 0 (bl0 (fun q => q.1 h))⟩, fun h => ⟨fun h2 => ⟨bz0, hp 0 (bl0 (fun q => q.2 h2))⟩, fun h2 => ⟨bz1, hp 1 (bl1 ⟨h, h2⟩)⟩⟩⟩
theorem s_isNumber {post : Int32 → Mem → Prop} {x : Int32} {σ : Mem} (hp : ∀ r : Int32, bl (¬ x < 0 ∧ ¬ 8 ≤ x) r → post r σ) : q_X5_isNumber post x σ := by
  unfold q_X5_isNumber q_X5_isNumber_14 q_X5_isNumber_15
  exact ⟨fun h => ⟨bz0, hp 0 (bl0 (fun q => q.1 h))⟩, fun h => ⟨fun h2 => ⟨bz0, hp 0 (bl0 (fun q => q.2 h2))⟩, fun h2 => ⟨bz1, hp 1 (bl1 ⟨h, h2⟩)⟩⟩⟩
/-- how many numbers a set has, as the JDK counts -/
def bcF (x : Int32) : Int32 :=
  let v1 := (x - (((x.toUInt32 >>> ((1 : Int32).toUInt32 &&& Int32.toUInt32 31)).toInt32) &&& 1431655765))
  let v2 := ((v1 &&& 858993459) + (((v1.toUInt32 >>> ((2 : Int32).toUInt32 &&& Int32.toUInt32 31)).toInt32) &&& 858993459))
  let v3 := ((v2 + ((v2.toUInt32 >>> ((4 : Int32).toUInt32 &&& Int32.toUInt32 31)).toInt32)) &&& 252645135)
  let v4 := (v3 + ((v3.toUInt32 >>> ((8 : Int32).toUInt32 &&& Int32.toUInt32 31)).toInt32))
  let v5 := (v4 + ((v4.toUInt32 >>> ((16 : Int32).toUInt32 &&& Int32.toUInt32 31)).toInt32))
  v5 &&& 63
theorem s_bitCount {post : Int32 → Mem → Prop} {x : Int32} {σ : Mem} (hp : post (bcF x) σ) : q_J6_bitCount_0f7a4 post x σ := by
  unfold q_J6_bitCount_0f7a4
  rintro _ rfl _ rfl _ rfl _ rfl _ rfl
  exact hp
/-- the one number of a set, or none -/
def onF (x : Int32) : Nat → Int32
  | 0 => -1
  | n + 1 => if x = ((1 : Int32) <<< (nI (7 - n) &&& 31)) then nI (7 - n) else onF x n
theorem s_onlyNumber {post : Int32 → Mem → Prop} {x : Int32} {σ : Mem} (hp : post (onF x 8) σ) : q_X4_onlyNumber post x σ := by
  unfold q_X4_onlyNumber
  have key : ∀ n : Nat, n ≤ 8 → post (onF x n) σ → lp_3 (q_X4_onlyNumber_2 post (q_X4_onlyNumber_15 post) (q_X4_onlyNumber_23 post)) (n + 1) x (nI (8 - n)) σ := by
    intro n
    induction n with
    | zero =>
      intro _ h
      show q_X4_onlyNumber_2 _ _ _ _ _ _ _
      unfold q_X4_onlyNumber_2 q_X4_onlyNumber_23
      exact ⟨fun _ => h, fun q => absurd (by decide) q⟩
    | succ n ih =>
      intro hn h
      show q_X4_onlyNumber_2 _ _ _ _ _ _ _
      unfold q_X4_onlyNumber_2 q_X4_onlyNumber_15
      rw [show 8 - (n + 1) = 7 - n by omega]
      refine ⟨fun q => absurd ((nI_leI (a := 8) (b := 7 - n) (by decide) (by omega)).mp q) (by omega), fun _ => ⟨fun q => ?_, fun q => ?_⟩⟩
      · rintro _ rfl
        rw [nI_1, show 7 - n + 1 = 8 - n by omega]
        unfold onF at h
        rw [if_neg q] at h
        exact ih (by omega) h
      · unfold onF at h
        rw [if_pos q] at h
        exact h
  exact ⟨9, key 8 (Nat.le_refl _) hp⟩
theorem onF_r (x : Int32) : ∀ n : Nat, n ≤ 8 → onF x n = -1 ∨ ∃ j : Nat, j < 8 ∧ onF x n = nI j := by
  intro n
  induction n with
  | zero => intro _; exact Or.inl rfl
  | succ n ih =>
    intro hn
    unfold onF
    split
    · exact Or.inr ⟨7 - n, by omega, rfl⟩
    · exact ih (by omega)
