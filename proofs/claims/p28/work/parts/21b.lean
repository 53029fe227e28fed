/-! THE REFERENCE: rows of sets -/
theorem nI_mul (a b : Nat) : nI a * nI b = nI (a * b) := (Int32.ofNat_mul a b).symm
theorem ix5 (d f : Nat) : nI d * 5 + nI f = nI (5 * d + f) := by
  rw [show nI d * 5 = nI (5 * d) by rw [Nat.mul_comm]; exact nI_mul d 5]
  exact nI_add _ _
theorem and1 (x : Int32) : x &&& 1 = 0 ∨ x &&& 1 = 1 := by
  have h : ∀ x : BitVec 32, x &&& 1 = 0 ∨ x &&& 1 = 1 := by
    intro x
    rcases Nat.mod_two_eq_zero_or_one x.toNat with q | q
    · left; apply BitVec.eq_of_toNat_eq; simp [BitVec.toNat_and, Nat.and_one_is_mod, q]
    · right; apply BitVec.eq_of_toNat_eq; simp [BitVec.toNat_and, Nat.and_one_is_mod, q]
  rcases h x.toBitVec with q | q
  · left; apply Int32.toBitVec_inj.mp; exact q
  · right; apply Int32.toBitVec_inj.mp; exact q
theorem or_0 {x y : Int32} : x ||| y = 0 ↔ x = 0 ∧ y = 0 := by
  constructor
  · intro h
    have h2 : x.toBitVec ||| y.toBitVec = 0#32 := congrArg Int32.toBitVec h
    have h3 := BitVec.or_eq_zero_iff.mp h2
    exact ⟨Int32.toBitVec_inj.mp h3.1, Int32.toBitVec_inj.mp h3.2⟩
  · rintro ⟨rfl, rfl⟩
    decide
def row (d : Nat) (τ : Mem) : Mw := fun f => if f < 5 then τ 7 (5 * d + f) else 0
def put (d : Nat) (m : Mw) (τ : Mem) : Mem := mup τ 7 (fun i => if 5 * d ≤ i ∧ i < 5 * d + 5 then m (i - 5 * d) else τ 7 i)
def full : Mw := fun f => if f < 5 then 255 else 0
/-- five sets, nothing behind -/
def RW (m : Mw) : Prop := (∀ f : Nat, 5 ≤ f → m f = 0) ∧ ∀ f : Nat, m f &&& 255 = m f
theorem row_lt {d f : Nat} {τ : Mem} (h : f < 5) : row d τ f = τ 7 (5 * d + f) := if_pos h
theorem put_te {d : Nat} {m : Mw} {τ : Mem} : TE τ (put d m τ) := TE.mup (by omega)
theorem put_ne {d p : Nat} {m : Mw} {τ : Mem} (h : p ≠ 7) : put d m τ p = τ p := mup_ne h
theorem row_put {d : Nat} {m : Mw} {τ : Mem} (h : RW m) : row d (put d m τ) = m := by
  funext f
  unfold row put
  rw [mup_eq]
  by_cases hf : f < 5
  · rw [if_pos hf, if_pos ⟨by omega, by omega⟩, show 5 * d + f - 5 * d = f by omega]
  · rw [if_neg hf, h.1 f (by omega)]
theorem row_put_ne {d e : Nat} {m : Mw} {τ : Mem} (h : e ≠ d) : row e (put d m τ) = row e τ := by
  funext f
  unfold row put
  rw [mup_eq]
  by_cases hf : f < 5
  · rw [if_pos hf, if_pos hf, if_neg (by omega)]
  · rw [if_neg hf, if_neg hf]
theorem put_put {d : Nat} {m m' : Mw} {τ : Mem} : put d m' (put d m τ) = put d m' τ := by
  unfold put
  rw [mup_mup, mup_eq]
  congr 1
  funext i
  by_cases h : 5 * d ≤ i ∧ i < 5 * d + 5
  · rw [if_pos h, if_pos h]
  · rw [if_neg h, if_neg h, if_neg h]
theorem put_congr {d : Nat} {m m' : Mw} {τ : Mem} (h : ∀ f : Nat, f < 5 → m f = m' f) : put d m τ = put d m' τ := by
  unfold put
  congr 1
  funext i
  by_cases hi : 5 * d ≤ i ∧ i < 5 * d + 5
  · rw [if_pos hi, if_pos hi]; exact h _ (by omega)
  · rw [if_neg hi, if_neg hi]
theorem put_row {d : Nat} {τ : Mem} : put d (row d τ) τ = τ := by
  have : (fun i => if 5 * d ≤ i ∧ i < 5 * d + 5 then row d τ (i - 5 * d) else τ 7 i) = τ 7 := by
    funext i
    by_cases hi : 5 * d ≤ i ∧ i < 5 * d + 5
    · rw [if_pos hi, row_lt (by omega), show 5 * d + (i - 5 * d) = i by omega]
    · rw [if_neg hi]
  unfold put
  rw [this, mup_self]
theorem mst_put {d f : Nat} {x : Int32} {τ : Mem} (hf : f < 5) : mst τ 7 (5 * d + f) x = put d (upd (row d τ) f x) τ := by
  rw [mst_mup]
  unfold put
  congr 1
  funext i
  by_cases h : i = 5 * d + f
  · subst h
    rw [upd_eq, if_pos ⟨by omega, by omega⟩, show 5 * d + f - 5 * d = f by omega, upd_eq]
  · rw [upd_ne h]
    by_cases hi : 5 * d ≤ i ∧ i < 5 * d + 5
    · rw [if_pos hi, upd_ne (by omega), row_lt (by omega), show 5 * d + (i - 5 * d) = i by omega]
    · rw [if_neg hi]
theorem v35 {d f : Nat} (hd : d < 7) (hf : f < 5) : vp_in (nI (5 * d + f)) 35 := vin_j (by omega) (by decide)
theorem c35 {d f : Nat} (hd : d < 7) (hf : f < 5) : (nI (5 * d + f)).toNatClampNeg = 5 * d + f := nI_clamp (by omega)
theorem s_setOf {n c d f : Nat} {post : Int32 → Mem → Prop} {τ : Mem} (hd : d < 7) (hf : f < 5) (hp : post (row d τ f) τ) : q_X8_setOf n c post (nI d) (nI f) τ := by
  unfold q_X8_setOf
  rw [ix5, c35 hd hf]
  rw [row_lt hf] at hp
  exact ⟨v35 hd hf, hp⟩
theorem s_X8_count {n c d f : Nat} {post : Int32 → Mem → Prop} {τ : Mem} (hd : d < 7) (hf : f < 5) (hp : post (bcF (row d τ f)) τ) : q_X8_count n c post (nI d) (nI f) τ := by
  unfold q_X8_count
  exact s_setOf hd hf (s_bitCount hp)
theorem s_canBe {n c d f : Nat} {post : Int32 → Mem → Prop} {x : Int32} {τ : Mem} (hd : d < 7) (hf : f < 5) (hp : ∀ r : Int32, bl (hasB (row d τ f) x) r → post r τ) : q_X8_canBe n c post (nI d) (nI f) x τ := by
  unfold q_X8_canBe q_X8_canBe_19
  refine s_setOf hd hf ⟨fun q => ⟨bz0, hp 0 (bl0 (fun z => z ((and1 _).resolve_right q)))⟩, fun q => ⟨bz1, hp 1 (bl1 (fun z => absurd (q.symm.trans z) (by decide)))⟩⟩
theorem s_only {n c d f : Nat} {post : Mem → Prop} {x : Int32} {τ : Mem} (hd : d < 7) (hf : f < 5) (hp : post (put d (upd (row d τ) f (row d τ f &&& ((1 : Int32) <<< (x &&& 31)))) τ)) : q_X8_only n c post (nI d) (nI f) x τ := by
  unfold q_X8_only
  rw [ix5]
  rintro _ rfl
  rw [c35 hd hf]
  refine ⟨v35 hd hf, v35 hd hf, ?_⟩
  rintro _ rfl
  rw [mst_put hf]
  rw [row_lt hf] at hp
  exact hp
theorem s_copy8 {n c a b : Nat} {post : Mem → Prop} {τ : Mem} (ha : a < 7) (hb : b < 7) (hp : post (put b (row a τ) τ)) : q_X8_copy n c post (nI a) (nI b) τ := by
  have ea : nI a * 5 = nI (5 * a) := by rw [Nat.mul_comm]; exact nI_mul a 5
  have eb : nI b * 5 = nI (5 * b) := by rw [Nat.mul_comm]; exact nI_mul b 5
  unfold q_X8_copy
  rw [ea, eb, nI_clamp (show 5 * a < 2 ^ 31 by omega), nI_clamp (show 5 * b < 2 ^ 31 by omega)]
  refine ⟨nI_pos0 (by omega), nI_pos0 (by omega), (show 5 * a + 5 ≤ 35 by omega), (show 5 * b + 5 ≤ 35 by omega), ?_⟩
  rintro _ rfl
  have e : mup τ 7 (va_cpy (τ 7) (τ 7) (5 * a) (5 * b) ((5 : Int32).toNatClampNeg)) = put b (row a τ) τ := by
    unfold put
    congr 1
    funext k
    show (if 5 * b ≤ k ∧ k < 5 * b + 5 then τ 7 (5 * a + (k - 5 * b)) else τ 7 k) = _
    by_cases h : 5 * b ≤ k ∧ k < 5 * b + 5
    · rw [if_pos h, if_pos h, row_lt (by omega)]
    · rw [if_neg h, if_neg h]
  rw [e]
  exact hp
theorem s_begin8 {n c d : Nat} {post : Mem → Prop} {τ : Mem} (hd : d < 7) (hp : post (put d full τ)) : q_X8_begin n c post (nI d) τ := by
  unfold q_X8_begin
  have key : ∀ (k f : Nat) (m : Mw), f + k = 5 → (∀ i : Nat, i < f → m i = 255) → lp_3 (q_X8_begin_2 n c post (q_X8_begin_26 n c post)) (k + 1) (nI d) (nI f) (put d m τ) := by
    intro k
    induction k with
    | zero =>
      intro f m hf hm
      show q_X8_begin_2 _ _ _ _ _ _ _ _
      unfold q_X8_begin_2 q_X8_begin_26
      rw [show f = 5 by omega]
      refine ⟨fun _ => ?_, fun z => absurd (by decide) z⟩
      rw [put_congr (m' := full) (fun i hi => (hm i (by omega)).trans (if_pos hi).symm)]
      exact hp
    | succ k ih =>
      intro f m hf hm
      show q_X8_begin_2 _ _ _ _ _ _ _ _
      unfold q_X8_begin_2
      rw [ix5, c35 hd (by omega)]
      refine ⟨fun z => absurd ((nI_leI (a := 5) (b := f) (by decide) (by omega)).mp z) (by omega), fun _ => ⟨v35 hd (by omega), ?_⟩⟩
      rintro _ rfl _ rfl
      rw [nI_1, mst_put (by omega), put_put]
      refine ih (f + 1) _ (by omega) (fun i hi => ?_)
      by_cases e : i = f
      · subst e; exact upd_eq
      · rw [upd_ne e, row_lt (by omega)]
        have h9 := hm i (by omega)
        unfold put
        rw [mup_eq, if_pos ⟨by omega, by omega⟩, show 5 * d + i - 5 * d = i by omega]
        exact h9
  have := key 5 0 (row d τ) rfl (fun i hi => absurd hi (Nat.not_lt_zero i))
  rw [put_row] at this
  exact ⟨6, this⟩
theorem full_RW : RW full := by
  refine ⟨fun f hf => if_neg (by omega), fun f => ?_⟩
  unfold full
  split
  · decide
  · decide
theorem emC_1 (m : Mw) : ∀ (d f : Nat), emC m d f 1 = 1 := by
  intro d
  induction d with
  | zero => intro f; rfl
  | succ d ih =>
    intro f
    unfold emC
    split
    · exact ih _
    · exact ih _
theorem s_isEmpty {n c d nF nL : Nat} {post : Int32 → Mem → Prop} {τ : Mem} (h : LV (tm n τ) nF nL) (hd : d < 7) (hp : post (emC (row d τ) nF 0 0) τ) : q_X8_isEmpty n c post (nI d) τ := by
  have h5 := h.1
  unfold q_X8_isEmpty
  have key : ∀ (k f : Nat), f + k = nF → post (emC (row d τ) k f 0) τ → lp_3 (q_X8_isEmpty_2 n c post (q_X8_isEmpty_19 n c post) (q_X8_isEmpty_27 n c post)) (k + 1) (nI d) (nI f) τ := by
    intro k
    induction k with
    | zero =>
      intro f hf hp
      show q_X8_isEmpty_2 _ _ _ _ _ _ _ _ _
      unfold q_X8_isEmpty_2 q_X8_isEmpty_27
      rw [nfm h]
      exact ⟨fun _ => hp, fun q => absurd (nI_le (by omega) (by omega)) q⟩
    | succ k ih =>
      intro f hf hp
      show q_X8_isEmpty_2 _ _ _ _ _ _ _ _ _
      unfold q_X8_isEmpty_2 q_X8_isEmpty_19
      rw [nfm h]
      unfold emC at hp
      refine ⟨fun q => absurd ((nI_leI (by omega) (by omega)).mp q) (by omega), fun _ => s_setOf hd (by omega) ⟨fun q => ?_, fun q => ?_⟩⟩
      · rintro _ rfl
        rw [nI_1]
        rw [if_neg q] at hp
        exact ih (f + 1) (by omega) hp
      · rw [if_pos q, emC_1] at hp
        exact hp
  exact ⟨nF + 1, key nF 0 (Nat.zero_add _) hp⟩
theorem and_s8 {a b : Int32} (h : a &&& 255 = a) : (a &&& b) &&& 255 = a &&& b := by
  rw [Int32.and_assoc, Int32.and_comm b 255, ← Int32.and_assoc, h]
theorem upd_RW {m : Mw} {f : Nat} {x : Int32} (h : RW m) (hf : f < 5) (hx : x &&& 255 = x) : RW (upd m f x) := by
  refine ⟨fun i hi => ?_, fun i => ?_⟩
  · rw [upd_ne (by omega)]; exact h.1 i hi
  · by_cases e : i = f
    · subst e; rw [upd_eq]; exact hx
    · rw [upd_ne e]; exact h.2 i
theorem tk_RW {kd ab sd bs : Int32} {m : Mw} (h : RW m) (ha : vp_in ab 5) (hs : (kd = 3 ∨ kd = 4) → vp_in sd 5) : RW (tkF kd ab sd bs m) := by
  unfold tkF
  split
  · rename_i hk
    exact upd_RW (upd_RW h (vin_lt ha) (and_s8 (h.2 _))) (vin_lt (hs hk)) (and_s8 (h.2 _))
  · exact upd_RW h (vin_lt ha) (and_s8 (h.2 _))
theorem s8_ex {x : Int32} (h : x &&& 255 = x) : ∃ j : Nat, j < 256 ∧ x = nI j := by
  have hb : x.toBitVec &&& 255#32 = x.toBitVec := congrArg Int32.toBitVec h
  refine ⟨x.toBitVec.toNat, ?_, ?_⟩
  · have : (x.toBitVec &&& 255#32).toNat ≤ 255 := by
      rw [BitVec.toNat_and]
      exact Nat.and_le_right
    rw [hb] at this
    omega
  · apply Int32.toBitVec_inj.mp
    apply BitVec.eq_of_toNat_eq
    show x.toBitVec.toNat = (BitVec.ofNat 32 x.toBitVec.toNat).toNat
    rw [BitVec.toNat_ofNat]
    exact (Nat.mod_eq_of_lt x.toBitVec.isLt).symm
