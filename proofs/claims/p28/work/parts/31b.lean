/-! NUMBERS OF A SET, one by one -/
theorem sh_bv : ∀ i : Nat, i < 8 → ((nI i &&& 31).toBitVec.smod 32) = BitVec.ofNat 32 i := by decide +kernel
theorem hasB_bit {x : Int32} {i : Nat} (hi : i < 8) : hasB x (nI i) ↔ x.toBitVec.getLsbD i = true := by
  unfold hasB
  have e : (x >>> (nI i &&& 31) &&& 1 : Int32) = 0 ↔ x.toBitVec.getLsbD i = false := by
    rw [← Int32.toBitVec_inj]
    have h1 : (x >>> (nI i &&& 31) &&& 1 : Int32).toBitVec = (x.toBitVec.sshiftRight i) &&& 1#32 := by
      show (x.toBitVec.sshiftRight' ((nI i &&& 31).toBitVec.smod 32)) &&& 1#32 = _
      rw [sh_bv i hi]
      show (x.toBitVec.sshiftRight (BitVec.ofNat 32 i).toNat) &&& 1#32 = _
      rw [BitVec.toNat_ofNat, Nat.mod_eq_of_lt (by omega)]
    rw [h1]
    have h2 : (x.toBitVec.sshiftRight i).getLsbD 0 = x.toBitVec.getLsbD i := by
      rw [BitVec.getLsbD_sshiftRight]
      simp
      intro h
      omega
    rw [← h2]
    generalize x.toBitVec.sshiftRight i = y
    constructor
    · intro h
      have := congrArg (fun z => BitVec.getLsbD z 0) h
      simpa [BitVec.getLsbD_and] using this
    · intro h
      apply BitVec.eq_of_getLsbD_eq
      intro j hj
      rw [BitVec.getLsbD_and]
      by_cases q : j = 0
      · subst q; rw [h]; simp
      · have : (1#32 : BitVec 32).getLsbD j = false := by
          simp [BitVec.getLsbD_one]
          omega
        rw [this]
        simp
  rw [e]
  simp
theorem hasB_or {x y : Int32} {i : Nat} (hi : i < 8) : hasB (x ||| y) (nI i) ↔ hasB x (nI i) ∨ hasB y (nI i) := by
  rw [hasB_bit hi, hasB_bit hi, hasB_bit hi]
  show (x.toBitVec ||| y.toBitVec).getLsbD i = true ↔ _
  rw [BitVec.getLsbD_or]
  simp
theorem hasB_and {x y : Int32} {i : Nat} (hi : i < 8) : hasB (x &&& y) (nI i) ↔ hasB x (nI i) ∧ hasB y (nI i) := by
  rw [hasB_bit hi, hasB_bit hi, hasB_bit hi]
  show (x.toBitVec &&& y.toBitVec).getLsbD i = true ↔ _
  rw [BitVec.getLsbD_and]
  simp
theorem hasB_one : ∀ k : Nat, k < 8 → ∀ i : Nat, i < 8 → (((1 : Int32) <<< (nI k &&& 31)) >>> (nI i &&& 31) &&& 1 = 0 ↔ ¬ i = k) := by decide +kernel
theorem hasB_one2 {k i : Nat} (hk : k < 8) (hi : i < 8) : hasB ((1 : Int32) <<< (nI k &&& 31)) (nI i) ↔ i = k := by
  unfold hasB
  rw [hasB_one k hk i hi]
  exact Classical.not_not
theorem hasB_0 {i : Nat} (hi : i < 8) : ¬ hasB 0 (nI i) := by
  rw [hasB_bit hi]
  simp
/-- defaults of a field and a rank -/
theorem dfF_bit {σ : Mem} {f nF nL i : Nat} {rank : Int32} (hL : LV σ nF nL) (hi : i < 8) : ∀ (d j : Nat) (x : Int32), j + d = nL → (hasB (dfF σ f rank d j x) (nI i) ↔ hasB x (nI i) ∨ ∃ k : Nat, j ≤ k ∧ k < nL ∧ σ 4 k = 5 ∧ σ 6 k = nI f ∧ σ 8 k = rank ∧ σ 7 k = nI i ∧ ctP σ k) := by
  intro d
  induction d with
  | zero =>
    intro j x hj
    show hasB x (nI i) ↔ _
    constructor
    · exact Or.inl
    · rintro (h | ⟨k, h1, h2, -⟩)
      · exact h
      · omega
  | succ d ih =>
    intro j x hj
    unfold dfF
    rw [ih (j + 1) _ (by omega)]
    have split : (∃ k : Nat, j ≤ k ∧ k < nL ∧ σ 4 k = 5 ∧ σ 6 k = nI f ∧ σ 8 k = rank ∧ σ 7 k = nI i ∧ ctP σ k) ↔ (σ 4 j = 5 ∧ σ 6 j = nI f ∧ σ 8 j = rank ∧ σ 7 j = nI i ∧ ctP σ j) ∨ ∃ k : Nat, j + 1 ≤ k ∧ k < nL ∧ σ 4 k = 5 ∧ σ 6 k = nI f ∧ σ 8 k = rank ∧ σ 7 k = nI i ∧ ctP σ k := by
      constructor
      · rintro ⟨k, h1, h2, h3⟩
        rcases Nat.lt_or_ge j k with q | q
        · exact Or.inr ⟨k, q, h2, h3⟩
        · have : k = j := by omega
          subst this
          exact Or.inl h3
      · rintro (h | ⟨k, h1, h2, h3⟩)
        · exact ⟨j, Nat.le_refl _, by omega, h⟩
        · exact ⟨k, by omega, h2, h3⟩
    rw [split]
    by_cases c : σ 4 j = 5 ∧ σ 6 j = nI f ∧ σ 8 j = rank ∧ ctP σ j
    · rw [if_pos c]
      obtain ⟨k, hk, ek⟩ := vin_ex (by decide) ((hL.2.2.2.2 j (by omega)).2.2.2.2.1 (Or.inr (Or.inr c.1)))
      rw [ek, hasB_or hi, hasB_one2 hk hi]
      have : (σ 4 j = 5 ∧ σ 6 j = nI f ∧ σ 8 j = rank ∧ nI k = nI i ∧ ctP σ j) ↔ i = k := by
        constructor
        · intro z; exact (nI_inj (by omega) (by omega) z.2.2.2.1).symm
        · intro z; subst z; exact ⟨c.1, c.2.1, c.2.2.1, rfl, c.2.2.2⟩
      rw [this, or_assoc]
    · rw [if_neg c]
      have : ¬ (σ 4 j = 5 ∧ σ 6 j = nI f ∧ σ 8 j = rank ∧ σ 7 j = nI i ∧ ctP σ j) := fun z => c ⟨z.1, z.2.1, z.2.2.1, z.2.2.2.2⟩
      constructor
      · rintro (h | h)
        · exact Or.inl h
        · exact Or.inr (Or.inr h)
      · rintro (h | h | h)
        · exact Or.inl h
        · exact absurd h this
        · exact Or.inr h
theorem dfF_sm {σ τ : Mem} {f : Nat} {rank : Int32} (e : ∀ p : Nat, p ≤ 10 → τ p = σ p) : ∀ (d j : Nat) (x : Int32), dfF τ f rank d j x = dfF σ f rank d j x := by
  intro d
  induction d with
  | zero => intro j x; rfl
  | succ d ih =>
    intro j x
    unfold dfF
    have k : (τ 4 j = 5 ∧ τ 6 j = nI f ∧ τ 8 j = rank ∧ ctP τ j) ↔ (σ 4 j = 5 ∧ σ 6 j = nI f ∧ σ 8 j = rank ∧ ctP σ j) := and_congr (by rw [e 4 (by decide)]) (and_congr (by rw [e 6 (by decide)]) (and_congr (by rw [e 8 (by decide)]) (ctP_sm e j)))
    rw [ih]
    by_cases c : σ 4 j = 5 ∧ σ 6 j = nI f ∧ σ 8 j = rank ∧ ctP σ j
    · rw [if_pos c, if_pos (k.mpr c), e 7 (by decide)]
    · rw [if_neg c, if_neg (fun z => c (k.mp z))]
