/-! LINES OF A SET, one by one -/
theorem sh_bv32 : ∀ i : Nat, i < 32 → ((nI i &&& 31).toBitVec.smod 32) = BitVec.ofNat 32 i := by decide +kernel
theorem bit_j {x : Int32} {i : Nat} (hi : i < 32) : ((x >>> (nI i &&& 31)) &&& 1) = 0 ↔ x.toBitVec.getLsbD i = false := by
  rw [← Int32.toBitVec_inj]
  have h1 : (x >>> (nI i &&& 31) &&& 1 : Int32).toBitVec = (x.toBitVec.sshiftRight i) &&& 1#32 := by
    show (x.toBitVec.sshiftRight' ((nI i &&& 31).toBitVec.smod 32)) &&& 1#32 = _
    rw [sh_bv32 i hi]
    show (x.toBitVec.sshiftRight (BitVec.ofNat 32 i).toNat) &&& 1#32 = _
    rw [BitVec.toNat_ofNat, Nat.mod_eq_of_lt (by omega)]
  rw [h1]
  have h2 : (x.toBitVec.sshiftRight i).getLsbD 0 = x.toBitVec.getLsbD i := by
    rw [BitVec.getLsbD_sshiftRight]
    simp
    intro h
    omega
  rw [← h2]
  generalize x.toBitVec.sshiftRight i = y
  constructor
  · intro h
    have := congrArg (fun z => BitVec.getLsbD z 0) h
    simpa [BitVec.getLsbD_and] using this
  · intro h
    apply BitVec.eq_of_getLsbD_eq
    intro j hj
    rw [BitVec.getLsbD_and]
    by_cases q : j = 0
    · subst q; rw [h]; simp
    · have : (1#32 : BitVec 32).getLsbD j = false := by
        simp [BitVec.getLsbD_one]
        omega
      rw [this]
      simp
theorem no_bit : ∀ j : Nat, j < 32 → ∀ i : Nat, i < 32 → (((1 : Int32) <<< (nI j &&& 31)) ^^^ (-1)).toBitVec.getLsbD i = !decide (i = j) := by decide +kernel
theorem less_eq {x : Int32} {j : Nat} (hj : j < 32) : x &&& (((1 : Int32) <<< (nI j &&& 31)) ^^^ (-1)) = x ↔ ((x >>> (nI j &&& 31)) &&& 1) = 0 := by
  rw [bit_j hj, ← Int32.toBitVec_inj]
  show x.toBitVec &&& (((1 : Int32) <<< (nI j &&& 31)) ^^^ (-1)).toBitVec = x.toBitVec ↔ _
  constructor
  · intro h
    have := congrArg (fun z => BitVec.getLsbD z j) h
    simp only [BitVec.getLsbD_and] at this
    rw [no_bit j hj j hj] at this
    simpa using this.symm
  · intro h
    apply BitVec.eq_of_getLsbD_eq
    intro i hi
    rw [BitVec.getLsbD_and, no_bit j hj i hi]
    by_cases q : i = j
    · subst q; rw [h]; rfl
    · simp [q]
