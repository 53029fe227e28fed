/-! THE REFERENCE: what is told, as the class keeps it -/
def tm (n : Nat) (τ : Mem) : Mem := fun p j =>
  if p = 1 then (if j = 9 then τ 0 3 else if j = 10 then nI n else 0) else if p = 2 then τ 1 j else if p = 3 then τ 2 j else if p = 4 then τ (100 + j) 0 else if p = 5 then τ (100 + j) 1 else if p = 6 then τ (100 + j) 2 else if p = 7 then τ (100 + j) 3 else if p = 8 then τ (100 + j) 4 else if p = 9 then τ (100 + j) 5 else if p = 10 then τ (100 + j) 6 else 0
/-- two memories of the reference that tell the same -/
def TE (τ ρ : Mem) : Prop := ρ 0 3 = τ 0 3 ∧ (∀ p : Nat, (p = 1 ∨ p = 2 ∨ 100 ≤ p) → ρ p = τ p)
theorem TE.etm {τ ρ : Mem} {n : Nat} (h : TE τ ρ) : tm n ρ = tm n τ := by
  funext p j
  unfold tm
  rw [h.1, h.2 1 (by omega), h.2 2 (by omega), h.2 (100 + j) (by omega)]
theorem TE.rf {τ : Mem} : TE τ τ := ⟨rfl, fun _ _ => rfl⟩
theorem TE.trans {τ ρ χ : Mem} (h : TE τ ρ) (h2 : TE ρ χ) : TE τ χ := ⟨h2.1.trans h.1, fun p hp => (h2.2 p hp).trans (h.2 p hp)⟩
theorem TE.mup {τ : Mem} {p : Nat} {f : Nat → Int32} (hp : 2 < p ∧ p < 100) : TE τ (mup τ p f) := ⟨by rw [mup_ne (by omega)], fun q hq => mup_ne (by omega)⟩
theorem TE.mst0 {τ : Mem} {i : Nat} {x : Int32} (hi : i ≠ 3) : TE τ (mst τ 0 i x) := ⟨by rw [mst_eq, upd_ne (Ne.symm hi)], fun q hq => mst_ne (by omega)⟩
theorem TE.mst {τ : Mem} {p i : Nat} {x : Int32} (hp : 2 < p ∧ p < 100) : TE τ (mst τ p i x) := ⟨by rw [mst_ne (by omega)], fun q hq => mst_ne (by omega)⟩
theorem nfm {n nF nL : Nat} {τ : Mem} (h : LV (tm n τ) nF nL) : τ 0 3 = nI nF := h.nf
theorem s_X8_is {post : Int32 → Mem → Prop} {x a b : Int32} {τ : Mem} (hp : ∀ r : Int32, bl (¬ x < a ∧ ¬ b < x) r → post r τ) : q_X8_is post x a b τ := by
  unfold q_X8_is q_X8_is_14 q_X8_is_15
  exact ⟨fun q => ⟨bz0, hp 0 (bl0 (fun z => z.1 q))⟩, fun q => ⟨fun q2 => ⟨bz0, hp 0 (bl0 (fun z => z.2 q2))⟩, fun q2 => ⟨bz1, hp 1 (bl1 ⟨q, q2⟩)⟩⟩⟩
/-- from 0 to n - 1 -/
theorem is_vin {x : Int32} {n : Nat} (hn : n < 2 ^ 30) : (¬ x < 0 ∧ ¬ (nI n - 1) < x) ↔ vp_in x n := by
  have h31 : n < 2 ^ 31 := by omega
  have e : (nI n - 1).toInt = (n : Int) - 1 := by
    rcases Nat.eq_zero_or_pos n with z | z
    · subst z; decide
    · have h1 := nI_1 (n - 1)
      rw [show n - 1 + 1 = n by omega] at h1
      rw [← h1, show nI (n - 1) + 1 - 1 = nI (n - 1) from Int32.add_sub_cancel _ _, nI_toInt (by omega)]
      omega
  constructor
  · rintro ⟨h1, h2⟩
    refine vin_lo h31 h1 (fun z => h2 ?_)
    rw [Int32.le_iff_toInt_le, nI_toInt h31] at z
    rw [Int32.lt_iff_toInt_lt, e]
    omega
  · intro h
    obtain ⟨j, hj, rfl⟩ := vin_ex h31 h
    refine ⟨nI_pos0 (by omega), fun z => ?_⟩
    rw [Int32.lt_iff_toInt_lt, e, nI_toInt (by omega)] at z
    omega
theorem s_X8_isMachine {post : Int32 → Mem → Prop} {x : Int32} {τ : Mem} (hp : ∀ r : Int32, bl (vp_in x 6) r → post r τ) : q_X8_isMachine post x τ := by
  unfold q_X8_isMachine
  exact s_X8_is (fun r hr => ⟨hr.1, hp r (hr.iff (is_vin (n := 6) (by decide)))⟩)
theorem s_X8_isField {n c nF nL : Nat} {post : Int32 → Mem → Prop} {x : Int32} {τ : Mem} (h : LV (tm n τ) nF nL) (hp : ∀ r : Int32, bl (vp_in x nF) r → post r τ) : q_X8_isField n c post x τ := by
  have h5 := h.1
  unfold q_X8_isField
  rw [nfm h]
  exact s_X8_is (fun r hr => ⟨hr.1, hp r (hr.iff (is_vin (by omega)))⟩)
theorem s_X8_isLine {n c : Nat} {post : Int32 → Mem → Prop} {x : Int32} {τ : Mem} (hn : n ≤ 30) (hp : ∀ r : Int32, bl (vp_in x n) r → post r τ) : q_X8_isLine n c post x τ := by
  unfold q_X8_isLine
  exact s_X8_is (fun r hr => ⟨hr.1, hp r (hr.iff (is_vin (by omega)))⟩)
theorem s_X8_counts {n c j : Nat} {post : Int32 → Mem → Prop} {τ : Mem} (ha : vp_in (τ (100 + j) 2) 5) (hp : ∀ r : Int32, bl (ctP (tm n τ) j) r → post r τ) : q_X8_counts n c j post τ := by
  have h0 : ∀ r : Int32, bl (τ (100 + j) 6 = 0 ∧ (¬ τ (100 + j) 5 = 0 ∨ τ (100 + j) 1 = τ 1 (τ (100 + j) 2).toNatClampNeg)) r → post r τ := hp
  unfold q_X8_counts q_X8_counts_30 q_X8_counts_34 q_X8_counts_35
  refine ⟨fun q => ⟨bz0, h0 0 (bl0 (fun z => q z.1))⟩, fun q => ⟨ha, fun q2 => ⟨bz1, h0 1 (bl1 ⟨q, Or.inr q2⟩)⟩, fun q2 => ⟨fun q3 => ⟨bz0, h0 0 (bl0 (fun z => z.2.elim (fun w => w q3) q2))⟩, fun q3 => ⟨bz1, h0 1 (bl1 ⟨q, Or.inl q3⟩)⟩⟩⟩⟩
theorem kd5 {x : Int32} (h : vp_in x 6) : (5 ≤ x → x = 5) ∧ (¬ 5 ≤ x → ¬ x = 5) := by
  obtain ⟨j, hj, rfl⟩ := vin_ex (by decide) h
  refine ⟨fun q => ?_, fun q e => q (by rw [e]; decide)⟩
  have := (nI_leI (a := 5) (b := j) (by decide) (by omega)).mp q
  rw [show j = 5 by omega]
  rfl
theorem s_counting {n c nF : Nat} {post : Int32 → Mem → Prop} {τ : Mem} (h : LV (tm n τ) nF n) (hp : post (stF (tm n τ) n 0 0) τ) : q_X8_counting n c post τ := by
  have h30 := h.2.1
  unfold q_X8_counting
  have key : ∀ (d j : Nat) (x : Int32), j + d = n → post (stF (tm n τ) d j x) τ → lp_3 (q_X8_counting_4 n c post (q_X8_counting_67 n c post)) (d + 1) x (nI j) τ := by
    intro d
    induction d with
    | zero =>
      intro j x hj hp
      show q_X8_counting_4 _ _ _ _ _ _ _ _
      unfold q_X8_counting_4 q_X8_counting_67
      exact ⟨fun _ => hp, fun q => absurd (nI_le (by omega) (by omega)) q⟩
    | succ d ih =>
      intro j x hj hp
      show q_X8_counting_4 _ _ _ _ _ _ _ _
      have hj2 : j < n := by omega
      have nx : ∀ s0 : Int32, (if ¬ tm n τ 4 j = 5 ∧ ctP (tm n τ) j then x ||| ((1 : Int32) <<< (nI j &&& 31)) else x) = x ||| s0 → q_X8_counting_59 n c post (q_X8_counting_67 n c post) (lp_3 (q_X8_counting_4 n c post (q_X8_counting_67 n c post)) (d + 1)) s0 x (nI j) τ := fun s0 e => by
        unfold q_X8_counting_59
        rintro _ rfl _ rfl
        rw [nI_1]
        refine ih (j + 1) _ (by omega) ?_
        unfold stF at hp
        rw [e] at hp
        exact hp
      have x0 : x ||| 0 = x := by
        apply Int32.toBitVec_inj.mp
        simp
      unfold q_X8_counting_4 q_X8_counting_58
      refine ⟨fun q => absurd ((nI_leI (by omega) (by omega)).mp q) (by omega), fun _ => ⟨j, ⟨hj2, rfl⟩, s_X8_counts (n := n) (h.ab hj2) (fun r hr => ⟨fun z => nx 0 ?_, fun z => ⟨j, ⟨hj2, rfl⟩, fun q => nx 0 ?_, fun q => nx _ ?_⟩⟩)⟩⟩
      · rw [if_neg (fun w => hr.f z w.2), x0]
      · rw [if_neg (fun w => w.1 ((kd5 (h.2.2.2.2 j hj2).2.1).1 q)), x0]
      · rw [if_pos ⟨(kd5 (h.2.2.2.2 j hj2).2.1).2 q, hr.t z⟩]
  exact ⟨n + 1, key n 0 0 (Nat.zero_add n) hp⟩
