/-! THE CLASS: what is only asked leaves all but its trials -/
def QE (σ σ' : Mem) : Prop := (∀ p : Nat, (p ≤ 13 ∨ p = 17 ∨ 21 ≤ p) → σ' p = σ p) ∧ bz (σ' 14 2) ∧ σ' 18 4 = σ 18 4 ∧ σ' 18 5 = σ 18 5
abbrev KQ (σ : Mem) (post : Int32 → Mem → Int64 → Value → Prop) : Prop := ∀ (k : Int32) (σ' : Mem) (n : Int64) (v : Value), QE σ σ' → post k σ' n v
theorem qe_rf {σ : Mem} {nF nL nC : Nat} (h : CI σ nF nL nC) : QE σ σ := ⟨fun _ _ => rfl, h.2.2.2.2.1, rfl, rfl⟩
theorem qe_ae {σ τ : Mem} {nF nL nC : Nat} (h : CI σ nF nL nC) (ha : AE σ τ) : QE σ τ := ⟨fun p hp => ha.1 p (by omega) (by omega), ha.2, by rw [ha.1 18 (by decide) (by decide)], by rw [ha.1 18 (by decide) (by decide)]⟩
section KQW
variable {post : Int32 → Mem → Int64 → Value → Prop} {σ : Mem} {nF nL nC : Nat} {a1 a2 a3 a4 : Int32} {n : Int64} {v : Value}
theorem kq_ofField (h : CI σ nF nL nC) (hp : KQ σ post) : q_L_ofField post a1 a2 n v σ := by
  unfold q_L_ofField
  exact s_X5_ofField h (fun _ => Or.inl ⟨rfl, hp _ _ _ _ (qe_rf h)⟩) (fun _ _ => Or.inr ⟨rfl, hp _ _ _ _ (qe_rf h)⟩) (fun _ _ _ _ _ _ => hp _ _ _ _ (qe_rf h))
theorem kq_ofLine (h : CI σ nF nL nC) (hp : KQ σ post) : q_L_ofLine post a1 a2 n v σ := by
  unfold q_L_ofLine
  refine s_X5_ofLine h (fun _ => Or.inl ⟨rfl, hp _ _ _ _ (qe_rf h)⟩) (fun _ _ => Or.inr ⟨rfl, hp _ _ _ _ (qe_rf h)⟩) (fun _ _ _ _ _ _ => hp _ _ _ _ ?_)
  split
  · exact qe_ae h (rsF_ae h.2.2.2.2.1)
  · exact qe_rf h
theorem kq_ofMachine (h : CI σ nF nL nC) (hp : KQ σ post) : q_L_ofMachine post a1 a2 n v σ := by
  unfold q_L_ofMachine
  exact s_X5_ofMachine h (fun _ => Or.inl ⟨rfl, hp _ _ _ _ (qe_rf h)⟩) (fun _ _ => Or.inr ⟨rfl, hp _ _ _ _ (qe_rf h)⟩) (fun _ _ _ _ _ _ => hp _ _ _ _ (qe_rf h))
theorem kq_has (h : CI σ nF nL nC) (hp : KQ σ post) : q_L_has post a1 a2 n v σ := by
  unfold q_L_has
  exact s_X5_has h (fun _ => ⟨rfl, hp _ _ _ _ (qe_rf h)⟩) (fun _ _ _ _ _ _ => hp _ _ _ _ (qe_rf h))
theorem kq_ofCommit (h : CI σ nF nL nC) (hp : KQ σ post) : q_L_ofCommit post a1 a2 n v σ := by
  unfold q_L_ofCommit
  exact s_X5_ofCommit h (fun _ => ⟨rfl, hp _ _ _ _ (qe_rf h)⟩) (fun _ _ _ _ _ _ => hp _ _ _ _ (qe_rf h))
theorem kq_house (h : CI σ nF nL nC) (hp : KQ σ post) : q_L_house post a1 n v σ := by
  unfold q_L_house
  exact s_X5_house h (fun _ => ⟨rfl, hp _ _ _ _ (qe_rf h)⟩) (fun _ _ _ => hp _ _ _ _ (qe_rf h))
theorem kq_value (h : CI σ nF nL nC) (hp : KQ σ post) : q_L_value post a1 n v σ := by
  unfold q_L_value
  exact s_X5_value h (fun _ => ⟨rfl, hp _ _ _ _ (qe_rf h)⟩) (fun _ _ => hp _ _ _ _ (qe_rf h))
theorem kq_reason (h : CI σ nF nL nC) (hp : KQ σ post) : q_L_reason post a1 n v σ := by
  unfold q_L_reason
  exact s_X5_reason h (fun _ => ⟨rfl, hp _ _ _ _ (qe_rf h)⟩) (fun _ => hp _ _ _ _ (qe_ae h (rsF_ae h.2.2.2.2.1)))
theorem kq_met (h : CI σ nF nL nC) (hp : KQ σ post) : q_L_met post a1 a2 n v σ := by
  unfold q_L_met
  exact s_X5_met h (fun _ => Or.inl ⟨rfl, hp _ _ _ _ (qe_rf h)⟩) (fun _ _ => Or.inr ⟨rfl, hp _ _ _ _ (qe_rf h)⟩) (fun _ _ _ _ => hp _ _ _ _ (qe_ae h bgM_ae))
theorem kq_choices (h : CI σ nF nL nC) (hp : KQ σ post) : q_L_choices post a1 a2 n v σ := by
  unfold q_L_choices
  refine s_X5_choices h (fun _ => Or.inl ⟨rfl, hp _ _ _ _ (qe_rf h)⟩) (fun _ _ => Or.inr ⟨rfl, hp _ _ _ _ (qe_rf h)⟩) (fun f _ _ _ => hp _ _ _ _ ⟨fun p hp => ?_, ?_, ctR_best.2 4 (by decide), ctR_best.2 5 (by decide)⟩)
  · by_cases e : p = 21
    · subst e; exact ctR_best.1
    · exact ctR_fr (by unfold chK; omega) (by omega) _ _ _
  rw [ctR_fr (by unfold chK; omega) (by decide)]; exact h.2.2.2.2.1
theorem kq_isNarrower (h : CI σ nF nL nC) (hp : KQ σ post) : q_L_isNarrower post a1 a2 n v σ := by
  unfold q_L_isNarrower
  exact s_X5_isNarrower h (fun _ => ⟨rfl, hp _ _ _ _ (qe_rf h)⟩) (fun _ _ _ _ _ _ r _ => ⟨fun _ => hp _ _ _ _ (qe_rf h), fun _ => hp _ _ _ _ (qe_rf h)⟩)
end KQW
/-! THE LOOP'S INVARIANT: side by side -/
def IV : NXT := fun σ _ _ _ g τ => ∃ nF : Nat, RR σ g τ nF
theorem tI_5 : ∀ m : Nat, m < 6 → tI 5 m = -1 := by decide +kernel
theorem tI_6 : ∀ i : Nat, i < 30 → tI 6 i = -1 := by decide +kernel
theorem sI_26 : ∀ m : Nat, m < 6 → sI 26 m = -1 := by decide +kernel
theorem sI_39 : ∀ m : Nat, m < 6 → ∀ f : Nat, f < 5 → sI (39 + m) f = -1 := by decide +kernel
theorem sI_22 : ∀ f : Nat, f < 5 → sI 22 f = -1 := by decide +kernel
theorem sI_21 : ∀ f : Nat, f < 5 → sI 21 f = -1 := by decide +kernel
theorem sI_lo : ∀ p : Nat, p ≤ 17 → ∀ j : Nat, sI p j = 0 := fun p hp j => by
  have e : ∀ p : Nat, p ≤ 17 → (Nat.beq p 18 = false) ∧ ((Nat.beq p 21 || Nat.beq p 22 || Nat.ble 39 p) = false) ∧ Nat.beq p 26 = false := by decide +kernel
  obtain ⟨e1, e2, e3⟩ := e p hp
  unfold sI
  rw [e1, e2, e3]
  rfl
theorem tI_z : ∀ p : Nat, p ≠ 5 → p ≠ 6 → ∀ j : Nat, tI p j = 0 := fun p h5 h6 j => by
  have e1 : Nat.beq p 5 = false := by
    cases hh : Nat.beq p 5 with
    | false => rfl
    | true => exact absurd (Nat.eq_of_beq_eq_true hh) h5
  have e2 : Nat.beq p 6 = false := by
    cases hh : Nat.beq p 6 with
    | false => rfl
    | true => exact absurd (Nat.eq_of_beq_eq_true hh) h6
  unfold tI
  rw [e1, e2]
  rfl
theorem ci_0 : CI sI 0 0 0 := by
  refine ⟨⟨by decide, by decide, rfl, rfl, fun j hj => absurd hj (Nat.not_lt_zero j)⟩, by decide, rfl, bz0, bz0, fun i => ?_, fun m hm => Or.inl (sI_26 m hm)⟩
  by_cases hi : i < 5
  · exact Or.inl (show fl_row 5 (-1) (fun _ => 0) i = -1 from if_pos hi)
  · exact Or.inr ⟨0, by decide, (show fl_row 5 (-1) (fun _ => 0) i = 0 from if_neg hi)⟩
theorem iv_start : ∀ (h8 : Nat) (u8 : Nat → Nat), IV sI 0 .null (amI h8 u8) (fun _ => 0) tI := fun _ _ => by
  refine ⟨0, (RR.mk (ci := ci_0) (lv := ⟨by decide, by decide, rfl, rfl, fun j hj => absurd hj (Nat.not_lt_zero j)⟩) (ag := fun p j a b c => ?_) (fr := fun j _ _ => ⟨tI_z _ (by omega) (by omega) 5, tI_z _ (by omega) (by omega) 6⟩) (oi := ⟨fun i _ => ⟨sI_lo 13 (by decide) i, sI_lo 17 (by decide) i⟩, rfl, fun f _ hf => sI_22 f hf, fun h => absurd h (Nat.not_lt_zero 0)⟩) (fl := fun m hm => Or.inl (tI_5 m hm)) (co := fun m hm => by rw [sI_26 m hm, tI_5 m hm]) (ha := fun m f a b => by rw [sI_39 m a f b, tI_6 _ (by omega)]) (kp := fun k f hk => absurd hk (Nat.not_lt_zero k)) (kn := rfl) (bh := fun f a b => ⟨fun m hm => tI_6 _ (by omega), fun k hk => absurd hk (Nat.not_lt_zero k)⟩) (te := fun f hf => absurd hf (Nat.not_lt_zero f)) (bw := ⟨fun f hf => absurd hf (Nat.not_lt_zero f), rfl, Or.inl ⟨by unfold cv_bS; rw [if_pos rfl], rfl, fun f hf => sI_21 f hf⟩⟩))⟩
  rw [sI_lo p (by omega) j]
  unfold tm
  show (0 : Int32) = if p = 1 then (if j = 9 then tI 0 3 else if j = 10 then nI 0 else 0) else _
  rw [tI_z 0 (by decide) (by decide), tI_z 1 (by decide) (by decide), tI_z 2 (by decide) (by decide), tI_z (100 + j) (by omega) (by omega), tI_z (100 + j) (by omega) (by omega), tI_z (100 + j) (by omega) (by omega), tI_z (100 + j) (by omega) (by omega), tI_z (100 + j) (by omega) (by omega), tI_z (100 + j) (by omega) (by omega), tI_z (100 + j) (by omega) (by omega)]
  show (0 : Int32) = if p = 1 then (if j = 9 then 0 else if j = 10 then 0 else 0) else _
  simp
