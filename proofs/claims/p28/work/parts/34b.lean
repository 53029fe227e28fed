/-! WHAT A FIELD IS IS ONE OF WHAT IT MAY BE -/
theorem on_is {x : Int32} : ∀ (d : Nat), d ≤ 8 → ¬ onF x d = -1 → ∃ j : Nat, j < 8 ∧ onF x d = nI j ∧ x = (1 : Int32) <<< (nI j &&& 31) := by
  intro d
  induction d with
  | zero => intro _ h; exact absurd rfl h
  | succ d ih =>
    intro hd h
    unfold onF at h ⊢
    by_cases q : x = (1 : Int32) <<< (nI (7 - d) &&& 31)
    · rw [if_pos q]; exact ⟨7 - d, by omega, rfl, q⟩
    · rw [if_neg q] at h ⊢; exact ih (by omega) h
theorem is_may {σ τ : Mem} {g : Nat → Nat} {nF f : Nat} (h : RR σ g τ nF) (hf : f < nF) (hn : ¬ σ 22 f = -1) : ∃ j : Nat, j < 8 ∧ σ 22 f = nI j ∧ hasB (σ 13 f) (nI j) := by
  have h5 := h.lv.1
  obtain ⟨o1, o2, o3, o4⟩ := h.oi
  obtain ⟨k1, k2, k3, k4, k5⟩ := o4 (by omega)
  rw [k5 f hf] at hn ⊢
  obtain ⟨j, hj, e1, e2⟩ := on_is 8 (Nat.le_refl _) hn
  refine ⟨j, hj, e1, ?_⟩
  have s := sb_set h.ci.lv nF 0 _ _ (by omega) (aM_RW h.ci.lv) k4 f
  rw [← k1, e2] at s
  have b : hasB ((1 : Int32) <<< (nI j &&& 31) &&& σ 13 f) (nI j) := by rw [s]; exact (hasB_one2 hj hj).mpr rfl
  exact ((hasB_and hj).mp b).2
