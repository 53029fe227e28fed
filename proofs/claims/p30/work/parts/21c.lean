/-! THE REFERENCE: what a line lets and takes -/
theorem l1_a : ∀ j : Nat, j < 8 → (255 : Int32) &&& ((((1 : Int32) <<< (nI j &&& 31)) - 1) ^^^ (-1)) = ((255 : Int32) <<< (nI j &&& 31)) &&& 255 := by decide +kernel
theorem l1_b : ∀ j : Nat, j < 8 → ((2 : Int32) <<< (nI j &&& 31)) - 1 = (255 : Int32) >>> (((7 : Int32) - nI j) &&& 31) := by decide +kernel
theorem un_a : ∀ j : Nat, j < 256 → (bcF (nI j) = 1 → unF (nI j) = (255 : Int32) &&& (nI j ^^^ (-1))) ∧ (¬ bcF (nI j) = 1 → unF (nI j) = 255) := by decide +kernel
/-- a line of the reference in the class's words -/
abbrev K4 (n : Nat) (τ : Mem) (j : Nat) : Int32 := τ (100 + j) 0
/-- what a line lets the field be that it is about -/
def letA (σ : Mem) (j : Nat) (m : Mw) : Int32 := if σ 4 j = 3 ∨ σ 4 j = 4 then loF (σ 4 j) (σ 8 j) 0 (m (σ 7 j).toNatClampNeg) else l1F (σ 4 j) (σ 7 j)
theorem kd_le2 {x : Int32} (h : vp_in x 6) (h5 : ¬ x = 5) : (x ≤ 2 → ¬ (x = 3 ∨ x = 4) ∧ (x = 0 ∨ x = 1 ∨ x = 2)) ∧ (¬ x ≤ 2 → (x = 3 ∨ x = 4)) := by
  obtain ⟨j, hj, rfl⟩ := vin_ex (by decide) h
  rcases (show j = 0 ∨ j = 1 ∨ j = 2 ∨ j = 3 ∨ j = 4 ∨ j = 5 by omega) with rfl | rfl | rfl | rfl | rfl | rfl
  · exact ⟨fun _ => ⟨by decide, by decide⟩, fun q => absurd (by decide) q⟩
  · exact ⟨fun _ => ⟨by decide, by decide⟩, fun q => absurd (by decide) q⟩
  · exact ⟨fun _ => ⟨by decide, by decide⟩, fun q => absurd (by decide) q⟩
  · exact ⟨fun q => absurd q (by decide), fun _ => by decide⟩
  · exact ⟨fun q => absurd q (by decide), fun _ => by decide⟩
  · exact absurd rfl h5
theorem vin_idx {x : Int32} (h : vp_in x 5) : ∃ f : Nat, f < 5 ∧ x = nI f ∧ x.toNatClampNeg = f := by
  obtain ⟨f, hf, rfl⟩ := vin_ex (by decide) h
  exact ⟨f, hf, rfl, nI_clamp (by omega)⟩
/-- what one line of the set does to a row -/
theorem ln_two {σ : Mem} {j : Nat} {m : Mw} (h : σ 4 j = 3 ∨ σ 4 j = 4) : lnM σ j m = upd (upd m (σ 6 j).toNatClampNeg (m (σ 6 j).toNatClampNeg &&& letA σ j m)) (σ 7 j).toNatClampNeg (m (σ 7 j).toNatClampNeg &&& loF (σ 4 j) (σ 8 j) 1 (upd m (σ 6 j).toNatClampNeg (m (σ 6 j).toNatClampNeg &&& letA σ j m) (σ 6 j).toNatClampNeg)) := by
  unfold lnM tkF letA
  rw [if_pos h, if_pos h]
theorem ln_one {σ : Mem} {j : Nat} {m : Mw} (h : ¬ (σ 4 j = 3 ∨ σ 4 j = 4)) : lnM σ j m = upd m (σ 6 j).toNatClampNeg (m (σ 6 j).toNatClampNeg &&& letA σ j m) := by
  unfold lnM tkF letA
  rw [if_neg h, if_neg h]
/-- a default takes nothing away -/
theorem and_255 {x : Int32} (h : x &&& 255 = x) : x &&& 255 = x := h
theorem ln_def {σ : Mem} {j : Nat} {m : Mw} (h : σ 4 j = 5) (hm : RW m) : lnM σ j m = m ∧ lnC σ j m = false := by
  have hn : ¬ (σ 4 j = 3 ∨ σ 4 j = 4) := by rw [h]; decide
  have e1 : lnM σ j m = m := by
    rw [ln_one hn]
    unfold letA l1F
    rw [if_neg hn, h, if_neg (by decide), if_neg (by decide), if_neg (by decide), hm.2]
    exact upd_self
  refine ⟨e1, ?_⟩
  unfold lnC tkC
  rw [if_neg hn]
  have e2 : tkF (σ 4 j) (σ 6 j) (σ 7 j) (σ 8 j) m = m := e1
  rw [e2]
  simp
