/-! THE CLASS: defaults, and what follows from the laws -/
def dfF (σ : Mem) (f : Nat) (rank : Int32) : Nat → Nat → Int32 → Int32
  | 0, _, x => x
  | d + 1, j, x => dfF σ f rank d (j + 1) (if σ 4 j = 5 ∧ σ 6 j = nI f ∧ σ 8 j = rank ∧ ctP σ j then x ||| ((1 : Int32) <<< (σ 7 j &&& 31)) else x)
theorem s_defaultsOf {post : Int32 → Mem → Prop} {σ : Mem} {nF nL f : Nat} {rank : Int32} (h : LV σ nF nL) (hp : post (dfF σ f rank nL 0 0) σ) : q_X2_defaultsOf post (nI f) rank σ := by
  unfold q_X2_defaultsOf
  have h30 := h.2.1
  have key : ∀ (d j : Nat) (x : Int32), j + d = nL → post (dfF σ f rank d j x) σ → lp_5 (q_X2_defaultsOf_5 post (q_X2_defaultsOf_74 post)) (d + 1) (nI f) rank x (nI j) σ := by
    intro d
    induction d with
    | zero =>
      intro j x hj hp
      show q_X2_defaultsOf_5 _ _ _ _ _ _ _ _
      unfold q_X2_defaultsOf_5 q_X2_defaultsOf_74
      rw [h.nl]
      exact ⟨fun _ => hp, fun q => absurd (nI_le (by omega) (by omega)) q⟩
    | succ d ih =>
      intro j x hj hp
      show q_X2_defaultsOf_5 _ _ _ _ _ _ _ _
      have e : (nI j).toNatClampNeg = j := nI_clamp (by omega)
      have hv : vp_in (nI j) 30 := vin_j (by omega) (by decide)
      unfold dfF at hp
      have nx : ¬ (σ 4 j = 5 ∧ σ 6 j = nI f ∧ σ 8 j = rank ∧ ctP σ j) → q_X2_defaultsOf_68 post (q_X2_defaultsOf_74 post) (lp_5 (q_X2_defaultsOf_5 post (q_X2_defaultsOf_74 post)) (d + 1)) (nI f) rank x (nI j) σ := fun hn => by
        unfold q_X2_defaultsOf_68
        rintro _ rfl
        rw [nI_1]
        rw [if_neg hn] at hp
        exact ih (j + 1) x (by omega) hp
      unfold q_X2_defaultsOf_5
      rw [h.nl, e]
      refine ⟨fun q => absurd ((nI_leI (by omega) (by omega)).mp q) (by omega), fun _ => ⟨hv, fun q => nx (fun z => q z.1), fun q => ⟨hv, fun q2 => nx (fun z => q2 z.2.1), fun q2 => ⟨hv, fun q3 => nx (fun z => q3 z.2.2.1), fun q3 => s_counts (by omega) (h.ab (by omega)) (fun r hr => ⟨fun z => nx (fun y => hr.f z y.2.2.2), fun z => ?_⟩)⟩⟩⟩⟩
      refine ⟨hv, ?_⟩
      unfold q_X2_defaultsOf_68
      rintro _ rfl _ rfl
      rw [nI_1]
      rw [if_pos ⟨q, q2, q3, hr.t z⟩] at hp
      exact ih (j + 1) _ (by omega) hp
  exact ⟨nL + 1, key nL 0 0 (Nat.zero_add nL) hp⟩
