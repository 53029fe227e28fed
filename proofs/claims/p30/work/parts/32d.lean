/-! SIDE BY SIDE: approve, withdraw, weight, knock, what is only asked -/
section JX
variable {am g : Nat → Nat} {a1 a2 a3 a4 : Int32} {σ τ : Mem} {nF : Nat} {n : Int64} {v : Value}
/-- a place of a line written on both sides: 9 and 5, or 10 and 6 -/
theorem rr_mk {j p i : Nat} {y : Int32} (h : RR σ g τ nF) (hj : j < g 0) (hp : p = 9 ∧ i = 5 ∨ p = 10 ∧ i = 6) : RR (rnw nF (g 0) (mst σ p j y)) g (mst (mst τ 0 0 0) (100 + j) i y) nF := by
  have h30 := h.lv.2.1
  have k : ∀ q : Nat, q ≠ 0 → q ≠ 100 + j → mst (mst τ 0 0 0) (100 + j) i y q = τ q := fun q a b => by rw [mst_ne b, mst_ne a]
  have k0 : ∀ q : Nat, q ≠ 0 → mst (mst τ 0 0 0) (100 + j) i y 0 q = τ 0 q := fun q a => by rw [mst_ne (by omega), mst_eq, upd_ne a]
  have kj : mst (mst τ 0 0 0) (100 + j) i y (100 + j) = upd (τ (100 + j)) i y := by rw [mst_eq, mst_ne (by omega)]
  have A : Agr (mst σ p j y) (tm (g 0) (mst (mst τ 0 0 0) (100 + j) i y)) := fun q t a b c => by
    have hag := h.ag q t a b c
    by_cases e : q = p
    · subst e
      rw [mst_eq]
      rcases hp with ⟨rfl, rfl⟩ | ⟨rfl, rfl⟩
      · show upd (σ 9) j y t = mst (mst τ 0 0 0) (100 + j) 5 y (100 + t) 5
        by_cases e2 : t = j
        · subst e2; rw [upd_eq, kj, upd_eq]
        · rw [upd_ne e2, k (100 + t) (by omega) (by omega)]; exact hag
      · show upd (σ 10) j y t = mst (mst τ 0 0 0) (100 + j) 6 y (100 + t) 6
        by_cases e2 : t = j
        · subst e2; rw [upd_eq, kj, upd_eq]
        · rw [upd_ne e2, k (100 + t) (by omega) (by omega)]; exact hag
    · rw [mst_ne e, hag]
      have kk : ∀ i2 : Nat, i2 ≠ i → mst (mst τ 0 0 0) (100 + j) i y (100 + t) i2 = τ (100 + t) i2 := fun i2 hne => by
        by_cases e2 : t = j
        · subst e2; rw [kj, upd_ne hne]
        · rw [k (100 + t) (by omega) (by omega)]
      unfold tm
      rw [k0 3 (by decide), k 1 (by decide) (by omega), k 2 (by decide) (by omega), kk 0 (by omega), kk 1 (by omega), kk 2 (by omega), kk 3 (by omega), kk 4 (by omega)]
      rcases hp with ⟨rfl, rfl⟩ | ⟨rfl, rfl⟩
      · rw [kk 6 (by omega)]
        by_cases e3 : q = 9
        · exact absurd e3 e
        · simp only [if_neg e3]
      · rw [kk 5 (by omega)]
        by_cases e3 : q = 10
        · exact absurd e3 e
        · simp only [if_neg e3]
  have hL9 : LV (tm (g 0) (mst (mst τ 0 0 0) (100 + j) i y)) nF (g 0) := ag_lv A (h.ci.lv.mst9 (by omega))
  refine h.t (fun q hq => mst_ne (by omega)) (Nat.le_refl _) rfl hL9 A (fun t a b => ?_) (k 5 (by decide) (by omega)) (k 6 (by decide) (by omega)) (fun q hq => k (200 + q) (by omega) (by omega)) (k0 8 (by decide)) (fun f hf => by rw [k 1 (by decide) (by omega)]; exact h.te f hf) (fun f hf => by rw [mst_ne (by omega)]; exact h.bw.1 f hf)
  rw [k (100 + t) (by omega) (by omega)]
  exact h.fr t a b
theorem bl_eq {c : Prop} {r s : Int32} (h : bl c r) (h2 : bl c s) : r = s := by
  rcases bz_or h.1 with e | e <;> rcases bz_or h2.1 with e2 | e2
  · rw [e, e2]
  · exact absurd (h2.t (by rw [e2]; decide)) (h.f e)
  · exact absurd (h.t (by rw [e]; decide)) (h2.f e2)
  · rw [e, e2]
theorem RR.ref1 {x : Int32} (h : RR σ g τ nF) : RR σ g (mst τ 0 0 x) nF := h.q (fun _ _ => rfl) ⟨h.ci.2.2.2.2.1, rfl, rfl⟩ (mst0_we (by omega))
/-- what may come of approve and withdraw: a truth told as a number -/
abbrev J3 (g : Nat → Nat) (K : Int32 → Mem → Int64 → Value → Int32 → Mem → Prop) : Prop := ∀ (k : Int32) (σ2 : Mem) (n3 : Int64) (v4 : Value) (r5 : Int32) (τ6 : Mem) (nF' : Nat), RR σ2 g τ6 nF' → τ6 0 0 = k → (k = 0 → bz r5 ∧ n3 = (if r5 = 0 then 0 else 1)) → K k σ2 n3 v4 r5 τ6
/-- a weight told -/
theorem rr_wt {f : Nat} {y : Int32} (h : RR σ g τ nF) (hf : f < 5) (hy : vp_in y 10) : RR (rnw nF (g 0) (mst σ 3 f y)) g (mst (mst τ 0 0 0) 2 f y) nF := by
  have k : ∀ q : Nat, q ≠ 0 → q ≠ 2 → mst (mst τ 0 0 0) 2 f y q = τ q := fun q a b => by rw [mst_ne b, mst_ne a]
  have k0 : ∀ q : Nat, q ≠ 0 → mst (mst τ 0 0 0) 2 f y 0 q = τ 0 q := fun q a => by rw [mst_ne (by omega), mst_eq, upd_ne a]
  have A : Agr (mst σ 3 f y) (tm (g 0) (mst (mst τ 0 0 0) 2 f y)) := fun q t a b c => by
    have hag := h.ag q t a b c
    by_cases e : q = 3
    · subst e
      show mst σ 3 f y 3 t = mst (mst τ 0 0 0) 2 f y 2 t
      have hag : σ 3 t = τ 2 t := hag
      rw [mst_eq, mst_eq, mst_ne (show (2 : Nat) ≠ 0 by decide)]
      by_cases e2 : t = f
      · subst e2; rw [upd_eq, upd_eq]
      · rw [upd_ne e2, upd_ne e2]; exact hag
    · rw [mst_ne e, hag]
      unfold tm
      rw [k0 3 (by decide), k 1 (by decide) (by decide), k (100 + t) (by omega) (by omega)]
      simp only [if_neg e]
  have hL9 : LV (tm (g 0) (mst (mst τ 0 0 0) 2 f y)) nF (g 0) := ag_lv A (h.ci.lv.mst9 (by omega))
  refine h.t (fun q hq => mst_ne (by omega)) (Nat.le_refl _) rfl hL9 A (fun t a b => ?_) (k 5 (by decide) (by omega)) (k 6 (by decide) (by omega)) (fun q hq => k (200 + q) (by omega) (by omega)) (k0 8 (by decide)) (fun f hf => by rw [k 1 (by decide) (by omega)]; exact h.te f hf) (fun f2 hf2 => ?_)
  rotate_left
  · rw [mst_eq]
    by_cases e : f2 = f
    · subst e; rw [upd_eq]; exact hy
    · rw [upd_ne e]; exact h.bw.1 f2 hf2
  rw [k (100 + t) (by omega) (by omega)]
  exact h.fr t a b
end JX
