/-! SIDE BY SIDE: lines told -/
def lnT (n : Nat) (kd by_ ab sd bs : Int32) (τ : Mem) : Mem := mup (mst (mst τ 0 0 0) 3 0 (mst τ 0 0 0 3 0 + 1)) (100 + n) (lnR kd by_ ab sd bs 0 0)
abbrev two (kd : Int32) : Prop := kd = 3 ∨ kd = 4
theorem rr_tell {σ τ : Mem} {g g1 : Nat → Nat} {nF : Nat} {kd by_ ab sd bs : Int32} (h : RR σ g τ nF) (hlt : g 0 < 30) (e0 : g1 0 = g 0 + 1) (e2 : g1 2 = g 2) (hk : lnOk nF kd ab sd bs) : RR (rnw nF (g 0 + 1) (lnN (g 0) kd by_ ab sd bs σ)) g1 (lnT (g 0) kd by_ ab sd bs τ) nF ∧ lnT (g 0) kd by_ ab sd bs τ 0 0 = 0 := by
  have k : ∀ p : Nat, p ≠ 0 → p ≠ 3 → p ≠ 100 + g 0 → lnT (g 0) kd by_ ab sd bs τ p = τ p := fun p a b c => by
    unfold lnT
    rw [mup_ne c, mst_ne b, mst_ne a]
  have k0 : ∀ i : Nat, i ≠ 0 → lnT (g 0) kd by_ ab sd bs τ 0 i = τ 0 i := fun i a => by
    unfold lnT
    rw [mup_ne (by omega), mst_ne (by decide), mst_eq, upd_ne a]
  have kl : lnT (g 0) kd by_ ab sd bs τ (100 + g 0) = lnR kd by_ ab sd bs 0 0 := by
    unfold lnT
    rw [mup_eq]
  have fr := h.fr (g 0) (Nat.le_refl _) hlt
  have A : Agr (lnN (g 0) kd by_ ab sd bs σ) (tm (g 0 + 1) (lnT (g 0) kd by_ ab sd bs τ)) := fun p j a b c => by
    have hag := h.ag p j a b c
    -- places 4 to 8: a line written; 9, 10: nothing
    have ln : ∀ (q i : Nat) (y : Int32), lnR kd by_ ab sd bs 0 0 i = y → lnN (g 0) kd by_ ab sd bs σ q = upd (σ q) (g 0) y → σ q j = τ (100 + j) i → lnN (g 0) kd by_ ab sd bs σ q j = lnT (g 0) kd by_ ab sd bs τ (100 + j) i := fun q i y ey eq es => by
      rw [eq]
      by_cases e : j = g 0
      · subst e; rw [upd_eq, kl, ey]
      · rw [upd_ne e, k (100 + j) (by omega) (by omega) (by omega)]; exact es
    have lo : ∀ (q i : Nat), (q = 9 ∧ i = 5 ∨ q = 10 ∧ i = 6) → σ q j = τ (100 + j) i → lnN (g 0) kd by_ ab sd bs σ q j = lnT (g 0) kd by_ ab sd bs τ (100 + j) i := fun q i hq es => by
      rw [lnN_hi (by omega), es]
      by_cases e : j = g 0
      · subst e
        rw [kl]
        rcases hq with ⟨-, rfl⟩ | ⟨-, rfl⟩
        · exact fr.1
        · exact fr.2
      · rw [k (100 + j) (by omega) (by omega) (by omega)]
    rcases (show p = 1 ∨ p = 2 ∨ p = 3 ∨ p = 4 ∨ p = 5 ∨ p = 6 ∨ p = 7 ∨ p = 8 ∨ p = 9 ∨ p = 10 by omega) with rfl | rfl | rfl | rfl | rfl | rfl | rfl | rfl | rfl | rfl
    · show lnN (g 0) kd by_ ab sd bs σ 1 j = (if j = 9 then lnT (g 0) kd by_ ab sd bs τ 0 3 else if j = 10 then nI (g 0 + 1) else 0)
      have hag : σ 1 j = (if j = 9 then τ 0 3 else if j = 10 then nI (g 0) else 0) := hag
      rw [lnN_1, k0 3 (by decide)]
      by_cases e : j = 10
      · subst e; rw [upd_eq]; rfl
      · rw [upd_ne e, hag, if_neg e, if_neg e]
    · show lnN (g 0) kd by_ ab sd bs σ 2 j = lnT (g 0) kd by_ ab sd bs τ 1 j
      rw [lnN_hi (by omega), k 1 (by omega) (by omega) (by omega)]; exact hag
    · show lnN (g 0) kd by_ ab sd bs σ 3 j = lnT (g 0) kd by_ ab sd bs τ 2 j
      rw [lnN_hi (by omega), k 2 (by omega) (by omega) (by omega)]; exact hag
    · exact ln 4 0 kd rfl lnN_4 hag
    · exact ln 5 1 by_ rfl lnN_5 hag
    · exact ln 6 2 ab rfl lnN_6 hag
    · exact ln 7 3 sd rfl lnN_7 hag
    · exact ln 8 4 bs rfl lnN_8 hag
    · exact lo 9 5 (by omega) hag
    · exact lo 10 6 (by omega) hag
  have hL9 : LV (tm (g 0 + 1) (lnT (g 0) kd by_ ab sd bs τ)) nF (g 0 + 1) := ag_lv A (lnN_lv h.ci.lv hlt hk)
  refine ⟨?_, ?_⟩
  · rw [← e0] at A hL9 ⊢
    refine h.t (fun p hp => lnN_hi (by omega)) (Nat.le_refl _) e2 hL9 A (fun j a b => ?_) (k 5 (by omega) (by omega) (by omega)) (k 6 (by omega) (by omega) (by omega)) (fun q hq => k (200 + q) (by omega) (by omega) (by omega)) (k0 8 (by decide)) (fun f hf => by rw [k 1 (by omega) (by omega) (by omega)]; exact h.te f hf) (fun f hf => by rw [lnN_hi (by omega)]; exact h.bw.1 f hf)
    rw [k (100 + j) (by omega) (by omega) (by omega)]
    exact h.fr j (by omega) b
  · unfold lnT
    rw [mup_ne (by omega), mst_ne (by decide), mst_eq, upd_eq]
