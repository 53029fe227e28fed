/-! THE CLASS: every word keeps its invariant, and how often it was refused -/
def CK (σ σ' : Mem) : Prop := (∃ nF nL nC : Nat, CI σ' nF nL nC) ∧ σ' 0 3 = σ 0 3
abbrev KP (σ : Mem) (post : Int32 → Mem → Int64 → Value → Prop) : Prop := ∀ (k : Int32) (σ' : Mem) (n : Int64) (v : Value), CK σ σ' → post k σ' n v
theorem ck_rf {σ : Mem} {nF nL nC : Nat} (h : CI σ nF nL nC) : CK σ σ := ⟨⟨_, _, _, h⟩, rfl⟩
theorem ck_ae {σ τ : Mem} {nF nL nC : Nat} (h : CI σ nF nL nC) (ha : AE σ τ) : CK σ τ := ⟨⟨_, _, _, ha.ci h⟩, by rw [ha.1 0 (by decide) (by decide)]⟩
theorem ck_rnw {σ τ : Mem} {nF nL nC nF' nL' : Nat} (h : CI σ nF nL nC) (hL : LV τ nF' nL') (e : ∀ p : Nat, 10 < p → τ p = σ p) (e0 : τ 0 = σ 0) : CK σ (rnw nF' nL' τ) := ⟨⟨_, _, _, h.rnw hL e⟩, by rw [rnw_fr (by omega), e0]⟩
theorem ck_ln {σ : Mem} {nF nL nC : Nat} {kd by_ ab sd bs : Int32} (h : CI σ nF nL nC) (hn : nL < 30) (hk : lnOk nF kd ab sd bs) : CK σ (rnw nF (nL + 1) (lnN nL kd by_ ab sd bs σ)) := ck_rnw h (lnN_lv h.lv hn hk) (fun p hp => lnN_hi (by omega)) (lnN_hi (by omega))
theorem ck_hi {σ τ : Mem} {nF nL nC : Nat} (h : CI σ nF nL nC) (e : ∀ p : Nat, p < 39 → τ p = σ p) : CK σ τ := by
  obtain ⟨h1, h2, h3, h4, h5, h6, h7⟩ := h
  refine ⟨⟨nF, nL, nC, h1.sm (fun p hp => e p (by omega)), h2, by rw [e 23 (by omega)]; exact h3, by rw [e 12 (by omega)]; exact h4, by rw [e 14 (by omega)]; exact h5, by rw [e 22 (by omega)]; exact h6, by rw [e 26 (by omega)]; exact h7⟩, by rw [e 0 (by omega)]⟩
section KW
variable {post : Int32 → Mem → Int64 → Value → Prop} {σ : Mem} {nF nL nC : Nat} {a1 a2 a3 a4 : Int32} {n : Int64} {v : Value}
theorem lo10 {x : Int32} (h1 : ¬ x < 0) (h2 : x ≤ 9) : vp_in x 10 := vin_lo (by decide) h1 (fun q => by
  rw [Int32.le_iff_toInt_le] at q h2
  have e1 : (9 : Int32).toInt = 9 := by decide
  have e2 : (nI 10).toInt = 10 := by decide
  omega)
theorem wv_26 {c : Nat} {set : Int32} {nC : Nat} (hc : c < nC) (h12 : nC ≤ 12) : ∀ (d m : Nat) (x : Int32) (σ : Mem), (∀ i : Nat, i < 6 → σ 26 i = -1 ∨ vp_in (σ 26 i) nC) → ∀ i : Nat, i < 6 → (wvF c set d m x σ).2 26 i = -1 ∨ vp_in ((wvF c set d m x σ).2 26 i) nC := by
  intro d
  induction d with
  | zero => intro m x σ h; exact h
  | succ d ih =>
    intro m x σ h
    unfold wvF
    split
    · exact ih _ _ _ h
    · refine ih _ _ _ (fun i hi => ?_)
      have e : brM σ m c 26 = upd (σ 26) m (nI c) := by
        unfold brM
        rw [mup_ne (by omega), mst_eq]
      rw [e]
      by_cases z : i = m
      · subst z; rw [upd_eq]; exact Or.inr (vin_j hc (by omega))
      · rw [upd_ne z]; exact h i hi
end KW
