/-! A REASON STAYS A CONTRADICTION; DRIFT WANTS A COMMIT -/
theorem rs_keeps {σ τ : Mem} {g : Nat → Nat} {nF : Nat} (h : RR σ g τ nF) : ∀ (d j : Nat) (kept : Int32) (ρ : Mem), j + d = g 0 → Tr σ ρ → ¬ mtC (tm (g 0) τ) kept nF (g 0) full = 0 → ¬ mtC (tm (g 0) τ) (rsL false 0 nF (g 0) d j kept ρ).1 nF (g 0) full = 0 := by
  have h30 := h.lv.2.1
  intro d
  induction d with
  | zero => intro j kept ρ _ _ hc; exact hc
  | succ d ih =>
    intro j kept ρ hj ht hc
    unfold rsL
    split
    · exact ih (j + 1) kept ρ (by omega) ht hc
    · have t := tr_bg (set := kept &&& (((1 : Int32) <<< (nI j &&& 31)) ^^^ (-1))) (f := 0) h ht (by decide)
      split
      · rename_i hq
        refine ih (j + 1) _ _ (by omega) t.2.2 ?_
        rcases hq with hq | hq
        · exact absurd hq.1 (by decide)
        · rw [← t.2.1]; exact hq.2
      · exact ih (j + 1) kept _ (by omega) t.2.2 hc
theorem no_drift {σ τ : Mem} {g : Nat → Nat} {nF m : Nat} (h : RR σ g τ nF) (hm : m < 6) (he : σ 26 m = -1) : dgF σ m 5 0 0 = 0 := by
  have key : ∀ (d f : Nat) (x : Int32), dgF σ m d f x = x := by
    intro d
    induction d with
    | zero => intro f x; rfl
    | succ d ih =>
      intro f x
      unfold dgF
      rw [if_neg ((h.tk hm).1 ((h.co m hm).symm.trans he) f)]
      exact ih (f + 1) x
  exact key 5 0 0
