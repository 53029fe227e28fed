/-! SIDE BY SIDE: commit -/
theorem on_no : ∀ i : Nat, i < 256 → ¬ bcF (nI i) = 1 → onF (nI i) 8 = -1 := by decide +kernel
theorem on_one : ∀ j : Nat, j < 8 → onF ((1 : Int32) <<< (nI j &&& 31)) 8 = nI j := by decide +kernel
section JC
variable {am g : Nat → Nat} {σ τ : Mem} {nF : Nat} {n : Int64} {v : Value}
/-- what a commit says of a field, out of the settled row -/
def cvF (nF : Nat) (m : Mw) (f : Nat) : Int32 := if f < nF then onF (m f) 8 else -1
theorem oi_row {m : Mw} (h : RR σ g τ nF) (hs : SetR (tm (g 0) τ) (stF (tm (g 0) τ) (g 0) 0 0) nF (g 0) nF 0 (aM (tm (g 0) τ) nF (g 0)) m) (f : Nat) (hf : f < 5) : σ 22 f = cvF nF m f := by
  unfold cvF
  by_cases q : f < nF
  · rw [if_pos q]
    obtain ⟨o1, o2, o3, o4⟩ := h.oi
    obtain ⟨k1, k2, k3, k4, k5⟩ := o4 (by omega)
    have hL := h.ci.lv
    have e := ag_set h.ag hL _ _ _ _ k4
    rw [ag_st h.ag hL (g 0) 0 0 (Nat.zero_add _), (ag_a h.ag hL).1] at e
    rw [k5 f q, SetR.det _ _ _ _ _ e hs]
  · rw [if_neg q]
    exact h.oi.2.2.1 f (by omega) hf
theorem rr_commit {g1 : Nat → Nat} {wr : Nat → Int32} {y : Int32} (h : RR σ g τ nF) (hlt : g 2 < 12) (e0 : g1 0 = g 0) (e2 : g1 2 = g 2 + 1) (hw : ∀ f : Nat, f < 5 → wr f = σ 22 f) : RR (kpM (g 2) σ) g1 (mup (mst τ 4 0 y) (200 + g 2) wr) nF := by
  have h5 := h.lv.1
  have k : ∀ p : Nat, p ≠ 23 → p ≠ 27 + g 2 → kpM (g 2) σ p = σ p := fun p a b => by unfold kpM; rw [mst_ne a, mup_ne b]
  have kr : kpM (g 2) σ (27 + g 2) = cp5 (σ 22) (σ (27 + g 2)) := by unfold kpM; rw [mst_ne (by omega), mup_eq]
  have t : ∀ p : Nat, p ≠ 4 → p ≠ 200 + g 2 → mup (mst τ 4 0 y) (200 + g 2) wr p = τ p := fun p a b => by rw [mup_ne b, mst_ne a]
  have tr : mup (mst τ 4 0 y) (200 + g 2) wr (200 + g 2) = wr := mup_eq
  refine h.fle e0 (by omega) (fun p hp => k p (by omega) (by omega)) (by unfold kpM; rw [mst_eq, upd_eq, e2]) (fun p hp => t p (by omega) (by omega)) (fun i _ => by rw [t 0 (by decide) (by omega)]) (fun m hm => ?_) (fun m hm => by rw [k 26 (by decide) (by omega), t 5 (by decide) (by omega)]; exact h.co m hm) (fun m f a b => by rw [k (39 + m) (by omega) (by omega), t 6 (by decide) (by omega)]; exact h.ha m f a b) (fun q f a b => ?_) (fun f a b => ⟨fun m hm => by rw [t 6 (by decide) (by omega)]; exact (h.bh f a b).1 m hm, fun q hq => ?_⟩)
  · have := h.fl m hm
    unfold FLm at this ⊢
    rw [t 5 (by decide) (by omega), t 6 (by decide) (by omega)]
    rcases this with q | ⟨k2, hk2, ek, hf9⟩
    · exact Or.inl q
    · exact Or.inr ⟨k2, by omega, ek, fun f hf => by rw [t (200 + k2) (by omega) (by omega)]; exact hf9 f hf⟩
  · by_cases e : q = g 2
    · subst e; rw [kr, tr, cp_lt b, hw f b]
    · rw [k (27 + q) (by omega) (by omega), t (200 + q) (by omega) (by omega)]; exact h.kp q f (by omega) b
  · by_cases e : q = g 2
    · subst e; rw [tr, hw f b]; exact h.oi.2.2.1 f a b
    · rw [t (200 + q) (by omega) (by omega)]; exact (h.bh f a b).2 q (by omega)
end JC
